/-! ===== the methods as functions, each with its proof: made by program (gen_fun.py) ===== -/
/-! ## TableColumnBalancerModel.<init> -/
abbrev mM_X9_init : Mi := (8, yX9_init.cls, cX9_init, 1, (Option.none : Option Jvm.ClassFile.FieldType), [], true)
noncomputable def f_X9_init_L165 (h : Hp) (a0 : Nat) : Option (Rs Unit) :=
  chk (qN h + 1 < 1000000) <|
  lt (newO h 20 1600 1600) fun h2 =>
  chk (okr h2 a0 9) <|
  lt (putR h2 a0 28 (qN h + 1)) fun h4 =>
  chk (qN h4 + 1 < 1000000) <|
  lt (newO h4 20 6 6) fun h6 =>
  lt (putR h6 a0 29 (qN h4 + 1)) fun h7 =>
  chk (qN h7 + 1 < 1000000) <|
  lt (newO h7 20 4 4) fun h9 =>
  lt (putR h9 a0 30 (qN h7 + 1)) fun h10 =>
  chk (qN h10 + 1 < 1000000) <|
  lt (newO h10 20 4 4) fun h12 =>
  lt (putR h12 a0 31 (qN h10 + 1)) fun h13 =>
  chk (qN h13 + 1 < 1000000) <|
  lt (newO h13 20 4 4) fun h15 =>
  lt (putR h15 a0 33 (qN h13 + 1)) fun h16 =>
  chk (okr h16 (qR h16 a0 1) 20) <|
  chk (vp_in (iN 0) (qW h16 (qR h16 a0 1))) <|
  lt (putI h16 (qR h16 a0 1) (Int32.toNatClampNeg (iN 0)) (iN 3)) fun h19 =>
  chk (okr h19 (qR h19 a0 1) 20) <|
  chk (vp_in (iN 1) (qW h19 (qR h19 a0 1))) <|
  lt (putI h19 (qR h19 a0 1) (Int32.toNatClampNeg (iN 1)) (iN 30)) fun h22 =>
  chk (okr h22 (qR h22 a0 1) 20) <|
  chk (vp_in (iN 2) (qW h22 (qR h22 a0 1))) <|
  lt (putI h22 (qR h22 a0 1) (Int32.toNatClampNeg (iN 2)) (iN 1)) fun h25 =>
  some (h25, .inr ())
theorem p_X9_init_L165 {l : Launch} {K : Ctx} (hl : l.stackTraces = false) {h : Hp} {a0 : Nat} {t : Rs Unit} (e : f_X9_init_L165 h a0 = some t) : X l K mM_X9_init (tgV t) 165 [(0, .ref a0)] [] h := by
  unfold f_X9_init_L165 at e
  refine x_aload_n (pc := 165) 0 dX9_init_165 rfl ?_
  refine x_sipush (pc := 166) (v := iN 1600) dX9_init_166 rfl ?_
  obtain ⟨q1, e⟩ := chk_some e
  replace e := lt_go e
  refine x_newa (pc := 169) (atype := .int) (t := 0) (w := 1600) rfl (by decide) tw_1_103 dX9_init_169 (by decide) (by decide) (by decide) q1 ?_
  obtain ⟨q3, e⟩ := chk_some e
  replace e := lt_go e
  refine x_putR (pc := 171) pf_X9_69 rfl okr_new.1 (fun _ => rfl) (fun _ => rfl) dX9_init_171 q3 ?_
  refine x_aload_n (pc := 174) 0 dX9_init_174 rfl ?_
  refine x_bipush (pc := 175) (v := iN 6) dX9_init_175 rfl ?_
  obtain ⟨q5, e⟩ := chk_some e
  replace e := lt_go e
  refine x_newa (pc := 177) (atype := .int) (t := 0) (w := 6) rfl (by decide) tw_1_103 dX9_init_177 (by decide) (by decide) (by decide) q5 ?_
  replace e := lt_go e
  refine x_putR (pc := 179) pf_X9_72 rfl okr_new.1 (fun _ => rfl) (fun _ => rfl) dX9_init_179 (okr_nw (okr_pR q3)) ?_
  refine x_aload_n (pc := 182) 0 dX9_init_182 rfl ?_
  refine x_iconst (pc := 183) dX9_init_183 ?_
  obtain ⟨q8, e⟩ := chk_some e
  replace e := lt_go e
  refine x_newa (pc := 184) (atype := .int) (t := 0) (w := 4) rfl (by decide) tw_1_103 dX9_init_184 (by decide) (by decide) (by decide) q8 ?_
  replace e := lt_go e
  refine x_putR (pc := 186) pf_X9_75 rfl okr_new.1 (fun _ => rfl) (fun _ => rfl) dX9_init_186 (okr_nw (okr_pR (okr_nw (okr_pR q3)))) ?_
  refine x_aload_n (pc := 189) 0 dX9_init_189 rfl ?_
  refine x_iconst (pc := 190) dX9_init_190 ?_
  obtain ⟨q11, e⟩ := chk_some e
  replace e := lt_go e
  refine x_newa (pc := 191) (atype := .int) (t := 0) (w := 4) rfl (by decide) tw_1_103 dX9_init_191 (by decide) (by decide) (by decide) q11 ?_
  replace e := lt_go e
  refine x_putR (pc := 193) pf_X9_78 rfl okr_new.1 (fun _ => rfl) (fun _ => rfl) dX9_init_193 (okr_nw (okr_pR (okr_nw (okr_pR (okr_nw (okr_pR q3)))))) ?_
  refine x_aload_n (pc := 196) 0 dX9_init_196 rfl ?_
  refine x_iconst (pc := 197) dX9_init_197 ?_
  obtain ⟨q14, e⟩ := chk_some e
  replace e := lt_go e
  refine x_newa (pc := 198) (atype := .int) (t := 0) (w := 4) rfl (by decide) tw_1_103 dX9_init_198 (by decide) (by decide) (by decide) q14 ?_
  replace e := lt_go e
  refine x_putR (pc := 200) pf_X9_81 rfl okr_new.1 (fun _ => rfl) (fun _ => rfl) dX9_init_200 (okr_nw (okr_pR (okr_nw (okr_pR (okr_nw (okr_pR (okr_nw (okr_pR q3)))))))) ?_
  refine x_aload_n (pc := 203) 0 dX9_init_203 rfl ?_
  obtain ⟨q17, e⟩ := chk_some e
  refine x_getR (pc := 204) gf_X9_9 rfl dX9_init_204 (okr_pR (okr_nw (okr_pR (okr_nw (okr_pR (okr_nw (okr_pR (okr_nw (okr_pR q3))))))))) q17.1 ?_
  refine x_iconst (pc := 207) dX9_init_207 ?_
  refine x_iconst (pc := 208) dX9_init_208 ?_
  obtain ⟨q18, e⟩ := chk_some e
  replace e := lt_go e
  refine x_iast (pc := 209) dX9_init_209 q17 q18 ?_
  refine x_aload_n (pc := 210) 0 dX9_init_210 rfl ?_
  obtain ⟨q20, e⟩ := chk_some e
  refine x_getR (pc := 211) gf_X9_9 rfl dX9_init_211 (okr_pI (okr_pR (okr_nw (okr_pR (okr_nw (okr_pR (okr_nw (okr_pR (okr_nw (okr_pR q3)))))))))) q20.1 ?_
  refine x_iconst (pc := 214) dX9_init_214 ?_
  refine x_bipush (pc := 215) (v := iN 30) dX9_init_215 rfl ?_
  obtain ⟨q21, e⟩ := chk_some e
  replace e := lt_go e
  refine x_iast (pc := 217) dX9_init_217 q20 q21 ?_
  refine x_aload_n (pc := 218) 0 dX9_init_218 rfl ?_
  obtain ⟨q23, e⟩ := chk_some e
  refine x_getR (pc := 219) gf_X9_9 rfl dX9_init_219 (okr_pI (okr_pI (okr_pR (okr_nw (okr_pR (okr_nw (okr_pR (okr_nw (okr_pR (okr_nw (okr_pR q3))))))))))) q23.1 ?_
  refine x_iconst (pc := 222) dX9_init_222 ?_
  refine x_iconst (pc := 223) dX9_init_223 ?_
  obtain ⟨q24, e⟩ := chk_some e
  replace e := lt_go e
  refine x_iast (pc := 224) dX9_init_224 q23 q24 ?_
  cases Option.some.inj e
  exact x_vret (pc := 225) rfl dX9_init_225
noncomputable def f_X9_init_L91 (h : Hp) (a0 : Nat) : Option (Rs Unit) :=
  chk (qN h + 1 < 1000000) <|
  lt (newO h 20 12 12) fun h2 =>
  chk (okr h2 a0 9) <|
  lt (putR h2 a0 16 (qN h + 1)) fun h4 =>
  chk (qN h4 + 1 < 1000000) <|
  lt (newO h4 20 12 12) fun h6 =>
  lt (putR h6 a0 17 (qN h4 + 1)) fun h7 =>
  chk (qN h7 + 1 < 1000000) <|
  lt (newO h7 20 12 12) fun h9 =>
  lt (putR h9 a0 19 (qN h7 + 1)) fun h10 =>
  chk (qN h10 + 1 < 1000000) <|
  lt (newO h10 20 4 4) fun h12 =>
  lt (putR h12 a0 21 (qN h10 + 1)) fun h13 =>
  chk (qN h13 + 1 < 1000000) <|
  lt (newO h13 20 4 4) fun h15 =>
  lt (putR h15 a0 22 (qN h13 + 1)) fun h16 =>
  chk (qN h16 + 1 < 1000000) <|
  lt (newO h16 20 4 4) fun h18 =>
  lt (putR h18 a0 23 (qN h16 + 1)) fun h19 =>
  chk (qN h19 + 1 < 1000000) <|
  lt (newO h19 20 4 4) fun h21 =>
  lt (putR h21 a0 24 (qN h19 + 1)) fun h22 =>
  chk (qN h22 + 1 < 1000000) <|
  lt (newO h22 20 4 4) fun h24 =>
  lt (putR h24 a0 25 (qN h22 + 1)) fun h25 =>
  chk (qN h25 + 1 < 1000000) <|
  lt (newO h25 20 16 16) fun h27 =>
  lt (putR h27 a0 26 (qN h25 + 1)) fun h28 =>
  chk (qN h28 + 1 < 1000000) <|
  lt (newO h28 20 4 4) fun h30 =>
  lt (putR h30 a0 27 (qN h28 + 1)) fun h31 =>
  f_X9_init_L165 h31 a0
theorem p_X9_init_L91 {l : Launch} {K : Ctx} (hl : l.stackTraces = false) {h : Hp} {a0 : Nat} {t : Rs Unit} (e : f_X9_init_L91 h a0 = some t) : X l K mM_X9_init (tgV t) 91 [(0, .ref a0)] [] h := by
  unfold f_X9_init_L91 at e
  refine x_aload_n (pc := 91) 0 dX9_init_91 rfl ?_
  refine x_bipush (pc := 92) (v := iN 12) dX9_init_92 rfl ?_
  obtain ⟨q1, e⟩ := chk_some e
  replace e := lt_go e
  refine x_newa (pc := 94) (atype := .int) (t := 0) (w := 12) rfl (by decide) tw_1_103 dX9_init_94 (by decide) (by decide) (by decide) q1 ?_
  obtain ⟨q3, e⟩ := chk_some e
  replace e := lt_go e
  refine x_putR (pc := 96) pf_X9_39 rfl okr_new.1 (fun _ => rfl) (fun _ => rfl) dX9_init_96 q3 ?_
  refine x_aload_n (pc := 99) 0 dX9_init_99 rfl ?_
  refine x_bipush (pc := 100) (v := iN 12) dX9_init_100 rfl ?_
  obtain ⟨q5, e⟩ := chk_some e
  replace e := lt_go e
  refine x_newa (pc := 102) (atype := .int) (t := 0) (w := 12) rfl (by decide) tw_1_103 dX9_init_102 (by decide) (by decide) (by decide) q5 ?_
  replace e := lt_go e
  refine x_putR (pc := 104) pf_X9_42 rfl okr_new.1 (fun _ => rfl) (fun _ => rfl) dX9_init_104 (okr_nw (okr_pR q3)) ?_
  refine x_aload_n (pc := 107) 0 dX9_init_107 rfl ?_
  refine x_bipush (pc := 108) (v := iN 12) dX9_init_108 rfl ?_
  obtain ⟨q8, e⟩ := chk_some e
  replace e := lt_go e
  refine x_newa (pc := 110) (atype := .int) (t := 0) (w := 12) rfl (by decide) tw_1_103 dX9_init_110 (by decide) (by decide) (by decide) q8 ?_
  replace e := lt_go e
  refine x_putR (pc := 112) pf_X9_45 rfl okr_new.1 (fun _ => rfl) (fun _ => rfl) dX9_init_112 (okr_nw (okr_pR (okr_nw (okr_pR q3)))) ?_
  refine x_aload_n (pc := 115) 0 dX9_init_115 rfl ?_
  refine x_iconst (pc := 116) dX9_init_116 ?_
  obtain ⟨q11, e⟩ := chk_some e
  replace e := lt_go e
  refine x_newa (pc := 117) (atype := .int) (t := 0) (w := 4) rfl (by decide) tw_1_103 dX9_init_117 (by decide) (by decide) (by decide) q11 ?_
  replace e := lt_go e
  refine x_putR (pc := 119) pf_X9_48 rfl okr_new.1 (fun _ => rfl) (fun _ => rfl) dX9_init_119 (okr_nw (okr_pR (okr_nw (okr_pR (okr_nw (okr_pR q3)))))) ?_
  refine x_aload_n (pc := 122) 0 dX9_init_122 rfl ?_
  refine x_iconst (pc := 123) dX9_init_123 ?_
  obtain ⟨q14, e⟩ := chk_some e
  replace e := lt_go e
  refine x_newa (pc := 124) (atype := .int) (t := 0) (w := 4) rfl (by decide) tw_1_103 dX9_init_124 (by decide) (by decide) (by decide) q14 ?_
  replace e := lt_go e
  refine x_putR (pc := 126) pf_X9_51 rfl okr_new.1 (fun _ => rfl) (fun _ => rfl) dX9_init_126 (okr_nw (okr_pR (okr_nw (okr_pR (okr_nw (okr_pR (okr_nw (okr_pR q3)))))))) ?_
  refine x_aload_n (pc := 129) 0 dX9_init_129 rfl ?_
  refine x_iconst (pc := 130) dX9_init_130 ?_
  obtain ⟨q17, e⟩ := chk_some e
  replace e := lt_go e
  refine x_newa (pc := 131) (atype := .int) (t := 0) (w := 4) rfl (by decide) tw_1_103 dX9_init_131 (by decide) (by decide) (by decide) q17 ?_
  replace e := lt_go e
  refine x_putR (pc := 133) pf_X9_54 rfl okr_new.1 (fun _ => rfl) (fun _ => rfl) dX9_init_133 (okr_nw (okr_pR (okr_nw (okr_pR (okr_nw (okr_pR (okr_nw (okr_pR (okr_nw (okr_pR q3)))))))))) ?_
  refine x_aload_n (pc := 136) 0 dX9_init_136 rfl ?_
  refine x_iconst (pc := 137) dX9_init_137 ?_
  obtain ⟨q20, e⟩ := chk_some e
  replace e := lt_go e
  refine x_newa (pc := 138) (atype := .int) (t := 0) (w := 4) rfl (by decide) tw_1_103 dX9_init_138 (by decide) (by decide) (by decide) q20 ?_
  replace e := lt_go e
  refine x_putR (pc := 140) pf_X9_57 rfl okr_new.1 (fun _ => rfl) (fun _ => rfl) dX9_init_140 (okr_nw (okr_pR (okr_nw (okr_pR (okr_nw (okr_pR (okr_nw (okr_pR (okr_nw (okr_pR (okr_nw (okr_pR q3)))))))))))) ?_
  refine x_aload_n (pc := 143) 0 dX9_init_143 rfl ?_
  refine x_iconst (pc := 144) dX9_init_144 ?_
  obtain ⟨q23, e⟩ := chk_some e
  replace e := lt_go e
  refine x_newa (pc := 145) (atype := .int) (t := 0) (w := 4) rfl (by decide) tw_1_103 dX9_init_145 (by decide) (by decide) (by decide) q23 ?_
  replace e := lt_go e
  refine x_putR (pc := 147) pf_X9_60 rfl okr_new.1 (fun _ => rfl) (fun _ => rfl) dX9_init_147 (okr_nw (okr_pR (okr_nw (okr_pR (okr_nw (okr_pR (okr_nw (okr_pR (okr_nw (okr_pR (okr_nw (okr_pR (okr_nw (okr_pR q3)))))))))))))) ?_
  refine x_aload_n (pc := 150) 0 dX9_init_150 rfl ?_
  refine x_bipush (pc := 151) (v := iN 16) dX9_init_151 rfl ?_
  obtain ⟨q26, e⟩ := chk_some e
  replace e := lt_go e
  refine x_newa (pc := 153) (atype := .int) (t := 0) (w := 16) rfl (by decide) tw_1_103 dX9_init_153 (by decide) (by decide) (by decide) q26 ?_
  replace e := lt_go e
  refine x_putR (pc := 155) pf_X9_63 rfl okr_new.1 (fun _ => rfl) (fun _ => rfl) dX9_init_155 (okr_nw (okr_pR (okr_nw (okr_pR (okr_nw (okr_pR (okr_nw (okr_pR (okr_nw (okr_pR (okr_nw (okr_pR (okr_nw (okr_pR (okr_nw (okr_pR q3)))))))))))))))) ?_
  refine x_aload_n (pc := 158) 0 dX9_init_158 rfl ?_
  refine x_iconst (pc := 159) dX9_init_159 ?_
  obtain ⟨q29, e⟩ := chk_some e
  replace e := lt_go e
  refine x_newa (pc := 160) (atype := .int) (t := 0) (w := 4) rfl (by decide) tw_1_103 dX9_init_160 (by decide) (by decide) (by decide) q29 ?_
  replace e := lt_go e
  refine x_putR (pc := 162) pf_X9_66 rfl okr_new.1 (fun _ => rfl) (fun _ => rfl) dX9_init_162 (okr_nw (okr_pR (okr_nw (okr_pR (okr_nw (okr_pR (okr_nw (okr_pR (okr_nw (okr_pR (okr_nw (okr_pR (okr_nw (okr_pR (okr_nw (okr_pR (okr_nw (okr_pR q3)))))))))))))))))) ?_
  exact p_X9_init_L165 hl e
noncomputable def f_X9_init (h : Hp) (a0 : Nat) : Option (Rs Unit) :=
  chk (qN h + 1 < 1000000) <|
  lt (newO h 20 506 506) fun h2 =>
  chk (okr h2 a0 9) <|
  lt (putR h2 a0 1 (qN h + 1)) fun h4 =>
  chk (qN h4 + 1 < 1000000) <|
  lt (newO h4 20 506 506) fun h6 =>
  lt (putR h6 a0 2 (qN h4 + 1)) fun h7 =>
  chk (qN h7 + 1 < 1000000) <|
  lt (newO h7 20 506 506) fun h9 =>
  lt (putR h9 a0 3 (qN h7 + 1)) fun h10 =>
  chk (qN h10 + 1 < 1000000) <|
  lt (newO h10 20 60 60) fun h12 =>
  lt (putR h12 a0 5 (qN h10 + 1)) fun h13 =>
  lt (putI h13 a0 7 (iN (-1))) fun h14 =>
  chk (qN h14 + 1 < 1000000) <|
  lt (newO h14 20 2 2) fun h16 =>
  chk (vp_in (iN 0) (qW h16 (qN h14 + 1))) <|
  lt (putI h16 (qN h14 + 1) (Int32.toNatClampNeg (iN 0)) (iN (-1))) fun h18 =>
  chk (vp_in (iN 1) (qW h18 (qN h14 + 1))) <|
  lt (putI h18 (qN h14 + 1) (Int32.toNatClampNeg (iN 1)) (iN (-1))) fun h20 =>
  lt (putR h20 a0 8 (qN h14 + 1)) fun h21 =>
  chk (qN h21 + 1 < 1000000) <|
  lt (newO h21 20 2 2) fun h23 =>
  chk (vp_in (iN 0) (qW h23 (qN h21 + 1))) <|
  lt (putI h23 (qN h21 + 1) (Int32.toNatClampNeg (iN 0)) (iN 0)) fun h25 =>
  chk (vp_in (iN 1) (qW h25 (qN h21 + 1))) <|
  lt (putI h25 (qN h21 + 1) (Int32.toNatClampNeg (iN 1)) (iN 0)) fun h27 =>
  lt (putR h27 a0 9 (qN h21 + 1)) fun h28 =>
  chk (qN h28 + 1 < 1000000) <|
  lt (newO h28 20 186 186) fun h30 =>
  lt (putR h30 a0 10 (qN h28 + 1)) fun h31 =>
  chk (qN h31 + 1 < 1000000) <|
  lt (newO h31 22 6 6) fun h33 =>
  lt (putR h33 a0 11 (qN h31 + 1)) fun h34 =>
  f_X9_init_L91 h34 a0
theorem p_X9_init {l : Launch} {K : Ctx} (hl : l.stackTraces = false) {h : Hp} {a0 : Nat} {t : Rs Unit} (e : f_X9_init h a0 = some t) : X l K mM_X9_init (tgV t) 0 [(0, .ref a0)] [] h := by
  unfold f_X9_init at e
  refine x_aload_n (pc := 0) 0 dX9_init_0 rfl ?_
  refine x_objI (pc := 1) tw_6_147 tw_1_37 tw_1_38 dX9_init_1 (by decide) (leb rfl) ?_
  refine x_aload_n (pc := 4) 0 dX9_init_4 rfl ?_
  refine x_sipush (pc := 5) (v := iN 506) dX9_init_5 rfl ?_
  obtain ⟨q1, e⟩ := chk_some e
  replace e := lt_go e
  refine x_newa (pc := 8) (atype := .int) (t := 0) (w := 506) rfl (by decide) tw_1_103 dX9_init_8 (by decide) (by decide) (by decide) q1 ?_
  obtain ⟨q3, e⟩ := chk_some e
  replace e := lt_go e
  refine x_putR (pc := 10) pf_X9_9 rfl okr_new.1 (fun _ => rfl) (fun _ => rfl) dX9_init_10 q3 ?_
  refine x_aload_n (pc := 13) 0 dX9_init_13 rfl ?_
  refine x_sipush (pc := 14) (v := iN 506) dX9_init_14 rfl ?_
  obtain ⟨q5, e⟩ := chk_some e
  replace e := lt_go e
  refine x_newa (pc := 17) (atype := .int) (t := 0) (w := 506) rfl (by decide) tw_1_103 dX9_init_17 (by decide) (by decide) (by decide) q5 ?_
  replace e := lt_go e
  refine x_putR (pc := 19) pf_X9_13 rfl okr_new.1 (fun _ => rfl) (fun _ => rfl) dX9_init_19 (okr_nw (okr_pR q3)) ?_
  refine x_aload_n (pc := 22) 0 dX9_init_22 rfl ?_
  refine x_sipush (pc := 23) (v := iN 506) dX9_init_23 rfl ?_
  obtain ⟨q8, e⟩ := chk_some e
  replace e := lt_go e
  refine x_newa (pc := 26) (atype := .int) (t := 0) (w := 506) rfl (by decide) tw_1_103 dX9_init_26 (by decide) (by decide) (by decide) q8 ?_
  replace e := lt_go e
  refine x_putR (pc := 28) pf_X9_16 rfl okr_new.1 (fun _ => rfl) (fun _ => rfl) dX9_init_28 (okr_nw (okr_pR (okr_nw (okr_pR q3)))) ?_
  refine x_aload_n (pc := 31) 0 dX9_init_31 rfl ?_
  refine x_bipush (pc := 32) (v := iN 60) dX9_init_32 rfl ?_
  obtain ⟨q11, e⟩ := chk_some e
  replace e := lt_go e
  refine x_newa (pc := 34) (atype := .int) (t := 0) (w := 60) rfl (by decide) tw_1_103 dX9_init_34 (by decide) (by decide) (by decide) q11 ?_
  replace e := lt_go e
  refine x_putR (pc := 36) pf_X9_19 rfl okr_new.1 (fun _ => rfl) (fun _ => rfl) dX9_init_36 (okr_nw (okr_pR (okr_nw (okr_pR (okr_nw (okr_pR q3)))))) ?_
  refine x_aload_n (pc := 39) 0 dX9_init_39 rfl ?_
  refine x_iconst (pc := 40) dX9_init_40 ?_
  replace e := lt_go e
  refine x_putI (pc := 41) pf_X9_22 rfl rfl rfl dX9_init_41 (okr_pR (okr_nw (okr_pR (okr_nw (okr_pR (okr_nw (okr_pR q3))))))) ?_
  refine x_aload_n (pc := 44) 0 dX9_init_44 rfl ?_
  refine x_iconst (pc := 45) dX9_init_45 ?_
  obtain ⟨q15, e⟩ := chk_some e
  replace e := lt_go e
  refine x_newa (pc := 46) (atype := .int) (t := 0) (w := 2) rfl (by decide) tw_1_103 dX9_init_46 (by decide) (by decide) (by decide) q15 ?_
  refine x_dup (pc := 48) dX9_init_48 rfl ?_
  refine x_iconst (pc := 49) dX9_init_49 ?_
  refine x_iconst (pc := 50) dX9_init_50 ?_
  obtain ⟨q17, e⟩ := chk_some e
  replace e := lt_go e
  refine x_iast (pc := 51) dX9_init_51 okr_new q17 ?_
  refine x_dup (pc := 52) dX9_init_52 rfl ?_
  refine x_iconst (pc := 53) dX9_init_53 ?_
  refine x_iconst (pc := 54) dX9_init_54 ?_
  obtain ⟨q19, e⟩ := chk_some e
  replace e := lt_go e
  refine x_iast (pc := 55) dX9_init_55 (okr_pI okr_new) q19 ?_
  replace e := lt_go e
  refine x_putR (pc := 56) pf_X9_26 rfl (okr_pI (okr_pI okr_new)).1 (fun _ => rfl) (fun _ => rfl) dX9_init_56 (okr_pI (okr_pI (okr_nw (okr_pI (okr_pR (okr_nw (okr_pR (okr_nw (okr_pR (okr_nw (okr_pR q3))))))))))) ?_
  refine x_aload_n (pc := 59) 0 dX9_init_59 rfl ?_
  refine x_iconst (pc := 60) dX9_init_60 ?_
  obtain ⟨q22, e⟩ := chk_some e
  replace e := lt_go e
  refine x_newa (pc := 61) (atype := .int) (t := 0) (w := 2) rfl (by decide) tw_1_103 dX9_init_61 (by decide) (by decide) (by decide) q22 ?_
  refine x_dup (pc := 63) dX9_init_63 rfl ?_
  refine x_iconst (pc := 64) dX9_init_64 ?_
  refine x_iconst (pc := 65) dX9_init_65 ?_
  obtain ⟨q24, e⟩ := chk_some e
  replace e := lt_go e
  refine x_iast (pc := 66) dX9_init_66 okr_new q24 ?_
  refine x_dup (pc := 67) dX9_init_67 rfl ?_
  refine x_iconst (pc := 68) dX9_init_68 ?_
  refine x_iconst (pc := 69) dX9_init_69 ?_
  obtain ⟨q26, e⟩ := chk_some e
  replace e := lt_go e
  refine x_iast (pc := 70) dX9_init_70 (okr_pI okr_new) q26 ?_
  replace e := lt_go e
  refine x_putR (pc := 71) pf_X9_29 rfl (okr_pI (okr_pI okr_new)).1 (fun _ => rfl) (fun _ => rfl) dX9_init_71 (okr_pI (okr_pI (okr_nw (okr_pR (okr_pI (okr_pI (okr_nw (okr_pI (okr_pR (okr_nw (okr_pR (okr_nw (okr_pR (okr_nw (okr_pR q3))))))))))))))) ?_
  refine x_aload_n (pc := 74) 0 dX9_init_74 rfl ?_
  refine x_sipush (pc := 75) (v := iN 186) dX9_init_75 rfl ?_
  obtain ⟨q29, e⟩ := chk_some e
  replace e := lt_go e
  refine x_newa (pc := 78) (atype := .int) (t := 0) (w := 186) rfl (by decide) tw_1_103 dX9_init_78 (by decide) (by decide) (by decide) q29 ?_
  replace e := lt_go e
  refine x_putR (pc := 80) pf_X9_32 rfl okr_new.1 (fun _ => rfl) (fun _ => rfl) dX9_init_80 (okr_nw (okr_pR (okr_pI (okr_pI (okr_nw (okr_pR (okr_pI (okr_pI (okr_nw (okr_pI (okr_pR (okr_nw (okr_pR (okr_nw (okr_pR (okr_nw (okr_pR q3))))))))))))))))) ?_
  refine x_aload_n (pc := 83) 0 dX9_init_83 rfl ?_
  refine x_bipush (pc := 84) (v := iN 6) dX9_init_84 rfl ?_
  obtain ⟨q32, e⟩ := chk_some e
  replace e := lt_go e
  refine x_newa (pc := 86) (atype := .boolean) (t := 2) (w := 6) rfl (by decide) tw_1_104 dX9_init_86 (by decide) (by decide) (by decide) q32 ?_
  replace e := lt_go e
  refine x_putR (pc := 88) pf_X9_35 rfl okr_new.1 (fun _ => rfl) (fun _ => rfl) dX9_init_88 (okr_nw (okr_pR (okr_nw (okr_pR (okr_pI (okr_pI (okr_nw (okr_pR (okr_pI (okr_pI (okr_nw (okr_pI (okr_pR (okr_nw (okr_pR (okr_nw (okr_pR (okr_nw (okr_pR q3))))))))))))))))))) ?_
  exact p_X9_init_L91 hl e
abbrev w_X9_init : Cond := (Cond.code yX9_init cX9_init 1 (Option.none : Option Jvm.ClassFile.FieldType))
theorem mf_X9_init : MF yX9_init w_X9_init cX9_init 1 (Option.none : Option Jvm.ClassFile.FieldType) 0 := ⟨⟨rfl, tw_6_146, by decide⟩, tw_1_11, ⟨by decide, by decide⟩, by decide +kernel⟩
theorem c_X9_init {l : Launch} {K : Ctx} (hl : l.stackTraces = false) {h : Hp} {a0 : Nat} {t : Rs Unit} (e : f_X9_init h a0 = some t) : Ctr l K 8 yX9_init w_X9_init [.ref a0] h (tgV t) :=
  Ctr.of hl mf_X9_init true (fun _ => rfl) rfl (leb rfl) (p_X9_init hl e)
/-! ## TableColumnBalancer.isWithin -/
abbrev mM_X8_isWithin : Mi := (8, yX8_isWithin.cls, cX8_isWithin, 3, (Option.some Jvm.ClassFile.FieldType.boolean), [], false)
noncomputable def f_X8_isWithin (h : Hp) (i0 : Int32) (i1 : Int32) (i2 : Int32) : Option (Rs Int32) :=
  if i0 < i1 then (
    some (h, .inr (iN 0))
  ) else (
    if i2 < i0 then (
      some (h, .inr (iN 0))
    ) else (
      some (h, .inr (iN 1))
    )
  )
theorem p_X8_isWithin {l : Launch} {K : Ctx} (hl : l.stackTraces = false) {h : Hp} {i0 : Int32} {i1 : Int32} {i2 : Int32} {t : Rs Int32} (e : f_X8_isWithin h i0 i1 i2 = some t) : X l K mM_X8_isWithin (tgI t) 0 [(0, .int i0), (1, .int i1), (2, .int i2)] [] h := by
  unfold f_X8_isWithin at e
  refine x_iload_n (pc := 0) 0 dX8_isWithin_0 rfl ?_
  refine x_iload_n (pc := 1) 1 dX8_isWithin_1 rfl ?_
  rcases ite_some e with ⟨q1, e⟩ | ⟨q1, e⟩
  · refine x_icmp_lt_t (pc := 2) (t := 14) dX8_isWithin_2 (by decide) q1 ?_
    refine x_iconst (pc := 14) dX8_isWithin_14 ?_
    cases Option.some.inj e
    exact x_zret (pc := 15) rfl (Or.inl rfl) dX8_isWithin_15
  · refine x_icmp_lt_f (pc := 2) (t := 14) dX8_isWithin_2 (by decide) q1 ?_
    refine x_iload_n (pc := 5) 0 dX8_isWithin_5 rfl ?_
    refine x_iload_n (pc := 6) 2 dX8_isWithin_6 rfl ?_
    rcases ite_some e with ⟨q2, e⟩ | ⟨q2, e⟩
    · refine x_icmp_gt_t (pc := 7) (t := 14) dX8_isWithin_7 (by decide) q2 ?_
      refine x_iconst (pc := 14) dX8_isWithin_14 ?_
      cases Option.some.inj e
      exact x_zret (pc := 15) rfl (Or.inl rfl) dX8_isWithin_15
    · refine x_icmp_gt_f (pc := 7) (t := 14) dX8_isWithin_7 (by decide) q2 ?_
      refine x_iconst (pc := 10) dX8_isWithin_10 ?_
      refine x_goto (pc := 11) (t := 15) dX8_isWithin_11 (by decide) ?_
      cases Option.some.inj e
      exact x_zret (pc := 15) rfl (Or.inr rfl) dX8_isWithin_15
abbrev w_X8_isWithin : Cond := (Cond.code yX8_isWithin cX8_isWithin 3 (Option.some Jvm.ClassFile.FieldType.boolean))
theorem mf_X8_isWithin : MF yX8_isWithin w_X8_isWithin cX8_isWithin 3 (Option.some Jvm.ClassFile.FieldType.boolean) 3 := ⟨⟨rfl, tw_3_27, by decide⟩, tw_1_1, ⟨by decide, by decide⟩, by decide +kernel⟩
theorem c_X8_isWithin {l : Launch} {K : Ctx} (hl : l.stackTraces = false) {h : Hp} {i0 : Int32} {i1 : Int32} {i2 : Int32} {t : Rs Int32} (e : f_X8_isWithin h i0 i1 i2 = some t) : Ctr l K 8 yX8_isWithin w_X8_isWithin [.int i0, .int i1, .int i2] h (tgI t) :=
  Ctr.of hl mf_X8_isWithin false (fun q => nomatch q) rfl (leb rfl) (p_X8_isWithin hl e)
/-! ## TableColumnBalancer.requireArgument -/
abbrev mM_X8_requireArgument : Mi := (8, yX8_requireArgument.cls, cX8_requireArgument, 1, (Option.none : Option Jvm.ClassFile.FieldType), [], false)
noncomputable def f_X8_requireArgument (h : Hp) (i0 : Int32) : Option (Rs Unit) :=
  if i0 = 0 then (
    some (bump h, .inl 1)
  ) else (
    some (h, .inr ())
  )
theorem p_X8_requireArgument {l : Launch} {K : Ctx} (hl : l.stackTraces = false) {h : Hp} {i0 : Int32} {t : Rs Unit} (e : f_X8_requireArgument h i0 = some t) : X l K mM_X8_requireArgument (tgV t) 0 [(0, .int i0)] [] h := by
  unfold f_X8_requireArgument at e
  refine x_iload_n (pc := 0) 0 dX8_requireArgument_0 rfl ?_
  rcases ite_some e with ⟨q1, e⟩ | ⟨q1, e⟩
  · refine x_if_ne_f (pc := 1) (t := 12) dX8_requireArgument_1 (by decide) q1 ?_
    cases Option.some.inj e
    exact x_throw (pc := 4) (ic := 358) rfl tw_3_86 tw_1_15 th_X8_358 (by decide) tg_X8_358 dX8_requireArgument_4 dX8_requireArgument_7 dX8_requireArgument_8 dX8_requireArgument_11 (by decide) (leb rfl)
  · refine x_if_ne_t (pc := 1) (t := 12) dX8_requireArgument_1 (by decide) q1 ?_
    cases Option.some.inj e
    exact x_vret (pc := 12) rfl dX8_requireArgument_12
abbrev w_X8_requireArgument : Cond := (Cond.code yX8_requireArgument cX8_requireArgument 1 (Option.none : Option Jvm.ClassFile.FieldType))
theorem mf_X8_requireArgument : MF yX8_requireArgument w_X8_requireArgument cX8_requireArgument 1 (Option.none : Option Jvm.ClassFile.FieldType) 1 := ⟨⟨rfl, tw_3_85, by decide⟩, tw_1_1, ⟨by decide, by decide⟩, by decide +kernel⟩
theorem c_X8_requireArgument {l : Launch} {K : Ctx} (hl : l.stackTraces = false) {h : Hp} {i0 : Int32} {t : Rs Unit} (e : f_X8_requireArgument h i0 = some t) : Ctr l K 8 yX8_requireArgument w_X8_requireArgument [.int i0] h (tgV t) :=
  Ctr.of hl mf_X8_requireArgument false (fun q => nomatch q) rfl (leb rfl) (p_X8_requireArgument hl e)
/-! ## TableColumnBalancer.requireState -/
abbrev mM_X8_requireState : Mi := (8, yX8_requireState.cls, cX8_requireState, 1, (Option.none : Option Jvm.ClassFile.FieldType), [], false)
noncomputable def f_X8_requireState (h : Hp) (i0 : Int32) : Option (Rs Unit) :=
  if i0 = 0 then (
    some (bump h, .inl 0)
  ) else (
    some (h, .inr ())
  )
theorem p_X8_requireState {l : Launch} {K : Ctx} (hl : l.stackTraces = false) {h : Hp} {i0 : Int32} {t : Rs Unit} (e : f_X8_requireState h i0 = some t) : X l K mM_X8_requireState (tgV t) 0 [(0, .int i0)] [] h := by
  unfold f_X8_requireState at e
  refine x_iload_n (pc := 0) 0 dX8_requireState_0 rfl ?_
  rcases ite_some e with ⟨q1, e⟩ | ⟨q1, e⟩
  · refine x_if_ne_f (pc := 1) (t := 12) dX8_requireState_1 (by decide) q1 ?_
    cases Option.some.inj e
    exact x_throw (pc := 4) (ic := 361) rfl tw_3_157 tw_1_16 th_X8_361 (by decide) tg_X8_361 dX8_requireState_4 dX8_requireState_7 dX8_requireState_8 dX8_requireState_11 (by decide) (leb rfl)
  · refine x_if_ne_t (pc := 1) (t := 12) dX8_requireState_1 (by decide) q1 ?_
    cases Option.some.inj e
    exact x_vret (pc := 12) rfl dX8_requireState_12
abbrev w_X8_requireState : Cond := (Cond.code yX8_requireState cX8_requireState 1 (Option.none : Option Jvm.ClassFile.FieldType))
theorem mf_X8_requireState : MF yX8_requireState w_X8_requireState cX8_requireState 1 (Option.none : Option Jvm.ClassFile.FieldType) 1 := ⟨⟨rfl, tw_3_156, by decide⟩, tw_1_1, ⟨by decide, by decide⟩, by decide +kernel⟩
theorem c_X8_requireState {l : Launch} {K : Ctx} (hl : l.stackTraces = false) {h : Hp} {i0 : Int32} {t : Rs Unit} (e : f_X8_requireState h i0 = some t) : Ctr l K 8 yX8_requireState w_X8_requireState [.int i0] h (tgV t) :=
  Ctr.of hl mf_X8_requireState false (fun q => nomatch q) rfl (leb rfl) (p_X8_requireState hl e)
/-! ## TableColumnBalancer$Table.specify -/
abbrev mM_X7_specify : Mi := (8, yX7_specify.cls, cX7_specify, 4, (Option.none : Option Jvm.ClassFile.FieldType), [], false)
noncomputable def f_X7_specify_L21 (h : Hp) (s0 : Int32) (s1 : Int32) (s2 : Nat) : Option (Rs Unit) :=
  chk (okr h s2 20) <|
  chk (vp_in s1 (qW h s2)) <|
  lt (putI h s2 (Int32.toNatClampNeg s1) s0) fun h3 =>
  some (h3, .inr ())
theorem p_X7_specify_L21 {l : Launch} {K : Ctx} (hl : l.stackTraces = false) {h : Hp} {s0 : Int32} {s1 : Int32} {s2 : Nat} {t : Rs Unit} (e : f_X7_specify_L21 h s0 s1 s2 = some t) : X l K mM_X7_specify (tgV t) 21 [] [.int s0, .int s1, .ref s2] h := by
  unfold f_X7_specify_L21 at e
  obtain ⟨q1, e⟩ := chk_some e
  obtain ⟨q2, e⟩ := chk_some e
  replace e := lt_go e
  refine x_iast (pc := 21) dX7_specify_21 q1 q2 ?_
  cases Option.some.inj e
  exact x_vret (pc := 22) rfl dX7_specify_22
noncomputable def f_X7_specify (h : Hp) (a0 : Nat) (i1 : Int32) (i2 : Int32) (i3 : Int32) : Option (Rs Unit) :=
  chk (okr h a0 7) <|
  chk (okr h (qR h a0 6) 20) <|
  chk (vp_in i1 (qW h (qR h a0 6))) <|
  lt (putI h (qR h a0 6) (Int32.toNatClampNeg i1) i2) fun h4 =>
  chk (okr h4 (qR h4 a0 7) 20) <|
  if i2 = 0 then (
    f_X7_specify_L21 h4 (iN 0) i1 (qR h4 a0 7)
  ) else (
    f_X7_specify_L21 h4 i3 i1 (qR h4 a0 7)
  )
theorem p_X7_specify {l : Launch} {K : Ctx} (hl : l.stackTraces = false) {h : Hp} {a0 : Nat} {i1 : Int32} {i2 : Int32} {i3 : Int32} {t : Rs Unit} (e : f_X7_specify h a0 i1 i2 i3 = some t) : X l K mM_X7_specify (tgV t) 0 [(0, .ref a0), (1, .int i1), (2, .int i2), (3, .int i3)] [] h := by
  unfold f_X7_specify at e
  refine x_aload_n (pc := 0) 0 dX7_specify_0 rfl ?_
  obtain ⟨q1, e⟩ := chk_some e
  obtain ⟨q2, e⟩ := chk_some e
  refine x_getR (pc := 1) gf_X7_21 rfl dX7_specify_1 q1 q2.1 ?_
  refine x_iload_n (pc := 4) 1 dX7_specify_4 rfl ?_
  refine x_iload_n (pc := 5) 2 dX7_specify_5 rfl ?_
  obtain ⟨q3, e⟩ := chk_some e
  replace e := lt_go e
  refine x_iast (pc := 6) dX7_specify_6 q2 q3 ?_
  refine x_aload_n (pc := 7) 0 dX7_specify_7 rfl ?_
  obtain ⟨q5, e⟩ := chk_some e
  refine x_getR (pc := 8) gf_X7_25 rfl dX7_specify_8 (okr_pI q1) q5.1 ?_
  refine x_iload_n (pc := 11) 1 dX7_specify_11 rfl ?_
  refine x_iload_n (pc := 12) 2 dX7_specify_12 rfl ?_
  rcases ite_some e with ⟨q6, e⟩ | ⟨q6, e⟩
  · refine x_if_ne_f (pc := 13) (t := 20) dX7_specify_13 (by decide) q6 ?_
    refine x_iconst (pc := 16) dX7_specify_16 ?_
    refine x_goto (pc := 17) (t := 21) dX7_specify_17 (by decide) ?_
    exact x_sub1 (p_X7_specify_L21 hl e) [] rfl
  · refine x_if_ne_t (pc := 13) (t := 20) dX7_specify_13 (by decide) q6 ?_
    refine x_iload_n (pc := 20) 3 dX7_specify_20 rfl ?_
    exact x_sub1 (p_X7_specify_L21 hl e) [] rfl
abbrev w_X7_specify : Cond := (Cond.code yX7_specify cX7_specify 4 (Option.none : Option Jvm.ClassFile.FieldType))
theorem mf_X7_specify : MF yX7_specify w_X7_specify cX7_specify 4 (Option.none : Option Jvm.ClassFile.FieldType) 3 := ⟨⟨rfl, tw_3_179, by decide⟩, tw_1_2, ⟨by decide, by decide⟩, by decide +kernel⟩
theorem c_X7_specify {l : Launch} {K : Ctx} (hl : l.stackTraces = false) {h : Hp} {a0 : Nat} {i1 : Int32} {i2 : Int32} {i3 : Int32} {t : Rs Unit} (e : f_X7_specify h a0 i1 i2 i3 = some t) : Ctr l K 8 yX7_specify w_X7_specify [.ref a0, .int i1, .int i2, .int i3] h (tgV t) :=
  Ctr.of hl mf_X7_specify false (fun q => nomatch q) rfl (leb rfl) (p_X7_specify hl e)
/-! ## TableColumnBalancer$Table.restartColumns -/
abbrev mM_X7_restartColumns : Mi := (9, yX7_restartColumns.cls, cX7_restartColumns, 3, (Option.none : Option Jvm.ClassFile.FieldType), [], false)
noncomputable def f_X7_restartColumns_B7 (k7 : Hp → Nat → Int32 → Option (Rs Unit)) (h : Hp) (a0 : Nat) (i2 : Int32) : Option (Rs Unit) :=
  if (iN 4) ≤ i2 then (
    some (h, .inr ())
  ) else (
    chk (okr h a0 7) <|
    bnd (f_X7_specify h a0 i2 (iN 0) (iN 0)) fun h3 _ =>
    k7 h3 a0 (i2 + iN 1)
  )
theorem p_X7_restartColumns_B7 {l : Launch} {K : Ctx} (hl : l.stackTraces = false) {k7 : Hp → Nat → Int32 → Option (Rs Unit)} (hk7 : ∀ (h : Hp) (a0 : Nat) (i2 : Int32) (t : Rs Unit), k7 h a0 i2 = some t → X l K mM_X7_restartColumns (tgV t) 7 [(0, .ref a0), (2, .int i2)] [] h) {h : Hp} {a0 : Nat} {i2 : Int32} {t : Rs Unit} (e : f_X7_restartColumns_B7 k7 h a0 i2 = some t) : X l K mM_X7_restartColumns (tgV t) 7 [(0, .ref a0), (2, .int i2)] [] h := by
  unfold f_X7_restartColumns_B7 at e
  refine x_iload_n (pc := 7) 1 dX7_restartColumns_7 rfl ?_
  refine x_iconst (pc := 8) dX7_restartColumns_8 ?_
  rcases ite_some e with ⟨q1, e⟩ | ⟨q1, e⟩
  · refine x_icmp_ge_t (pc := 9) (t := 25) dX7_restartColumns_9 (by decide) q1 ?_
    cases Option.some.inj e
    exact x_vret (pc := 25) rfl dX7_restartColumns_25
  · refine x_icmp_ge_f (pc := 9) (t := 25) dX7_restartColumns_9 (by decide) q1 ?_
    refine x_aload_n (pc := 12) 0 dX7_restartColumns_12 rfl ?_
    refine x_iload_n (pc := 13) 1 dX7_restartColumns_13 rfl ?_
    refine x_iconst (pc := 14) dX7_restartColumns_14 ?_
    refine x_iconst (pc := 15) dX7_restartColumns_15 ?_
    obtain ⟨q2, e⟩ := chk_some e
    rcases bnd_some e with ⟨h3, r4, ec, rfl⟩ | ⟨h3, r4, ec, e⟩
    · exact y_callV_x (pc := 16) (c_X7_specify hl ec) q2 mf_X7_specify tw_3_178 ts_3_4 lf_X7_48 rfl rfl dX7_restartColumns_16 (by decide) rfl rfl (leb rfl) (xx_out0 rfl)
    refine y_callV_v (pc := 16) (c_X7_specify hl ec) q2 mf_X7_specify tw_3_178 ts_3_4 lf_X7_48 rfl rfl dX7_restartColumns_16 (by decide) rfl rfl (leb rfl) ?_
    refine x_iinc (pc := 19) 1 dX7_restartColumns_19 rfl (by decide) rfl ?_
    refine x_goto (pc := 22) (t := 7) dX7_restartColumns_22 (by decide) ?_
    exact x_sub1 (hk7 _ _ _ _ e) [1, 0] rfl
noncomputable def f_X7_restartColumns_L7 (n : Nat) : Hp → Nat → Int32 → Option (Rs Unit) := Nat.rec (motive := fun _ => Hp → Nat → Int32 → Option (Rs Unit)) (fun _ _ _ => none) (fun _ r => f_X7_restartColumns_B7 r) n
theorem p_X7_restartColumns_L7 {l : Launch} {K : Ctx} (hl : l.stackTraces = false) : ∀ (n : Nat) (h : Hp) (a0 : Nat) (i2 : Int32) (t : Rs Unit) (e : f_X7_restartColumns_L7 n h a0 i2 = some t), X l K mM_X7_restartColumns (tgV t) 7 [(0, .ref a0), (2, .int i2)] [] h := by
  intro n
  induction n with
  | zero => exact fun _ _ _ _ e => nomatch (show (none : Option (Rs Unit)) = some _ from e)
  | succ n ih => exact fun h a0 i2 t e => p_X7_restartColumns_B7 hl (fun h a0 i2 t e => ih h a0 i2 t e) e
noncomputable def f_X7_restartColumns (h : Hp) (a0 : Nat) (i1 : Int32) : Option (Rs Unit) :=
  chk (okr h a0 7) <|
  lt (putI h a0 3 i1) fun h2 =>
  f_X7_restartColumns_L7 2000 h2 a0 (iN 0)
theorem p_X7_restartColumns {l : Launch} {K : Ctx} (hl : l.stackTraces = false) {h : Hp} {a0 : Nat} {i1 : Int32} {t : Rs Unit} (e : f_X7_restartColumns h a0 i1 = some t) : X l K mM_X7_restartColumns (tgV t) 0 [(0, .ref a0), (1, .int i1)] [] h := by
  unfold f_X7_restartColumns at e
  refine x_aload_n (pc := 0) 0 dX7_restartColumns_0 rfl ?_
  refine x_iload_n (pc := 1) 1 dX7_restartColumns_1 rfl ?_
  obtain ⟨q1, e⟩ := chk_some e
  replace e := lt_go e
  refine x_putI (pc := 2) pf_X7_18 rfl rfl rfl dX7_restartColumns_2 q1 ?_
  refine x_iconst (pc := 5) dX7_restartColumns_5 ?_
  refine x_istore_n (pc := 6) dX7_restartColumns_6 (by decide) rfl ?_
  exact x_sub1 (p_X7_restartColumns_L7 hl 2000 _ _ _ _ e) [1, 0] rfl
abbrev w_X7_restartColumns : Cond := (Cond.code yX7_restartColumns cX7_restartColumns 3 (Option.none : Option Jvm.ClassFile.FieldType))
theorem mf_X7_restartColumns : MF yX7_restartColumns w_X7_restartColumns cX7_restartColumns 3 (Option.none : Option Jvm.ClassFile.FieldType) 1 := ⟨⟨rfl, tw_3_175, by decide⟩, tw_1_2, ⟨by decide, by decide⟩, by decide +kernel⟩
theorem c_X7_restartColumns {l : Launch} {K : Ctx} (hl : l.stackTraces = false) {h : Hp} {a0 : Nat} {i1 : Int32} {t : Rs Unit} (e : f_X7_restartColumns h a0 i1 = some t) : Ctr l K 9 yX7_restartColumns w_X7_restartColumns [.ref a0, .int i1] h (tgV t) :=
  Ctr.of hl mf_X7_restartColumns false (fun q => nomatch q) rfl (leb rfl) (p_X7_restartColumns hl e)
/-! ## TableColumnBalancer.changed -/
abbrev mM_X8_changed : Mi := (13, yX8_changed.cls, cX8_changed, 1, (Option.none : Option Jvm.ClassFile.FieldType), [], false)
noncomputable def f_X8_changed (h : Hp) (a0 : Nat) : Option (Rs Unit) :=
  chk (okr h a0 8) <|
  chk (okr h (qR h a0 1) 3) <|
  bnd (f_X3_measure h (qR h a0 1)) fun h3 _ =>
  chk (okr h3 a0 8) <|
  chk (okr h3 (qR h3 a0 2) 6) <|
  bnd (f_X6_restart h3 (qR h3 a0 2) (1000000 : Int32)) fun h7 _ =>
  some (h7, .inr ())
theorem p_X8_changed {l : Launch} {K : Ctx} (hl : l.stackTraces = false) {h : Hp} {a0 : Nat} {t : Rs Unit} (e : f_X8_changed h a0 = some t) : X l K mM_X8_changed (tgV t) 0 [(0, .ref a0)] [] h := by
  unfold f_X8_changed at e
  refine x_aload_n (pc := 0) 0 dX8_changed_0 rfl ?_
  obtain ⟨q1, e⟩ := chk_some e
  obtain ⟨q2, e⟩ := chk_some e
  refine x_getR (pc := 1) gf_X8_21 rfl dX8_changed_1 q1 q2.1 ?_
  rcases bnd_some e with ⟨h3, r4, ec, rfl⟩ | ⟨h3, r4, ec, e⟩
  · exact y_callV_x (pc := 4) (c_X3_measure hl ec) q2 mf_X3_measure tw_2_104 ts_1_0 lf_X8_64 rfl rfl dX8_changed_4 (by decide) rfl rfl (leb rfl) (xx_out0 rfl)
  refine y_callV_v (pc := 4) (c_X3_measure hl ec) q2 mf_X3_measure tw_2_104 ts_1_0 lf_X8_64 rfl rfl dX8_changed_4 (by decide) rfl rfl (leb rfl) ?_
  refine x_aload_n (pc := 7) 0 dX8_changed_7 rfl ?_
  obtain ⟨q5, e⟩ := chk_some e
  obtain ⟨q6, e⟩ := chk_some e
  refine x_getR (pc := 8) gf_X8_30 rfl dX8_changed_8 q5 q6.1 ?_
  refine x_ldc (pc := 11) tw_2_185 dX8_changed_11 ?_
  rcases bnd_some e with ⟨h7, r8, ec, rfl⟩ | ⟨h7, r8, ec, e⟩
  · exact y_callV_x (pc := 13) (c_X6_restart hl ec) q6 mf_X6_restart tw_2_188 ts_2_3 lf_X8_68 rfl rfl dX8_changed_13 (by decide) rfl rfl (leb rfl) (xx_out0 rfl)
  refine y_callV_v (pc := 13) (c_X6_restart hl ec) q6 mf_X6_restart tw_2_188 ts_2_3 lf_X8_68 rfl rfl dX8_changed_13 (by decide) rfl rfl (leb rfl) ?_
  cases Option.some.inj e
  exact x_vret (pc := 16) rfl dX8_changed_16
abbrev w_X8_changed : Cond := (Cond.code yX8_changed cX8_changed 1 (Option.none : Option Jvm.ClassFile.FieldType))
theorem mf_X8_changed : MF yX8_changed w_X8_changed cX8_changed 1 (Option.none : Option Jvm.ClassFile.FieldType) 0 := ⟨⟨rfl, tw_3_183, by decide⟩, tw_1_1, ⟨by decide, by decide⟩, by decide +kernel⟩
theorem c_X8_changed {l : Launch} {K : Ctx} (hl : l.stackTraces = false) {h : Hp} {a0 : Nat} {t : Rs Unit} (e : f_X8_changed h a0 = some t) : Ctr l K 13 yX8_changed w_X8_changed [.ref a0] h (tgV t) :=
  Ctr.of hl mf_X8_changed false (fun q => nomatch q) rfl (leb rfl) (p_X8_changed hl e)
/-! ## TableColumnBalancer.setColumns -/
abbrev mM_X8_setColumns : Mi := (14, yX8_setColumns.cls, cX8_setColumns, 3, (Option.some Jvm.ClassFile.FieldType.int), [], false)
noncomputable def f_X8_setColumns_L24 (h : Hp) (a0 : Nat) (i1 : Int32) (s0 : Int32) : Option (Rs Int32) :=
  bnd (f_X8_requireState h s0) fun h1 _ =>
  chk (okr h1 a0 8) <|
  chk (okr h1 (qR h1 a0 0) 7) <|
  bnd (f_X7_restartColumns h1 (qR h1 a0 0) i1) fun h5 _ =>
  chk (okr h5 a0 8) <|
  bnd (f_X8_changed h5 a0) fun h8 _ =>
  some (h8, .inr (qI h1 (qR h1 a0 0) 3))
theorem p_X8_setColumns_L24 {l : Launch} {K : Ctx} (hl : l.stackTraces = false) {h : Hp} {a0 : Nat} {i1 : Int32} {s0 : Int32} {t : Rs Int32} (e : f_X8_setColumns_L24 h a0 i1 s0 = some t) : X l K mM_X8_setColumns (tgI t) 24 [(0, .ref a0), (1, .int i1)] [.int s0] h := by
  unfold f_X8_setColumns_L24 at e
  rcases bnd_some e with ⟨h1, r2, ec, rfl⟩ | ⟨h1, r2, ec, e⟩
  · exact y_callS_x (pc := 24) (c_X8_requireState hl ec) mf_X8_requireState tw_3_155 lf_X8_84 dX8_setColumns_24 (by decide) rfl rfl (leb rfl) (xx_out0 rfl)
  refine y_callS_v (pc := 24) (c_X8_requireState hl ec) mf_X8_requireState tw_3_155 lf_X8_84 dX8_setColumns_24 (by decide) rfl rfl (leb rfl) ?_
  refine x_aload_n (pc := 27) 0 dX8_setColumns_27 rfl ?_
  obtain ⟨q3, e⟩ := chk_some e
  obtain ⟨q4, e⟩ := chk_some e
  refine x_getR (pc := 28) gf_X8_10 rfl dX8_setColumns_28 q3 q4.1 ?_
  refine x_getI (pc := 31) gf_X8_87 rfl dX8_setColumns_31 q4 ?_
  refine x_istore_n (pc := 34) dX8_setColumns_34 (by decide) rfl ?_
  refine x_aload_n (pc := 35) 1 dX8_setColumns_35 rfl ?_
  refine x_getR (pc := 36) gf_X8_10 rfl dX8_setColumns_36 q3 q4.1 ?_
  refine x_iload_n (pc := 39) 2 dX8_setColumns_39 rfl ?_
  rcases bnd_some e with ⟨h5, r6, ec, rfl⟩ | ⟨h5, r6, ec, e⟩
  · exact y_callV_x (pc := 40) (c_X7_restartColumns hl ec) q4 mf_X7_restartColumns tw_3_174 ts_3_3 lf_X8_90 rfl rfl dX8_setColumns_40 (by decide) rfl rfl (leb rfl) (xx_out0 rfl)
  refine y_callV_v (pc := 40) (c_X7_restartColumns hl ec) q4 mf_X7_restartColumns tw_3_174 ts_3_3 lf_X8_90 rfl rfl dX8_setColumns_40 (by decide) rfl rfl (leb rfl) ?_
  refine x_aload_n (pc := 43) 1 dX8_setColumns_43 rfl ?_
  obtain ⟨q7, e⟩ := chk_some e
  rcases bnd_some e with ⟨h8, r9, ec, rfl⟩ | ⟨h8, r9, ec, e⟩
  · exact y_callV_x (pc := 44) (c_X8_changed hl ec) q7 mf_X8_changed tw_3_182 ts_3_5 lf_X8_93 rfl rfl dX8_setColumns_44 (by decide) rfl rfl (leb rfl) (xx_out0 rfl)
  refine y_callV_v (pc := 44) (c_X8_changed hl ec) q7 mf_X8_changed tw_3_182 ts_3_5 lf_X8_93 rfl rfl dX8_setColumns_44 (by decide) rfl rfl (leb rfl) ?_
  refine x_iload_n (pc := 47) 0 dX8_setColumns_47 rfl ?_
  cases Option.some.inj e
  exact x_iret (pc := 48) rfl dX8_setColumns_48
noncomputable def f_X8_setColumns (h : Hp) (a0 : Nat) (i1 : Int32) : Option (Rs Int32) :=
  bnd (f_X8_isWithin h i1 (iN 1) (iN 4)) fun h1 r2 =>
  bnd (f_X8_requireArgument h1 r2) fun h3 _ =>
  chk (okr h3 a0 8) <|
  chk (okr h3 (qR h3 a0 0) 7) <|
  if (qI h3 (qR h3 a0 0) 5) = 0 then (
    f_X8_setColumns_L24 h3 a0 i1 (iN 1)
  ) else (
    f_X8_setColumns_L24 h3 a0 i1 (iN 0)
  )
theorem p_X8_setColumns {l : Launch} {K : Ctx} (hl : l.stackTraces = false) {h : Hp} {a0 : Nat} {i1 : Int32} {t : Rs Int32} (e : f_X8_setColumns h a0 i1 = some t) : X l K mM_X8_setColumns (tgI t) 0 [(0, .ref a0), (1, .int i1)] [] h := by
  unfold f_X8_setColumns at e
  refine x_iload_n (pc := 0) 1 dX8_setColumns_0 rfl ?_
  refine x_iconst (pc := 1) dX8_setColumns_1 ?_
  refine x_iconst (pc := 2) dX8_setColumns_2 ?_
  rcases bnd_some e with ⟨h1, r2, ec, rfl⟩ | ⟨h1, r2, ec, e⟩
  · exact y_callS_x (pc := 3) (c_X8_isWithin hl ec) mf_X8_isWithin tw_3_26 lf_X8_72 dX8_setColumns_3 (by decide) rfl rfl (leb rfl) (xx_out0 rfl)
  refine y_callS_i (pc := 3) (c_X8_isWithin hl ec) mf_X8_isWithin tw_3_26 lf_X8_72 dX8_setColumns_3 (by decide) rfl rfl (leb rfl) ?_
  rcases bnd_some e with ⟨h3, r4, ec, rfl⟩ | ⟨h3, r4, ec, e⟩
  · exact y_callS_x (pc := 6) (c_X8_requireArgument hl ec) mf_X8_requireArgument tw_3_84 lf_X8_76 dX8_setColumns_6 (by decide) rfl rfl (leb rfl) (xx_out0 rfl)
  refine y_callS_v (pc := 6) (c_X8_requireArgument hl ec) mf_X8_requireArgument tw_3_84 lf_X8_76 dX8_setColumns_6 (by decide) rfl rfl (leb rfl) ?_
  refine x_aload_n (pc := 9) 0 dX8_setColumns_9 rfl ?_
  obtain ⟨q5, e⟩ := chk_some e
  obtain ⟨q6, e⟩ := chk_some e
  refine x_getR (pc := 10) gf_X8_10 rfl dX8_setColumns_10 q5 q6.1 ?_
  refine x_getI (pc := 13) gf_X8_80 rfl dX8_setColumns_13 q6 ?_
  rcases ite_some e with ⟨q7, e⟩ | ⟨q7, e⟩
  · refine x_if_ne_f (pc := 16) (t := 23) dX8_setColumns_16 (by decide) q7 ?_
    refine x_iconst (pc := 19) dX8_setColumns_19 ?_
    refine x_goto (pc := 20) (t := 24) dX8_setColumns_20 (by decide) ?_
    exact p_X8_setColumns_L24 hl e
  · refine x_if_ne_t (pc := 16) (t := 23) dX8_setColumns_16 (by decide) q7 ?_
    refine x_iconst (pc := 23) dX8_setColumns_23 ?_
    exact p_X8_setColumns_L24 hl e
abbrev w_X8_setColumns : Cond := (Cond.code yX8_setColumns cX8_setColumns 3 (Option.some Jvm.ClassFile.FieldType.int))
theorem mf_X8_setColumns : MF yX8_setColumns w_X8_setColumns cX8_setColumns 3 (Option.some Jvm.ClassFile.FieldType.int) 1 := ⟨⟨rfl, tw_3_81, by decide⟩, tw_1_1, ⟨by decide, by decide⟩, by decide +kernel⟩
theorem c_X8_setColumns {l : Launch} {K : Ctx} (hl : l.stackTraces = false) {h : Hp} {a0 : Nat} {i1 : Int32} {t : Rs Int32} (e : f_X8_setColumns h a0 i1 = some t) : Ctr l K 14 yX8_setColumns w_X8_setColumns [.ref a0, .int i1] h (tgI t) :=
  Ctr.of hl mf_X8_setColumns false (fun q => nomatch q) rfl (leb rfl) (p_X8_setColumns hl e)
/-! ## TableColumnBalancerLaw.setColumns -/
abbrev mM_L_setColumns : Mi := (15, yL_setColumns.cls, cL_setColumns, 4, (Option.some Jvm.ClassFile.FieldType.int), [((0 : Nat), (9 : Nat), (12 : Nat), (13 : Nat)), ((0 : Nat), (9 : Nat), (15 : Nat), (15 : Nat))], false)
noncomputable def f_L_setColumns (h : Hp) (a0 : Nat) (i1 : Int32) (a2 : Nat) : Option (Rs Int32) :=
  chk (okr h a0 8) <|
  bndX (f_X8_setColumns h a0 i1) (fun h2 r3 => (
    chk (okr h2 a2 21) <|
    chk (vp_in (iN 0) (qW h2 a2)) <|
    lt (putL h2 a2 (Int32.toNatClampNeg (iN 0)) (Int32.toInt64 r3)) fun h6 =>
    some (h6, .inr (iN 0))
  )) fun h2 k =>
  if k = 1 then (
    some (h2, .inr (iN 1))
  ) else
  if k = 0 then (
    some (h2, .inr (iN 2))
  ) else
  none
theorem p_L_setColumns {l : Launch} {K : Ctx} (hl : l.stackTraces = false) {h : Hp} {a0 : Nat} {i1 : Int32} {a2 : Nat} {t : Rs Int32} (e : f_L_setColumns h a0 i1 a2 = some t) : X l K mM_L_setColumns (tgI t) 0 [(0, .ref a0), (1, .int i1), (2, .ref a2)] [] h := by
  unfold f_L_setColumns at e
  refine x_aload_n (pc := 0) 2 dL_setColumns_0 rfl ?_
  refine x_iconst (pc := 1) dL_setColumns_1 ?_
  refine x_aload_n (pc := 2) 0 dL_setColumns_2 rfl ?_
  refine x_iload_n (pc := 3) 1 dL_setColumns_3 rfl ?_
  obtain ⟨q1, e⟩ := chk_some e
  rcases bndX_some e with ⟨h2, k, ec, e⟩ | ⟨h2, r3, ec, e⟩
  · rcases ite_some e with ⟨q7, e⟩ | ⟨q7, e⟩
    · subst q7
      refine y_callV_x (pc := 4) (c_X8_setColumns hl ec) q1 mf_X8_setColumns tw_3_79 tw_3_80 lf_L_7 rfl rfl dL_setColumns_4 (by decide) rfl rfl (leb rfl) (xx_catch (pc := 4) [] [(0, 9, 15, 15)] (0, 9, 12, 13) rfl (by decide) (fun _ hz => absurd hz List.not_mem_nil) (by decide) (by decide) tw_3_76 tw_3_88 dL_setColumns_12 (by decide) rfl ?_)
      refine x_iconst (pc := 13) dL_setColumns_13 ?_
      cases Option.some.inj e
      exact x_iret (pc := 14) rfl dL_setColumns_14
    rcases ite_some e with ⟨q8, e⟩ | ⟨q8, e⟩
    · subst q8
      refine y_callV_x (pc := 4) (c_X8_setColumns hl ec) q1 mf_X8_setColumns tw_3_79 tw_3_80 lf_L_7 rfl rfl dL_setColumns_4 (by decide) rfl rfl (leb rfl) (xx_catch (pc := 4) [(0, 9, 12, 13)] [] (0, 9, 15, 15) rfl (by decide) (List.forall_mem_cons.mpr ⟨⟨by decide, 1, by decide, by decide, tw_3_76⟩, fun _ hz => absurd hz List.not_mem_nil⟩) (by decide) (by decide) tw_3_77 tw_3_159 dL_setColumns_15 (by decide) rfl ?_)
      refine x_iconst (pc := 16) dL_setColumns_16 ?_
      cases Option.some.inj e
      exact x_iret (pc := 17) rfl dL_setColumns_17
    cases e
  refine y_callV_i (pc := 4) (c_X8_setColumns hl ec) q1 mf_X8_setColumns tw_3_79 tw_3_80 lf_L_7 rfl rfl dL_setColumns_4 (by decide) rfl rfl (leb rfl) ?_
  refine x_i2l (pc := 7) dL_setColumns_7 ?_
  obtain ⟨q4, e⟩ := chk_some e
  obtain ⟨q5, e⟩ := chk_some e
  replace e := lt_go e
  refine x_last (pc := 8) dL_setColumns_8 q4 q5 ?_
  refine x_goto (pc := 9) (t := 18) dL_setColumns_9 (by decide) ?_
  refine x_iconst (pc := 18) dL_setColumns_18 ?_
  cases Option.some.inj e
  exact x_iret (pc := 19) rfl dL_setColumns_19
abbrev w_L_setColumns : Cond := (Cond.codeWith yL_setColumns cL_setColumns 4 (Option.some Jvm.ClassFile.FieldType.int) [((0 : Nat), (9 : Nat), (12 : Nat), (13 : Nat)), ((0 : Nat), (9 : Nat), (15 : Nat), (15 : Nat))])
theorem mf_L_setColumns : MFX yL_setColumns w_L_setColumns cL_setColumns 4 (Option.some Jvm.ClassFile.FieldType.int) 3 [((0 : Nat), (9 : Nat), (12 : Nat), (13 : Nat)), ((0 : Nat), (9 : Nat), (15 : Nat), (15 : Nat))] := ⟨⟨rfl, tw_3_75, by decide⟩, tw_1_0, ⟨by decide, by decide⟩, by decide +kernel⟩
theorem c_L_setColumns {l : Launch} {K : Ctx} (hl : l.stackTraces = false) {h : Hp} {a0 : Nat} {i1 : Int32} {a2 : Nat} {t : Rs Int32} (e : f_L_setColumns h a0 i1 a2 = some t) : Ctr l K 15 yL_setColumns w_L_setColumns [.ref a0, .int i1, .ref a2] h (tgI t) :=
  Ctr.ofX hl mf_L_setColumns rfl (leb rfl) (p_L_setColumns hl e)
/-! ## TableColumnBalancerModel.in -/
abbrev mM_X9_in : Mi := (8, yX9_in.cls, cX9_in, 3, (Option.some Jvm.ClassFile.FieldType.boolean), [], false)
noncomputable def f_X9_in (h : Hp) (i0 : Int32) (i1 : Int32) (i2 : Int32) : Option (Rs Int32) :=
  if i0 < i1 then (
    some (h, .inr (iN 0))
  ) else (
    if i2 < i0 then (
      some (h, .inr (iN 0))
    ) else (
      some (h, .inr (iN 1))
    )
  )
theorem p_X9_in {l : Launch} {K : Ctx} (hl : l.stackTraces = false) {h : Hp} {i0 : Int32} {i1 : Int32} {i2 : Int32} {t : Rs Int32} (e : f_X9_in h i0 i1 i2 = some t) : X l K mM_X9_in (tgI t) 0 [(0, .int i0), (1, .int i1), (2, .int i2)] [] h := by
  unfold f_X9_in at e
  refine x_iload_n (pc := 0) 0 dX9_in_0 rfl ?_
  refine x_iload_n (pc := 1) 1 dX9_in_1 rfl ?_
  rcases ite_some e with ⟨q1, e⟩ | ⟨q1, e⟩
  · refine x_icmp_lt_t (pc := 2) (t := 14) dX9_in_2 (by decide) q1 ?_
    refine x_iconst (pc := 14) dX9_in_14 ?_
    cases Option.some.inj e
    exact x_zret (pc := 15) rfl (Or.inl rfl) dX9_in_15
  · refine x_icmp_lt_f (pc := 2) (t := 14) dX9_in_2 (by decide) q1 ?_
    refine x_iload_n (pc := 5) 0 dX9_in_5 rfl ?_
    refine x_iload_n (pc := 6) 2 dX9_in_6 rfl ?_
    rcases ite_some e with ⟨q2, e⟩ | ⟨q2, e⟩
    · refine x_icmp_gt_t (pc := 7) (t := 14) dX9_in_7 (by decide) q2 ?_
      refine x_iconst (pc := 14) dX9_in_14 ?_
      cases Option.some.inj e
      exact x_zret (pc := 15) rfl (Or.inl rfl) dX9_in_15
    · refine x_icmp_gt_f (pc := 7) (t := 14) dX9_in_7 (by decide) q2 ?_
      refine x_iconst (pc := 10) dX9_in_10 ?_
      refine x_goto (pc := 11) (t := 15) dX9_in_11 (by decide) ?_
      cases Option.some.inj e
      exact x_zret (pc := 15) rfl (Or.inr rfl) dX9_in_15
abbrev w_X9_in : Cond := (Cond.code yX9_in cX9_in 3 (Option.some Jvm.ClassFile.FieldType.boolean))
theorem mf_X9_in : MF yX9_in w_X9_in cX9_in 3 (Option.some Jvm.ClassFile.FieldType.boolean) 3 := ⟨⟨rfl, tw_7_21, by decide⟩, tw_1_11, ⟨by decide, by decide⟩, by decide +kernel⟩
theorem c_X9_in {l : Launch} {K : Ctx} (hl : l.stackTraces = false) {h : Hp} {i0 : Int32} {i1 : Int32} {i2 : Int32} {t : Rs Int32} (e : f_X9_in h i0 i1 i2 = some t) : Ctr l K 8 yX9_in w_X9_in [.int i0, .int i1, .int i2] h (tgI t) :=
  Ctr.of hl mf_X9_in false (fun q => nomatch q) rfl (leb rfl) (p_X9_in hl e)
/-! ## TableColumnBalancerModel.fails -/
abbrev mM_X9_fails : Mi := (8, yX9_fails.cls, cX9_fails, 2, (Option.some Jvm.ClassFile.FieldType.int), [], false)
noncomputable def f_X9_fails (h : Hp) (a0 : Nat) (i1 : Int32) : Option (Rs Int32) :=
  chk (okr h a0 9) <|
  lt (putI h a0 0 i1) fun h2 =>
  some (h2, .inr (iN 0))
theorem p_X9_fails {l : Launch} {K : Ctx} (hl : l.stackTraces = false) {h : Hp} {a0 : Nat} {i1 : Int32} {t : Rs Int32} (e : f_X9_fails h a0 i1 = some t) : X l K mM_X9_fails (tgI t) 0 [(0, .ref a0), (1, .int i1)] [] h := by
  unfold f_X9_fails at e
  refine x_aload_n (pc := 0) 0 dX9_fails_0 rfl ?_
  refine x_iload_n (pc := 1) 1 dX9_fails_1 rfl ?_
  obtain ⟨q1, e⟩ := chk_some e
  replace e := lt_go e
  refine x_putI (pc := 2) pf_X9_84 rfl rfl rfl dX9_fails_2 q1 ?_
  refine x_iconst (pc := 5) dX9_fails_5 ?_
  cases Option.some.inj e
  exact x_iret (pc := 6) rfl dX9_fails_6
abbrev w_X9_fails : Cond := (Cond.code yX9_fails cX9_fails 2 (Option.some Jvm.ClassFile.FieldType.int))
theorem mf_X9_fails : MF yX9_fails w_X9_fails cX9_fails 2 (Option.some Jvm.ClassFile.FieldType.int) 1 := ⟨⟨rfl, tw_7_25, by decide⟩, tw_1_11, ⟨by decide, by decide⟩, by decide +kernel⟩
theorem c_X9_fails {l : Launch} {K : Ctx} (hl : l.stackTraces = false) {h : Hp} {a0 : Nat} {i1 : Int32} {t : Rs Int32} (e : f_X9_fails h a0 i1 = some t) : Ctr l K 8 yX9_fails w_X9_fails [.ref a0, .int i1] h (tgI t) :=
  Ctr.of hl mf_X9_fails false (fun q => nomatch q) rfl (leb rfl) (p_X9_fails hl e)
/-! ## TableColumnBalancerModel.setColumns -/
abbrev mM_X9_setColumns : Mi := (9, yX9_setColumns.cls, cX9_setColumns, 4, (Option.some Jvm.ClassFile.FieldType.int), [], false)
noncomputable def f_X9_setColumns_B51 (k51 : Hp → Nat → Int32 → Int32 → Option (Rs Int32)) (h : Hp) (a0 : Nat) (i2 : Int32) (i3 : Int32) : Option (Rs Int32) :=
  if (iN 4) ≤ i3 then (
    some (h, .inr i2)
  ) else (
    chk (okr h a0 9) <|
    chk (okr h (qR h a0 1) 20) <|
    chk (vp_in ((iN 6) + i3) (qW h (qR h a0 1))) <|
    lt (putI h (qR h a0 1) (Int32.toNatClampNeg ((iN 6) + i3)) (iN 0)) fun h5 =>
    k51 h5 a0 i2 (i3 + iN 1)
  )
theorem p_X9_setColumns_B51 {l : Launch} {K : Ctx} (hl : l.stackTraces = false) {k51 : Hp → Nat → Int32 → Int32 → Option (Rs Int32)} (hk51 : ∀ (h : Hp) (a0 : Nat) (i2 : Int32) (i3 : Int32) (t : Rs Int32), k51 h a0 i2 i3 = some t → X l K mM_X9_setColumns (tgI t) 51 [(0, .ref a0), (2, .int i2), (3, .int i3)] [] h) {h : Hp} {a0 : Nat} {i2 : Int32} {i3 : Int32} {t : Rs Int32} (e : f_X9_setColumns_B51 k51 h a0 i2 i3 = some t) : X l K mM_X9_setColumns (tgI t) 51 [(0, .ref a0), (2, .int i2), (3, .int i3)] [] h := by
  unfold f_X9_setColumns_B51 at e
  refine x_iload_n (pc := 51) 2 dX9_setColumns_51 rfl ?_
  refine x_iconst (pc := 52) dX9_setColumns_52 ?_
  rcases ite_some e with ⟨q1, e⟩ | ⟨q1, e⟩
  · refine x_icmp_ge_t (pc := 53) (t := 72) dX9_setColumns_53 (by decide) q1 ?_
    refine x_iload_n (pc := 72) 1 dX9_setColumns_72 rfl ?_
    cases Option.some.inj e
    exact x_iret (pc := 73) rfl dX9_setColumns_73
  · refine x_icmp_ge_f (pc := 53) (t := 72) dX9_setColumns_53 (by decide) q1 ?_
    refine x_aload_n (pc := 56) 0 dX9_setColumns_56 rfl ?_
    obtain ⟨q2, e⟩ := chk_some e
    obtain ⟨q3, e⟩ := chk_some e
    refine x_getR (pc := 57) gf_X9_9 rfl dX9_setColumns_57 q2 q3.1 ?_
    refine x_bipush (pc := 60) (v := iN 6) dX9_setColumns_60 rfl ?_
    refine x_iload_n (pc := 62) 2 dX9_setColumns_62 rfl ?_
    refine x_iadd (pc := 63) dX9_setColumns_63 ?_
    refine x_iconst (pc := 64) dX9_setColumns_64 ?_
    obtain ⟨q4, e⟩ := chk_some e
    replace e := lt_go e
    refine x_iast (pc := 65) dX9_setColumns_65 q3 q4 ?_
    refine x_iinc (pc := 66) 2 dX9_setColumns_66 rfl (by decide) rfl ?_
    refine x_goto (pc := 69) (t := 51) dX9_setColumns_69 (by decide) ?_
    exact x_sub1 (hk51 _ _ _ _ _ e) [1, 2, 0] rfl
noncomputable def f_X9_setColumns_L51 (n : Nat) : Hp → Nat → Int32 → Int32 → Option (Rs Int32) := Nat.rec (motive := fun _ => Hp → Nat → Int32 → Int32 → Option (Rs Int32)) (fun _ _ _ _ => none) (fun _ r => f_X9_setColumns_B51 r) n
theorem p_X9_setColumns_L51 {l : Launch} {K : Ctx} (hl : l.stackTraces = false) : ∀ (n : Nat) (h : Hp) (a0 : Nat) (i2 : Int32) (i3 : Int32) (t : Rs Int32) (e : f_X9_setColumns_L51 n h a0 i2 i3 = some t), X l K mM_X9_setColumns (tgI t) 51 [(0, .ref a0), (2, .int i2), (3, .int i3)] [] h := by
  intro n
  induction n with
  | zero => exact fun _ _ _ _ _ e => nomatch (show (none : Option (Rs Int32)) = some _ from e)
  | succ n ih => exact fun h a0 i2 i3 t e => p_X9_setColumns_B51 hl (fun h a0 i2 i3 t e => ih h a0 i2 i3 t e) e
noncomputable def f_X9_setColumns (h : Hp) (a0 : Nat) (i1 : Int32) : Option (Rs Int32) :=
  chk (okr h a0 9) <|
  lt (putI h a0 0 (iN 0)) fun h2 =>
  bnd (f_X9_in h2 i1 (iN 1) (iN 4)) fun h3 r4 =>
  if r4 = 0 then (
    chk (okr h3 a0 9) <|
    bnd (f_X9_fails h3 a0 (iN 1)) fun h7 r8 =>
    some (h7, .inr r8)
  ) else (
    chk (okr h3 a0 9) <|
    chk (okr h3 (qR h3 a0 1) 20) <|
    chk (vp_in (iN 5) (qW h3 (qR h3 a0 1))) <|
    if (qI h3 (qR h3 a0 1) (Int32.toNatClampNeg (iN 5))) ≤ 0 then (
      chk (vp_in (iN 0) (qW h3 (qR h3 a0 1))) <|
      lt (putI h3 (qR h3 a0 1) (Int32.toNatClampNeg (iN 0)) i1) fun h14 =>
      f_X9_setColumns_L51 2000 h14 a0 (qI h3 (qR h3 a0 1) (Int32.toNatClampNeg (iN 0))) (iN 0)
    ) else (
      bnd (f_X9_fails h3 a0 (iN 2)) fun h15 r16 =>
      some (h15, .inr r16)
    )
  )
theorem p_X9_setColumns {l : Launch} {K : Ctx} (hl : l.stackTraces = false) {h : Hp} {a0 : Nat} {i1 : Int32} {t : Rs Int32} (e : f_X9_setColumns h a0 i1 = some t) : X l K mM_X9_setColumns (tgI t) 0 [(0, .ref a0), (1, .int i1)] [] h := by
  unfold f_X9_setColumns at e
  refine x_aload_n (pc := 0) 0 dX9_setColumns_0 rfl ?_
  refine x_iconst (pc := 1) dX9_setColumns_1 ?_
  obtain ⟨q1, e⟩ := chk_some e
  replace e := lt_go e
  refine x_putI (pc := 2) pf_X9_84 rfl rfl rfl dX9_setColumns_2 q1 ?_
  refine x_iload_n (pc := 5) 1 dX9_setColumns_5 rfl ?_
  refine x_iconst (pc := 6) dX9_setColumns_6 ?_
  refine x_iconst (pc := 7) dX9_setColumns_7 ?_
  rcases bnd_some e with ⟨h3, r4, ec, rfl⟩ | ⟨h3, r4, ec, e⟩
  · exact y_callS_x (pc := 8) (c_X9_in hl ec) mf_X9_in tw_7_20 lf_X9_87 dX9_setColumns_8 (by decide) rfl rfl (leb rfl) (xx_out0 rfl)
  refine y_callS_i (pc := 8) (c_X9_in hl ec) mf_X9_in tw_7_20 lf_X9_87 dX9_setColumns_8 (by decide) rfl rfl (leb rfl) ?_
  rcases ite_some e with ⟨q5, e⟩ | ⟨q5, e⟩
  · refine x_if_ne_f (pc := 11) (t := 20) dX9_setColumns_11 (by decide) q5 ?_
    refine x_aload_n (pc := 14) 0 dX9_setColumns_14 rfl ?_
    refine x_iconst (pc := 15) dX9_setColumns_15 ?_
    obtain ⟨q6, e⟩ := chk_some e
    rcases bnd_some e with ⟨h7, r8, ec, rfl⟩ | ⟨h7, r8, ec, e⟩
    · exact y_callV_x (pc := 16) (c_X9_fails hl ec) q6 mf_X9_fails tw_7_24 ts_6_7 lf_X9_95 rfl rfl dX9_setColumns_16 (by decide) rfl rfl (leb rfl) (xx_out0 rfl)
    refine y_callV_i (pc := 16) (c_X9_fails hl ec) q6 mf_X9_fails tw_7_24 ts_6_7 lf_X9_95 rfl rfl dX9_setColumns_16 (by decide) rfl rfl (leb rfl) ?_
    cases Option.some.inj e
    exact x_iret (pc := 19) rfl dX9_setColumns_19
  · refine x_if_ne_t (pc := 11) (t := 20) dX9_setColumns_11 (by decide) q5 ?_
    refine x_aload_n (pc := 20) 0 dX9_setColumns_20 rfl ?_
    obtain ⟨q9, e⟩ := chk_some e
    obtain ⟨q10, e⟩ := chk_some e
    refine x_getR (pc := 21) gf_X9_9 rfl dX9_setColumns_21 q9 q10.1 ?_
    refine x_iconst (pc := 24) dX9_setColumns_24 ?_
    obtain ⟨q11, e⟩ := chk_some e
    refine x_iald (pc := 25) dX9_setColumns_25 q10 q11 ?_
    rcases ite_some e with ⟨q12, e⟩ | ⟨q12, e⟩
    · refine x_if_le_t (pc := 26) (t := 35) dX9_setColumns_26 (by decide) q12 ?_
      refine x_aload_n (pc := 35) 0 dX9_setColumns_35 rfl ?_
      refine x_getR (pc := 36) gf_X9_9 rfl dX9_setColumns_36 q9 q10.1 ?_
      refine x_iconst (pc := 39) dX9_setColumns_39 ?_
      obtain ⟨q13, e⟩ := chk_some e
      refine x_iald (pc := 40) dX9_setColumns_40 q10 q13 ?_
      refine x_istore_n (pc := 41) dX9_setColumns_41 (by decide) rfl ?_
      refine x_aload_n (pc := 42) 1 dX9_setColumns_42 rfl ?_
      refine x_getR (pc := 43) gf_X9_9 rfl dX9_setColumns_43 q9 q10.1 ?_
      refine x_iconst (pc := 46) dX9_setColumns_46 ?_
      refine x_iload_n (pc := 47) 2 dX9_setColumns_47 rfl ?_
      replace e := lt_go e
      refine x_iast (pc := 48) dX9_setColumns_48 q10 q13 ?_
      refine x_iconst (pc := 49) dX9_setColumns_49 ?_
      refine x_istore_n (pc := 50) dX9_setColumns_50 (by decide) rfl ?_
      exact x_sub1 (p_X9_setColumns_L51 hl 2000 _ _ _ _ _ e) [2, 1, 0] rfl
    · refine x_if_le_f (pc := 26) (t := 35) dX9_setColumns_26 (by decide) q12 ?_
      refine x_aload_n (pc := 29) 0 dX9_setColumns_29 rfl ?_
      refine x_iconst (pc := 30) dX9_setColumns_30 ?_
      rcases bnd_some e with ⟨h15, r16, ec, rfl⟩ | ⟨h15, r16, ec, e⟩
      · exact y_callV_x (pc := 31) (c_X9_fails hl ec) q9 mf_X9_fails tw_7_24 ts_6_7 lf_X9_95 rfl rfl dX9_setColumns_31 (by decide) rfl rfl (leb rfl) (xx_out0 rfl)
      refine y_callV_i (pc := 31) (c_X9_fails hl ec) q9 mf_X9_fails tw_7_24 ts_6_7 lf_X9_95 rfl rfl dX9_setColumns_31 (by decide) rfl rfl (leb rfl) ?_
      cases Option.some.inj e
      exact x_iret (pc := 34) rfl dX9_setColumns_34
abbrev w_X9_setColumns : Cond := (Cond.code yX9_setColumns cX9_setColumns 4 (Option.some Jvm.ClassFile.FieldType.int))
theorem mf_X9_setColumns : MF yX9_setColumns w_X9_setColumns cX9_setColumns 4 (Option.some Jvm.ClassFile.FieldType.int) 1 := ⟨⟨rfl, tw_7_18, by decide⟩, tw_1_11, ⟨by decide, by decide⟩, by decide +kernel⟩
theorem c_X9_setColumns {l : Launch} {K : Ctx} (hl : l.stackTraces = false) {h : Hp} {a0 : Nat} {i1 : Int32} {t : Rs Int32} (e : f_X9_setColumns h a0 i1 = some t) : Ctr l K 9 yX9_setColumns w_X9_setColumns [.ref a0, .int i1] h (tgI t) :=
  Ctr.of hl mf_X9_setColumns false (fun q => nomatch q) rfl (leb rfl) (p_X9_setColumns hl e)
/-! ## TableColumnBalancerModel.thrown -/
abbrev mM_X9_thrown : Mi := (8, yX9_thrown.cls, cX9_thrown, 1, (Option.some Jvm.ClassFile.FieldType.int), [], false)
noncomputable def f_X9_thrown (h : Hp) (a0 : Nat) : Option (Rs Int32) :=
  chk (okr h a0 9) <|
  some (h, .inr (qI h a0 0))
theorem p_X9_thrown {l : Launch} {K : Ctx} (hl : l.stackTraces = false) {h : Hp} {a0 : Nat} {t : Rs Int32} (e : f_X9_thrown h a0 = some t) : X l K mM_X9_thrown (tgI t) 0 [(0, .ref a0)] [] h := by
  unfold f_X9_thrown at e
  refine x_aload_n (pc := 0) 0 dX9_thrown_0 rfl ?_
  obtain ⟨q1, e⟩ := chk_some e
  refine x_getI (pc := 1) gf_X9_84 rfl dX9_thrown_1 q1 ?_
  cases Option.some.inj e
  exact x_iret (pc := 4) rfl dX9_thrown_4
abbrev w_X9_thrown : Cond := (Cond.code yX9_thrown cX9_thrown 1 (Option.some Jvm.ClassFile.FieldType.int))
theorem mf_X9_thrown : MF yX9_thrown w_X9_thrown cX9_thrown 1 (Option.some Jvm.ClassFile.FieldType.int) 0 := ⟨⟨rfl, tw_7_14, by decide⟩, tw_1_11, ⟨by decide, by decide⟩, by decide +kernel⟩
theorem c_X9_thrown {l : Launch} {K : Ctx} (hl : l.stackTraces = false) {h : Hp} {a0 : Nat} {t : Rs Int32} (e : f_X9_thrown h a0 = some t) : Ctr l K 8 yX9_thrown w_X9_thrown [.ref a0] h (tgI t) :=
  Ctr.of hl mf_X9_thrown false (fun q => nomatch q) rfl (leb rfl) (p_X9_thrown hl e)
/-! ## TableColumnBalancer.requireIndex -/
abbrev mM_X8_requireIndex : Mi := (8, yX8_requireIndex.cls, cX8_requireIndex, 1, (Option.none : Option Jvm.ClassFile.FieldType), [], false)
noncomputable def f_X8_requireIndex (h : Hp) (i0 : Int32) : Option (Rs Unit) :=
  if i0 = 0 then (
    some (bump h, .inl 2)
  ) else (
    some (h, .inr ())
  )
theorem p_X8_requireIndex {l : Launch} {K : Ctx} (hl : l.stackTraces = false) {h : Hp} {i0 : Int32} {t : Rs Unit} (e : f_X8_requireIndex h i0 = some t) : X l K mM_X8_requireIndex (tgV t) 0 [(0, .int i0)] [] h := by
  unfold f_X8_requireIndex at e
  refine x_iload_n (pc := 0) 0 dX8_requireIndex_0 rfl ?_
  rcases ite_some e with ⟨q1, e⟩ | ⟨q1, e⟩
  · refine x_if_ne_f (pc := 1) (t := 12) dX8_requireIndex_1 (by decide) q1 ?_
    cases Option.some.inj e
    exact x_throw (pc := 4) (ic := 355) rfl tw_3_227 tw_1_17 th_X8_355 (by decide) tg_X8_355 dX8_requireIndex_4 dX8_requireIndex_7 dX8_requireIndex_8 dX8_requireIndex_11 (by decide) (leb rfl)
  · refine x_if_ne_t (pc := 1) (t := 12) dX8_requireIndex_1 (by decide) q1 ?_
    cases Option.some.inj e
    exact x_vret (pc := 12) rfl dX8_requireIndex_12
abbrev w_X8_requireIndex : Cond := (Cond.code yX8_requireIndex cX8_requireIndex 1 (Option.none : Option Jvm.ClassFile.FieldType))
theorem mf_X8_requireIndex : MF yX8_requireIndex w_X8_requireIndex cX8_requireIndex 1 (Option.none : Option Jvm.ClassFile.FieldType) 1 := ⟨⟨rfl, tw_3_226, by decide⟩, tw_1_1, ⟨by decide, by decide⟩, by decide +kernel⟩
theorem c_X8_requireIndex {l : Launch} {K : Ctx} (hl : l.stackTraces = false) {h : Hp} {i0 : Int32} {t : Rs Unit} (e : f_X8_requireIndex h i0 = some t) : Ctr l K 8 yX8_requireIndex w_X8_requireIndex [.int i0] h (tgV t) :=
  Ctr.of hl mf_X8_requireIndex false (fun q => nomatch q) rfl (leb rfl) (p_X8_requireIndex hl e)
/-! ## TableColumnBalancer.setMeasure -/
abbrev mM_X8_setMeasure : Mi := (14, yX8_setMeasure.cls, cX8_setMeasure, 4, (Option.some Jvm.ClassFile.FieldType.int), [], false)
noncomputable def f_X8_setMeasure_L101 (h : Hp) (a0 : Nat) (i3 : Int32) : Option (Rs Int32) :=
  chk (okr h a0 8) <|
  bnd (f_X8_changed h a0) fun h2 _ =>
  some (h2, .inr i3)
theorem p_X8_setMeasure_L101 {l : Launch} {K : Ctx} (hl : l.stackTraces = false) {h : Hp} {a0 : Nat} {i3 : Int32} {t : Rs Int32} (e : f_X8_setMeasure_L101 h a0 i3 = some t) : X l K mM_X8_setMeasure (tgI t) 101 [(0, .ref a0), (3, .int i3)] [] h := by
  unfold f_X8_setMeasure_L101 at e
  refine x_aload_n (pc := 101) 0 dX8_setMeasure_101 rfl ?_
  obtain ⟨q1, e⟩ := chk_some e
  rcases bnd_some e with ⟨h2, r3, ec, rfl⟩ | ⟨h2, r3, ec, e⟩
  · exact y_callV_x (pc := 102) (c_X8_changed hl ec) q1 mf_X8_changed tw_3_182 ts_3_5 lf_X8_93 rfl rfl dX8_setMeasure_102 (by decide) rfl rfl (leb rfl) (xx_out0 rfl)
  refine y_callV_v (pc := 102) (c_X8_changed hl ec) q1 mf_X8_changed tw_3_182 ts_3_5 lf_X8_93 rfl rfl dX8_setMeasure_102 (by decide) rfl rfl (leb rfl) ?_
  refine x_iload_n (pc := 105) 1 dX8_setMeasure_105 rfl ?_
  cases Option.some.inj e
  exact x_iret (pc := 106) rfl dX8_setMeasure_106
noncomputable def f_X8_setMeasure (h : Hp) (a0 : Nat) (i1 : Int32) (i2 : Int32) : Option (Rs Int32) :=
  bnd (f_X8_isWithin h i1 (iN 0) (iN 2)) fun h1 r2 =>
  bnd (f_X8_requireIndex h1 r2) fun h3 _ =>
  if i1 = 0 then (
    bnd (f_X8_isWithin h3 i2 (iN 8) (iN 36)) fun h6 r7 =>
    bnd (f_X8_requireArgument h6 r7) fun h8 _ =>
    chk (okr h8 a0 8) <|
    chk (okr h8 (qR h8 a0 0) 7) <|
    lt (putI h8 (qR h8 a0 0) 0 i2) fun h12 =>
    f_X8_setMeasure_L101 h12 a0 (qI h8 (qR h8 a0 0) 0)
  ) else (
    if i1 = (iN 1) then (
      bnd (f_X8_isWithin h3 i2 (iN 0) (iN 2)) fun h14 r15 =>
      bnd (f_X8_requireArgument h14 r15) fun h16 _ =>
      chk (okr h16 a0 8) <|
      chk (okr h16 (qR h16 a0 0) 7) <|
      lt (putI h16 (qR h16 a0 0) 1 i2) fun h20 =>
      f_X8_setMeasure_L101 h20 a0 (qI h16 (qR h16 a0 0) 1)
    ) else (
      bnd (f_X8_isWithin h3 i2 (iN 0) (iN 2)) fun h21 r22 =>
      bnd (f_X8_requireArgument h21 r22) fun h23 _ =>
      chk (okr h23 a0 8) <|
      chk (okr h23 (qR h23 a0 0) 7) <|
      lt (putI h23 (qR h23 a0 0) 2 i2) fun h27 =>
      f_X8_setMeasure_L101 h27 a0 (qI h23 (qR h23 a0 0) 2)
    )
  )
theorem p_X8_setMeasure {l : Launch} {K : Ctx} (hl : l.stackTraces = false) {h : Hp} {a0 : Nat} {i1 : Int32} {i2 : Int32} {t : Rs Int32} (e : f_X8_setMeasure h a0 i1 i2 = some t) : X l K mM_X8_setMeasure (tgI t) 0 [(0, .ref a0), (1, .int i1), (2, .int i2)] [] h := by
  unfold f_X8_setMeasure at e
  refine x_iload_n (pc := 0) 1 dX8_setMeasure_0 rfl ?_
  refine x_iconst (pc := 1) dX8_setMeasure_1 ?_
  refine x_iconst (pc := 2) dX8_setMeasure_2 ?_
  rcases bnd_some e with ⟨h1, r2, ec, rfl⟩ | ⟨h1, r2, ec, e⟩
  · exact y_callS_x (pc := 3) (c_X8_isWithin hl ec) mf_X8_isWithin tw_3_26 lf_X8_72 dX8_setMeasure_3 (by decide) rfl rfl (leb rfl) (xx_out0 rfl)
  refine y_callS_i (pc := 3) (c_X8_isWithin hl ec) mf_X8_isWithin tw_3_26 lf_X8_72 dX8_setMeasure_3 (by decide) rfl rfl (leb rfl) ?_
  rcases bnd_some e with ⟨h3, r4, ec, rfl⟩ | ⟨h3, r4, ec, e⟩
  · exact y_callS_x (pc := 6) (c_X8_requireIndex hl ec) mf_X8_requireIndex tw_3_225 lf_X8_96 dX8_setMeasure_6 (by decide) rfl rfl (leb rfl) (xx_out0 rfl)
  refine y_callS_v (pc := 6) (c_X8_requireIndex hl ec) mf_X8_requireIndex tw_3_225 lf_X8_96 dX8_setMeasure_6 (by decide) rfl rfl (leb rfl) ?_
  refine x_iload_n (pc := 9) 1 dX8_setMeasure_9 rfl ?_
  rcases ite_some e with ⟨q5, e⟩ | ⟨q5, e⟩
  · refine x_if_ne_f (pc := 10) (t := 43) dX8_setMeasure_10 (by decide) q5 ?_
    refine x_iload_n (pc := 13) 2 dX8_setMeasure_13 rfl ?_
    refine x_bipush (pc := 14) (v := iN 8) dX8_setMeasure_14 rfl ?_
    refine x_bipush (pc := 16) (v := iN 36) dX8_setMeasure_16 rfl ?_
    rcases bnd_some e with ⟨h6, r7, ec, rfl⟩ | ⟨h6, r7, ec, e⟩
    · exact y_callS_x (pc := 18) (c_X8_isWithin hl ec) mf_X8_isWithin tw_3_26 lf_X8_72 dX8_setMeasure_18 (by decide) rfl rfl (leb rfl) (xx_out0 rfl)
    refine y_callS_i (pc := 18) (c_X8_isWithin hl ec) mf_X8_isWithin tw_3_26 lf_X8_72 dX8_setMeasure_18 (by decide) rfl rfl (leb rfl) ?_
    rcases bnd_some e with ⟨h8, r9, ec, rfl⟩ | ⟨h8, r9, ec, e⟩
    · exact y_callS_x (pc := 21) (c_X8_requireArgument hl ec) mf_X8_requireArgument tw_3_84 lf_X8_76 dX8_setMeasure_21 (by decide) rfl rfl (leb rfl) (xx_out0 rfl)
    refine y_callS_v (pc := 21) (c_X8_requireArgument hl ec) mf_X8_requireArgument tw_3_84 lf_X8_76 dX8_setMeasure_21 (by decide) rfl rfl (leb rfl) ?_
    refine x_aload_n (pc := 24) 0 dX8_setMeasure_24 rfl ?_
    obtain ⟨q10, e⟩ := chk_some e
    obtain ⟨q11, e⟩ := chk_some e
    refine x_getR (pc := 25) gf_X8_10 rfl dX8_setMeasure_25 q10 q11.1 ?_
    refine x_getI (pc := 28) gf_X8_99 rfl dX8_setMeasure_28 q11 ?_
    refine x_istore_n (pc := 31) dX8_setMeasure_31 (by decide) rfl ?_
    refine x_aload_n (pc := 32) 1 dX8_setMeasure_32 rfl ?_
    refine x_getR (pc := 33) gf_X8_10 rfl dX8_setMeasure_33 q10 q11.1 ?_
    refine x_iload_n (pc := 36) 3 dX8_setMeasure_36 rfl ?_
    replace e := lt_go e
    refine x_putI (pc := 37) pf_X8_99 rfl rfl rfl dX8_setMeasure_37 q11 ?_
    refine x_goto (pc := 40) (t := 101) dX8_setMeasure_40 (by decide) ?_
    exact x_sub1 (p_X8_setMeasure_L101 hl e) [1, 0] rfl
  · refine x_if_ne_t (pc := 10) (t := 43) dX8_setMeasure_10 (by decide) q5 ?_
    refine x_iload_n (pc := 43) 1 dX8_setMeasure_43 rfl ?_
    refine x_iconst (pc := 44) dX8_setMeasure_44 ?_
    rcases ite_some e with ⟨q13, e⟩ | ⟨q13, e⟩
    · refine x_icmp_ne_f (pc := 45) (t := 76) dX8_setMeasure_45 (by decide) q13 ?_
      refine x_iload_n (pc := 48) 2 dX8_setMeasure_48 rfl ?_
      refine x_iconst (pc := 49) dX8_setMeasure_49 ?_
      refine x_iconst (pc := 50) dX8_setMeasure_50 ?_
      rcases bnd_some e with ⟨h14, r15, ec, rfl⟩ | ⟨h14, r15, ec, e⟩
      · exact y_callS_x (pc := 51) (c_X8_isWithin hl ec) mf_X8_isWithin tw_3_26 lf_X8_72 dX8_setMeasure_51 (by decide) rfl rfl (leb rfl) (xx_out0 rfl)
      refine y_callS_i (pc := 51) (c_X8_isWithin hl ec) mf_X8_isWithin tw_3_26 lf_X8_72 dX8_setMeasure_51 (by decide) rfl rfl (leb rfl) ?_
      rcases bnd_some e with ⟨h16, r17, ec, rfl⟩ | ⟨h16, r17, ec, e⟩
      · exact y_callS_x (pc := 54) (c_X8_requireArgument hl ec) mf_X8_requireArgument tw_3_84 lf_X8_76 dX8_setMeasure_54 (by decide) rfl rfl (leb rfl) (xx_out0 rfl)
      refine y_callS_v (pc := 54) (c_X8_requireArgument hl ec) mf_X8_requireArgument tw_3_84 lf_X8_76 dX8_setMeasure_54 (by decide) rfl rfl (leb rfl) ?_
      refine x_aload_n (pc := 57) 0 dX8_setMeasure_57 rfl ?_
      obtain ⟨q18, e⟩ := chk_some e
      obtain ⟨q19, e⟩ := chk_some e
      refine x_getR (pc := 58) gf_X8_10 rfl dX8_setMeasure_58 q18 q19.1 ?_
      refine x_getI (pc := 61) gf_X8_102 rfl dX8_setMeasure_61 q19 ?_
      refine x_istore_n (pc := 64) dX8_setMeasure_64 (by decide) rfl ?_
      refine x_aload_n (pc := 65) 1 dX8_setMeasure_65 rfl ?_
      refine x_getR (pc := 66) gf_X8_10 rfl dX8_setMeasure_66 q18 q19.1 ?_
      refine x_iload_n (pc := 69) 3 dX8_setMeasure_69 rfl ?_
      replace e := lt_go e
      refine x_putI (pc := 70) pf_X8_102 rfl rfl rfl dX8_setMeasure_70 q19 ?_
      refine x_goto (pc := 73) (t := 101) dX8_setMeasure_73 (by decide) ?_
      exact x_sub1 (p_X8_setMeasure_L101 hl e) [1, 0] rfl
    · refine x_icmp_ne_t (pc := 45) (t := 76) dX8_setMeasure_45 (by decide) q13 ?_
      refine x_iload_n (pc := 76) 2 dX8_setMeasure_76 rfl ?_
      refine x_iconst (pc := 77) dX8_setMeasure_77 ?_
      refine x_iconst (pc := 78) dX8_setMeasure_78 ?_
      rcases bnd_some e with ⟨h21, r22, ec, rfl⟩ | ⟨h21, r22, ec, e⟩
      · exact y_callS_x (pc := 79) (c_X8_isWithin hl ec) mf_X8_isWithin tw_3_26 lf_X8_72 dX8_setMeasure_79 (by decide) rfl rfl (leb rfl) (xx_out0 rfl)
      refine y_callS_i (pc := 79) (c_X8_isWithin hl ec) mf_X8_isWithin tw_3_26 lf_X8_72 dX8_setMeasure_79 (by decide) rfl rfl (leb rfl) ?_
      rcases bnd_some e with ⟨h23, r24, ec, rfl⟩ | ⟨h23, r24, ec, e⟩
      · exact y_callS_x (pc := 82) (c_X8_requireArgument hl ec) mf_X8_requireArgument tw_3_84 lf_X8_76 dX8_setMeasure_82 (by decide) rfl rfl (leb rfl) (xx_out0 rfl)
      refine y_callS_v (pc := 82) (c_X8_requireArgument hl ec) mf_X8_requireArgument tw_3_84 lf_X8_76 dX8_setMeasure_82 (by decide) rfl rfl (leb rfl) ?_
      refine x_aload_n (pc := 85) 0 dX8_setMeasure_85 rfl ?_
      obtain ⟨q25, e⟩ := chk_some e
      obtain ⟨q26, e⟩ := chk_some e
      refine x_getR (pc := 86) gf_X8_10 rfl dX8_setMeasure_86 q25 q26.1 ?_
      refine x_getI (pc := 89) gf_X8_105 rfl dX8_setMeasure_89 q26 ?_
      refine x_istore_n (pc := 92) dX8_setMeasure_92 (by decide) rfl ?_
      refine x_aload_n (pc := 93) 1 dX8_setMeasure_93 rfl ?_
      refine x_getR (pc := 94) gf_X8_10 rfl dX8_setMeasure_94 q25 q26.1 ?_
      refine x_iload_n (pc := 97) 3 dX8_setMeasure_97 rfl ?_
      replace e := lt_go e
      refine x_putI (pc := 98) pf_X8_105 rfl rfl rfl dX8_setMeasure_98 q26 ?_
      exact x_sub1 (p_X8_setMeasure_L101 hl e) [1, 0] rfl
abbrev w_X8_setMeasure : Cond := (Cond.code yX8_setMeasure cX8_setMeasure 4 (Option.some Jvm.ClassFile.FieldType.int))
theorem mf_X8_setMeasure : MF yX8_setMeasure w_X8_setMeasure cX8_setMeasure 4 (Option.some Jvm.ClassFile.FieldType.int) 2 := ⟨⟨rfl, tw_3_223, by decide⟩, tw_1_1, ⟨by decide, by decide⟩, by decide +kernel⟩
theorem c_X8_setMeasure {l : Launch} {K : Ctx} (hl : l.stackTraces = false) {h : Hp} {a0 : Nat} {i1 : Int32} {i2 : Int32} {t : Rs Int32} (e : f_X8_setMeasure h a0 i1 i2 = some t) : Ctr l K 14 yX8_setMeasure w_X8_setMeasure [.ref a0, .int i1, .int i2] h (tgI t) :=
  Ctr.of hl mf_X8_setMeasure false (fun q => nomatch q) rfl (leb rfl) (p_X8_setMeasure hl e)
/-! ## TableColumnBalancerLaw.setMeasure -/
abbrev mM_L_setMeasure : Mi := (15, yL_setMeasure.cls, cL_setMeasure, 5, (Option.some Jvm.ClassFile.FieldType.int), [((0 : Nat), (10 : Nat), (13 : Nat), (21 : Nat)), ((0 : Nat), (10 : Nat), (17 : Nat), (13 : Nat))], false)
noncomputable def f_L_setMeasure (h : Hp) (a0 : Nat) (i1 : Int32) (i2 : Int32) (a3 : Nat) : Option (Rs Int32) :=
  chk (okr h a0 8) <|
  bndX (f_X8_setMeasure h a0 i1 i2) (fun h2 r3 => (
    chk (okr h2 a3 21) <|
    chk (vp_in (iN 0) (qW h2 a3)) <|
    lt (putL h2 a3 (Int32.toNatClampNeg (iN 0)) (Int32.toInt64 r3)) fun h6 =>
    some (h6, .inr (iN 0))
  )) fun h2 k =>
  if k = 2 then (
    some (h2, .inr (iN 1))
  ) else
  if k = 1 then (
    some (h2, .inr (iN 2))
  ) else
  none
theorem p_L_setMeasure {l : Launch} {K : Ctx} (hl : l.stackTraces = false) {h : Hp} {a0 : Nat} {i1 : Int32} {i2 : Int32} {a3 : Nat} {t : Rs Int32} (e : f_L_setMeasure h a0 i1 i2 a3 = some t) : X l K mM_L_setMeasure (tgI t) 0 [(0, .ref a0), (1, .int i1), (2, .int i2), (3, .ref a3)] [] h := by
  unfold f_L_setMeasure at e
  refine x_aload_n (pc := 0) 3 dL_setMeasure_0 rfl ?_
  refine x_iconst (pc := 1) dL_setMeasure_1 ?_
  refine x_aload_n (pc := 2) 0 dL_setMeasure_2 rfl ?_
  refine x_iload_n (pc := 3) 1 dL_setMeasure_3 rfl ?_
  refine x_iload_n (pc := 4) 2 dL_setMeasure_4 rfl ?_
  obtain ⟨q1, e⟩ := chk_some e
  rcases bndX_some e with ⟨h2, k, ec, e⟩ | ⟨h2, r3, ec, e⟩
  · rcases ite_some e with ⟨q7, e⟩ | ⟨q7, e⟩
    · subst q7
      refine y_callV_x (pc := 5) (c_X8_setMeasure hl ec) q1 mf_X8_setMeasure tw_3_221 tw_3_222 lf_L_17 rfl rfl dL_setMeasure_5 (by decide) rfl rfl (leb rfl) (xx_catchA (pc := 5) [] [(0, 10, 17, 13)] (0, 10, 13, 21) rfl (by decide) (fun _ hz => absurd hz List.not_mem_nil) (by decide) (by decide) tw_3_187 tw_3_229 dL_setMeasure_13 (by decide) rfl ?_)
      refine x_iconst (pc := 15) dL_setMeasure_15 ?_
      cases Option.some.inj e
      exact x_iret (pc := 16) rfl dL_setMeasure_16
    rcases ite_some e with ⟨q8, e⟩ | ⟨q8, e⟩
    · subst q8
      refine y_callV_x (pc := 5) (c_X8_setMeasure hl ec) q1 mf_X8_setMeasure tw_3_221 tw_3_222 lf_L_17 rfl rfl dL_setMeasure_5 (by decide) rfl rfl (leb rfl) (xx_catchA (pc := 5) [(0, 10, 13, 21)] [] (0, 10, 17, 13) rfl (by decide) (List.forall_mem_cons.mpr ⟨⟨by decide, 2, by decide, by decide, tw_3_187⟩, fun _ hz => absurd hz List.not_mem_nil⟩) (by decide) (by decide) tw_3_76 tw_3_88 dL_setMeasure_17 (by decide) rfl ?_)
      refine x_iconst (pc := 19) dL_setMeasure_19 ?_
      cases Option.some.inj e
      exact x_iret (pc := 20) rfl dL_setMeasure_20
    cases e
  refine y_callV_i (pc := 5) (c_X8_setMeasure hl ec) q1 mf_X8_setMeasure tw_3_221 tw_3_222 lf_L_17 rfl rfl dL_setMeasure_5 (by decide) rfl rfl (leb rfl) ?_
  refine x_i2l (pc := 8) dL_setMeasure_8 ?_
  obtain ⟨q4, e⟩ := chk_some e
  obtain ⟨q5, e⟩ := chk_some e
  replace e := lt_go e
  refine x_last (pc := 9) dL_setMeasure_9 q4 q5 ?_
  refine x_goto (pc := 10) (t := 21) dL_setMeasure_10 (by decide) ?_
  refine x_iconst (pc := 21) dL_setMeasure_21 ?_
  cases Option.some.inj e
  exact x_iret (pc := 22) rfl dL_setMeasure_22
abbrev w_L_setMeasure : Cond := (Cond.codeWith yL_setMeasure cL_setMeasure 5 (Option.some Jvm.ClassFile.FieldType.int) [((0 : Nat), (10 : Nat), (13 : Nat), (21 : Nat)), ((0 : Nat), (10 : Nat), (17 : Nat), (13 : Nat))])
theorem mf_L_setMeasure : MFX yL_setMeasure w_L_setMeasure cL_setMeasure 5 (Option.some Jvm.ClassFile.FieldType.int) 4 [((0 : Nat), (10 : Nat), (13 : Nat), (21 : Nat)), ((0 : Nat), (10 : Nat), (17 : Nat), (13 : Nat))] := ⟨⟨rfl, tw_3_186, by decide⟩, tw_1_0, ⟨by decide, by decide⟩, by decide +kernel⟩
theorem c_L_setMeasure {l : Launch} {K : Ctx} (hl : l.stackTraces = false) {h : Hp} {a0 : Nat} {i1 : Int32} {i2 : Int32} {a3 : Nat} {t : Rs Int32} (e : f_L_setMeasure h a0 i1 i2 a3 = some t) : Ctr l K 15 yL_setMeasure w_L_setMeasure [.ref a0, .int i1, .int i2, .ref a3] h (tgI t) :=
  Ctr.ofX hl mf_L_setMeasure rfl (leb rfl) (p_L_setMeasure hl e)
/-! ## TableColumnBalancerModel.isMeasure -/
abbrev mM_X9_isMeasure : Mi := (9, yX9_isMeasure.cls, cX9_isMeasure, 2, (Option.some Jvm.ClassFile.FieldType.boolean), [], false)
noncomputable def f_X9_isMeasure (h : Hp) (i0 : Int32) (i1 : Int32) : Option (Rs Int32) :=
  if i0 = 0 then (
    bnd (f_X9_in h i1 (iN 8) (iN 36)) fun h2 r3 =>
    chk (r3 = 0 ∨ r3 = 1) <|
    some (h2, .inr r3)
  ) else (
    bnd (f_X9_in h i1 (iN 0) (iN 2)) fun h5 r6 =>
    chk (r6 = 0 ∨ r6 = 1) <|
    some (h5, .inr r6)
  )
theorem p_X9_isMeasure {l : Launch} {K : Ctx} (hl : l.stackTraces = false) {h : Hp} {i0 : Int32} {i1 : Int32} {t : Rs Int32} (e : f_X9_isMeasure h i0 i1 = some t) : X l K mM_X9_isMeasure (tgI t) 0 [(0, .int i0), (1, .int i1)] [] h := by
  unfold f_X9_isMeasure at e
  refine x_iload_n (pc := 0) 0 dX9_isMeasure_0 rfl ?_
  rcases ite_some e with ⟨q1, e⟩ | ⟨q1, e⟩
  · refine x_if_ne_f (pc := 1) (t := 15) dX9_isMeasure_1 (by decide) q1 ?_
    refine x_iload_n (pc := 4) 1 dX9_isMeasure_4 rfl ?_
    refine x_bipush (pc := 5) (v := iN 8) dX9_isMeasure_5 rfl ?_
    refine x_bipush (pc := 7) (v := iN 36) dX9_isMeasure_7 rfl ?_
    rcases bnd_some e with ⟨h2, r3, ec, rfl⟩ | ⟨h2, r3, ec, e⟩
    · exact y_callS_x (pc := 9) (c_X9_in hl ec) mf_X9_in tw_7_20 lf_X9_87 dX9_isMeasure_9 (by decide) rfl rfl (leb rfl) (xx_out0 rfl)
    refine y_callS_i (pc := 9) (c_X9_in hl ec) mf_X9_in tw_7_20 lf_X9_87 dX9_isMeasure_9 (by decide) rfl rfl (leb rfl) ?_
    refine x_goto (pc := 12) (t := 21) dX9_isMeasure_12 (by decide) ?_
    obtain ⟨q4, e⟩ := chk_some e
    cases Option.some.inj e
    exact x_zret (pc := 21) rfl q4 dX9_isMeasure_21
  · refine x_if_ne_t (pc := 1) (t := 15) dX9_isMeasure_1 (by decide) q1 ?_
    refine x_iload_n (pc := 15) 1 dX9_isMeasure_15 rfl ?_
    refine x_iconst (pc := 16) dX9_isMeasure_16 ?_
    refine x_iconst (pc := 17) dX9_isMeasure_17 ?_
    rcases bnd_some e with ⟨h5, r6, ec, rfl⟩ | ⟨h5, r6, ec, e⟩
    · exact y_callS_x (pc := 18) (c_X9_in hl ec) mf_X9_in tw_7_20 lf_X9_87 dX9_isMeasure_18 (by decide) rfl rfl (leb rfl) (xx_out0 rfl)
    refine y_callS_i (pc := 18) (c_X9_in hl ec) mf_X9_in tw_7_20 lf_X9_87 dX9_isMeasure_18 (by decide) rfl rfl (leb rfl) ?_
    obtain ⟨q7, e⟩ := chk_some e
    cases Option.some.inj e
    exact x_zret (pc := 21) rfl q7 dX9_isMeasure_21
abbrev w_X9_isMeasure : Cond := (Cond.code yX9_isMeasure cX9_isMeasure 2 (Option.some Jvm.ClassFile.FieldType.boolean))
theorem mf_X9_isMeasure : MF yX9_isMeasure w_X9_isMeasure cX9_isMeasure 2 (Option.some Jvm.ClassFile.FieldType.boolean) 2 := ⟨⟨rfl, tw_7_32, by decide⟩, tw_1_11, ⟨by decide, by decide⟩, by decide +kernel⟩
theorem c_X9_isMeasure {l : Launch} {K : Ctx} (hl : l.stackTraces = false) {h : Hp} {i0 : Int32} {i1 : Int32} {t : Rs Int32} (e : f_X9_isMeasure h i0 i1 = some t) : Ctr l K 9 yX9_isMeasure w_X9_isMeasure [.int i0, .int i1] h (tgI t) :=
  Ctr.of hl mf_X9_isMeasure false (fun q => nomatch q) rfl (leb rfl) (p_X9_isMeasure hl e)
/-! ## TableColumnBalancerModel.setMeasure -/
abbrev mM_X9_setMeasure : Mi := (10, yX9_setMeasure.cls, cX9_setMeasure, 4, (Option.some Jvm.ClassFile.FieldType.int), [], false)
noncomputable def f_X9_setMeasure (h : Hp) (a0 : Nat) (i1 : Int32) (i2 : Int32) : Option (Rs Int32) :=
  chk (okr h a0 9) <|
  lt (putI h a0 0 (iN 0)) fun h2 =>
  bnd (f_X9_in h2 i1 (iN 0) (iN 2)) fun h3 r4 =>
  if r4 = 0 then (
    chk (okr h3 a0 9) <|
    bnd (f_X9_fails h3 a0 (iN 1)) fun h7 r8 =>
    some (h7, .inr r8)
  ) else (
    bnd (f_X9_isMeasure h3 i1 i2) fun h9 r10 =>
    if r10 = 0 then (
      chk (okr h9 a0 9) <|
      bnd (f_X9_fails h9 a0 (iN 2)) fun h13 r14 =>
      some (h13, .inr r14)
    ) else (
      chk (okr h9 a0 9) <|
      chk (okr h9 (qR h9 a0 1) 20) <|
      chk (vp_in ((iN 1) + i1) (qW h9 (qR h9 a0 1))) <|
      lt (putI h9 (qR h9 a0 1) (Int32.toNatClampNeg ((iN 1) + i1)) i2) fun h18 =>
      some (h18, .inr (qI h9 (qR h9 a0 1) (Int32.toNatClampNeg ((iN 1) + i1))))
    )
  )
theorem p_X9_setMeasure {l : Launch} {K : Ctx} (hl : l.stackTraces = false) {h : Hp} {a0 : Nat} {i1 : Int32} {i2 : Int32} {t : Rs Int32} (e : f_X9_setMeasure h a0 i1 i2 = some t) : X l K mM_X9_setMeasure (tgI t) 0 [(0, .ref a0), (1, .int i1), (2, .int i2)] [] h := by
  unfold f_X9_setMeasure at e
  refine x_aload_n (pc := 0) 0 dX9_setMeasure_0 rfl ?_
  refine x_iconst (pc := 1) dX9_setMeasure_1 ?_
  obtain ⟨q1, e⟩ := chk_some e
  replace e := lt_go e
  refine x_putI (pc := 2) pf_X9_84 rfl rfl rfl dX9_setMeasure_2 q1 ?_
  refine x_iload_n (pc := 5) 1 dX9_setMeasure_5 rfl ?_
  refine x_iconst (pc := 6) dX9_setMeasure_6 ?_
  refine x_iconst (pc := 7) dX9_setMeasure_7 ?_
  rcases bnd_some e with ⟨h3, r4, ec, rfl⟩ | ⟨h3, r4, ec, e⟩
  · exact y_callS_x (pc := 8) (c_X9_in hl ec) mf_X9_in tw_7_20 lf_X9_87 dX9_setMeasure_8 (by decide) rfl rfl (leb rfl) (xx_out0 rfl)
  refine y_callS_i (pc := 8) (c_X9_in hl ec) mf_X9_in tw_7_20 lf_X9_87 dX9_setMeasure_8 (by decide) rfl rfl (leb rfl) ?_
  rcases ite_some e with ⟨q5, e⟩ | ⟨q5, e⟩
  · refine x_if_ne_f (pc := 11) (t := 20) dX9_setMeasure_11 (by decide) q5 ?_
    refine x_aload_n (pc := 14) 0 dX9_setMeasure_14 rfl ?_
    refine x_iconst (pc := 15) dX9_setMeasure_15 ?_
    obtain ⟨q6, e⟩ := chk_some e
    rcases bnd_some e with ⟨h7, r8, ec, rfl⟩ | ⟨h7, r8, ec, e⟩
    · exact y_callV_x (pc := 16) (c_X9_fails hl ec) q6 mf_X9_fails tw_7_24 ts_6_7 lf_X9_95 rfl rfl dX9_setMeasure_16 (by decide) rfl rfl (leb rfl) (xx_out0 rfl)
    refine y_callV_i (pc := 16) (c_X9_fails hl ec) q6 mf_X9_fails tw_7_24 ts_6_7 lf_X9_95 rfl rfl dX9_setMeasure_16 (by decide) rfl rfl (leb rfl) ?_
    cases Option.some.inj e
    exact x_iret (pc := 19) rfl dX9_setMeasure_19
  · refine x_if_ne_t (pc := 11) (t := 20) dX9_setMeasure_11 (by decide) q5 ?_
    refine x_iload_n (pc := 20) 1 dX9_setMeasure_20 rfl ?_
    refine x_iload_n (pc := 21) 2 dX9_setMeasure_21 rfl ?_
    rcases bnd_some e with ⟨h9, r10, ec, rfl⟩ | ⟨h9, r10, ec, e⟩
    · exact y_callS_x (pc := 22) (c_X9_isMeasure hl ec) mf_X9_isMeasure tw_7_31 lf_X9_99 dX9_setMeasure_22 (by decide) rfl rfl (leb rfl) (xx_out0 rfl)
    refine y_callS_i (pc := 22) (c_X9_isMeasure hl ec) mf_X9_isMeasure tw_7_31 lf_X9_99 dX9_setMeasure_22 (by decide) rfl rfl (leb rfl) ?_
    rcases ite_some e with ⟨q11, e⟩ | ⟨q11, e⟩
    · refine x_if_ne_f (pc := 25) (t := 34) dX9_setMeasure_25 (by decide) q11 ?_
      refine x_aload_n (pc := 28) 0 dX9_setMeasure_28 rfl ?_
      refine x_iconst (pc := 29) dX9_setMeasure_29 ?_
      obtain ⟨q12, e⟩ := chk_some e
      rcases bnd_some e with ⟨h13, r14, ec, rfl⟩ | ⟨h13, r14, ec, e⟩
      · exact y_callV_x (pc := 30) (c_X9_fails hl ec) q12 mf_X9_fails tw_7_24 ts_6_7 lf_X9_95 rfl rfl dX9_setMeasure_30 (by decide) rfl rfl (leb rfl) (xx_out0 rfl)
      refine y_callV_i (pc := 30) (c_X9_fails hl ec) q12 mf_X9_fails tw_7_24 ts_6_7 lf_X9_95 rfl rfl dX9_setMeasure_30 (by decide) rfl rfl (leb rfl) ?_
      cases Option.some.inj e
      exact x_iret (pc := 33) rfl dX9_setMeasure_33
    · refine x_if_ne_t (pc := 25) (t := 34) dX9_setMeasure_25 (by decide) q11 ?_
      refine x_aload_n (pc := 34) 0 dX9_setMeasure_34 rfl ?_
      obtain ⟨q15, e⟩ := chk_some e
      obtain ⟨q16, e⟩ := chk_some e
      refine x_getR (pc := 35) gf_X9_9 rfl dX9_setMeasure_35 q15 q16.1 ?_
      refine x_iconst (pc := 38) dX9_setMeasure_38 ?_
      refine x_iload_n (pc := 39) 1 dX9_setMeasure_39 rfl ?_
      refine x_iadd (pc := 40) dX9_setMeasure_40 ?_
      obtain ⟨q17, e⟩ := chk_some e
      refine x_iald (pc := 41) dX9_setMeasure_41 q16 q17 ?_
      refine x_istore_n (pc := 42) dX9_setMeasure_42 (by decide) rfl ?_
      refine x_aload_n (pc := 43) 1 dX9_setMeasure_43 rfl ?_
      refine x_getR (pc := 44) gf_X9_9 rfl dX9_setMeasure_44 q15 q16.1 ?_
      refine x_iconst (pc := 47) dX9_setMeasure_47 ?_
      refine x_iload_n (pc := 48) 2 dX9_setMeasure_48 rfl ?_
      refine x_iadd (pc := 49) dX9_setMeasure_49 ?_
      refine x_iload_n (pc := 50) 3 dX9_setMeasure_50 rfl ?_
      replace e := lt_go e
      refine x_iast (pc := 51) dX9_setMeasure_51 q16 q17 ?_
      refine x_iload_n (pc := 52) 0 dX9_setMeasure_52 rfl ?_
      cases Option.some.inj e
      exact x_iret (pc := 53) rfl dX9_setMeasure_53
abbrev w_X9_setMeasure : Cond := (Cond.code yX9_setMeasure cX9_setMeasure 4 (Option.some Jvm.ClassFile.FieldType.int))
theorem mf_X9_setMeasure : MF yX9_setMeasure w_X9_setMeasure cX9_setMeasure 4 (Option.some Jvm.ClassFile.FieldType.int) 2 := ⟨⟨rfl, tw_7_29, by decide⟩, tw_1_11, ⟨by decide, by decide⟩, by decide +kernel⟩
theorem c_X9_setMeasure {l : Launch} {K : Ctx} (hl : l.stackTraces = false) {h : Hp} {a0 : Nat} {i1 : Int32} {i2 : Int32} {t : Rs Int32} (e : f_X9_setMeasure h a0 i1 i2 = some t) : Ctr l K 10 yX9_setMeasure w_X9_setMeasure [.ref a0, .int i1, .int i2] h (tgI t) :=
  Ctr.of hl mf_X9_setMeasure false (fun q => nomatch q) rfl (leb rfl) (p_X9_setMeasure hl e)
/-! ## TableColumnBalancer.requireColumn -/
abbrev mM_X8_requireColumn : Mi := (9, yX8_requireColumn.cls, cX8_requireColumn, 2, (Option.none : Option Jvm.ClassFile.FieldType), [], false)
noncomputable def f_X8_requireColumn (h : Hp) (a0 : Nat) (i1 : Int32) : Option (Rs Unit) :=
  chk (okr h a0 8) <|
  chk (okr h (qR h a0 0) 7) <|
  bnd (f_X8_isWithin h i1 (iN 0) ((qI h (qR h a0 0) 3) - (iN 1))) fun h3 r4 =>
  bnd (f_X8_requireIndex h3 r4) fun h5 _ =>
  some (h5, .inr ())
theorem p_X8_requireColumn {l : Launch} {K : Ctx} (hl : l.stackTraces = false) {h : Hp} {a0 : Nat} {i1 : Int32} {t : Rs Unit} (e : f_X8_requireColumn h a0 i1 = some t) : X l K mM_X8_requireColumn (tgV t) 0 [(0, .ref a0), (1, .int i1)] [] h := by
  unfold f_X8_requireColumn at e
  refine x_iload_n (pc := 0) 1 dX8_requireColumn_0 rfl ?_
  refine x_iconst (pc := 1) dX8_requireColumn_1 ?_
  refine x_aload_n (pc := 2) 0 dX8_requireColumn_2 rfl ?_
  obtain ⟨q1, e⟩ := chk_some e
  obtain ⟨q2, e⟩ := chk_some e
  refine x_getR (pc := 3) gf_X8_10 rfl dX8_requireColumn_3 q1 q2.1 ?_
  refine x_getI (pc := 6) gf_X8_87 rfl dX8_requireColumn_6 q2 ?_
  refine x_iconst (pc := 9) dX8_requireColumn_9 ?_
  refine x_isub (pc := 10) dX8_requireColumn_10 ?_
  rcases bnd_some e with ⟨h3, r4, ec, rfl⟩ | ⟨h3, r4, ec, e⟩
  · exact y_callS_x (pc := 11) (c_X8_isWithin hl ec) mf_X8_isWithin tw_3_26 lf_X8_72 dX8_requireColumn_11 (by decide) rfl rfl (leb rfl) (xx_out0 rfl)
  refine y_callS_i (pc := 11) (c_X8_isWithin hl ec) mf_X8_isWithin tw_3_26 lf_X8_72 dX8_requireColumn_11 (by decide) rfl rfl (leb rfl) ?_
  rcases bnd_some e with ⟨h5, r6, ec, rfl⟩ | ⟨h5, r6, ec, e⟩
  · exact y_callS_x (pc := 14) (c_X8_requireIndex hl ec) mf_X8_requireIndex tw_3_225 lf_X8_96 dX8_requireColumn_14 (by decide) rfl rfl (leb rfl) (xx_out0 rfl)
  refine y_callS_v (pc := 14) (c_X8_requireIndex hl ec) mf_X8_requireIndex tw_3_225 lf_X8_96 dX8_requireColumn_14 (by decide) rfl rfl (leb rfl) ?_
  cases Option.some.inj e
  exact x_vret (pc := 17) rfl dX8_requireColumn_17
abbrev w_X8_requireColumn : Cond := (Cond.code yX8_requireColumn cX8_requireColumn 2 (Option.none : Option Jvm.ClassFile.FieldType))
theorem mf_X8_requireColumn : MF yX8_requireColumn w_X8_requireColumn cX8_requireColumn 2 (Option.none : Option Jvm.ClassFile.FieldType) 1 := ⟨⟨rfl, tw_4_12, by decide⟩, tw_1_1, ⟨by decide, by decide⟩, by decide +kernel⟩
theorem c_X8_requireColumn {l : Launch} {K : Ctx} (hl : l.stackTraces = false) {h : Hp} {a0 : Nat} {i1 : Int32} {t : Rs Unit} (e : f_X8_requireColumn h a0 i1 = some t) : Ctr l K 9 yX8_requireColumn w_X8_requireColumn [.ref a0, .int i1] h (tgV t) :=
  Ctr.of hl mf_X8_requireColumn false (fun q => nomatch q) rfl (leb rfl) (p_X8_requireColumn hl e)
/-! ## TableColumnBalancer.setColumn -/
abbrev mM_X8_setColumn : Mi := (14, yX8_setColumn.cls, cX8_setColumn, 5, (Option.some Jvm.ClassFile.FieldType.int), [], false)
noncomputable def f_X8_setColumn_L57 (h : Hp) (a0 : Nat) (i1 : Int32) (i2 : Int32) (i3 : Int32) (s0 : Int32) : Option (Rs Int32) :=
  bnd (f_X8_requireArgument h s0) fun h1 _ =>
  chk (okr h1 a0 8) <|
  chk (okr h1 (qR h1 a0 0) 7) <|
  chk (okr h1 (qR h1 (qR h1 a0 0) 6) 20) <|
  chk (vp_in i1 (qW h1 (qR h1 (qR h1 a0 0) 6))) <|
  chk (okr h1 (qR h1 (qR h1 a0 0) 7) 20) <|
  chk (vp_in i1 (qW h1 (qR h1 (qR h1 a0 0) 7))) <|
  bnd (f_X7_specify h1 (qR h1 a0 0) i1 i2 i3) fun h9 _ =>
  chk (okr h9 a0 8) <|
  bnd (f_X8_changed h9 a0) fun h12 _ =>
  some (h12, .inr (((iN 100) * (qI h1 (qR h1 (qR h1 a0 0) 6) (Int32.toNatClampNeg i1))) + (qI h1 (qR h1 (qR h1 a0 0) 7) (Int32.toNatClampNeg i1))))
theorem p_X8_setColumn_L57 {l : Launch} {K : Ctx} (hl : l.stackTraces = false) {h : Hp} {a0 : Nat} {i1 : Int32} {i2 : Int32} {i3 : Int32} {s0 : Int32} {t : Rs Int32} (e : f_X8_setColumn_L57 h a0 i1 i2 i3 s0 = some t) : X l K mM_X8_setColumn (tgI t) 57 [(0, .ref a0), (1, .int i1), (2, .int i2), (3, .int i3)] [.int s0] h := by
  unfold f_X8_setColumn_L57 at e
  rcases bnd_some e with ⟨h1, r2, ec, rfl⟩ | ⟨h1, r2, ec, e⟩
  · exact y_callS_x (pc := 57) (c_X8_requireArgument hl ec) mf_X8_requireArgument tw_3_84 lf_X8_76 dX8_setColumn_57 (by decide) rfl rfl (leb rfl) (xx_out0 rfl)
  refine y_callS_v (pc := 57) (c_X8_requireArgument hl ec) mf_X8_requireArgument tw_3_84 lf_X8_76 dX8_setColumn_57 (by decide) rfl rfl (leb rfl) ?_
  refine x_bipush (pc := 60) (v := iN 100) dX8_setColumn_60 rfl ?_
  refine x_aload_n (pc := 62) 0 dX8_setColumn_62 rfl ?_
  obtain ⟨q3, e⟩ := chk_some e
  obtain ⟨q4, e⟩ := chk_some e
  refine x_getR (pc := 63) gf_X8_10 rfl dX8_setColumn_63 q3 q4.1 ?_
  obtain ⟨q5, e⟩ := chk_some e
  refine x_getR (pc := 66) gf_X8_111 rfl dX8_setColumn_66 q4 q5.1 ?_
  refine x_iload_n (pc := 69) 1 dX8_setColumn_69 rfl ?_
  obtain ⟨q6, e⟩ := chk_some e
  refine x_iald (pc := 70) dX8_setColumn_70 q5 q6 ?_
  refine x_imul (pc := 71) dX8_setColumn_71 ?_
  refine x_aload_n (pc := 72) 0 dX8_setColumn_72 rfl ?_
  refine x_getR (pc := 73) gf_X8_10 rfl dX8_setColumn_73 q3 q4.1 ?_
  obtain ⟨q7, e⟩ := chk_some e
  refine x_getR (pc := 76) gf_X8_114 rfl dX8_setColumn_76 q4 q7.1 ?_
  refine x_iload_n (pc := 79) 1 dX8_setColumn_79 rfl ?_
  obtain ⟨q8, e⟩ := chk_some e
  refine x_iald (pc := 80) dX8_setColumn_80 q7 q8 ?_
  refine x_iadd (pc := 81) dX8_setColumn_81 ?_
  refine x_istore (pc := 82) dX8_setColumn_82 (by decide) rfl ?_
  refine x_aload_n (pc := 84) 1 dX8_setColumn_84 rfl ?_
  refine x_getR (pc := 85) gf_X8_10 rfl dX8_setColumn_85 q3 q4.1 ?_
  refine x_iload_n (pc := 88) 2 dX8_setColumn_88 rfl ?_
  refine x_iload_n (pc := 89) 3 dX8_setColumn_89 rfl ?_
  refine x_iload_n (pc := 90) 4 dX8_setColumn_90 rfl ?_
  rcases bnd_some e with ⟨h9, r10, ec, rfl⟩ | ⟨h9, r10, ec, e⟩
  · exact y_callV_x (pc := 91) (c_X7_specify hl ec) q4 mf_X7_specify tw_3_178 ts_3_4 lf_X8_117 rfl rfl dX8_setColumn_91 (by decide) rfl rfl (leb rfl) (xx_out0 rfl)
  refine y_callV_v (pc := 91) (c_X7_specify hl ec) q4 mf_X7_specify tw_3_178 ts_3_4 lf_X8_117 rfl rfl dX8_setColumn_91 (by decide) rfl rfl (leb rfl) ?_
  refine x_aload_n (pc := 94) 1 dX8_setColumn_94 rfl ?_
  obtain ⟨q11, e⟩ := chk_some e
  rcases bnd_some e with ⟨h12, r13, ec, rfl⟩ | ⟨h12, r13, ec, e⟩
  · exact y_callV_x (pc := 95) (c_X8_changed hl ec) q11 mf_X8_changed tw_3_182 ts_3_5 lf_X8_93 rfl rfl dX8_setColumn_95 (by decide) rfl rfl (leb rfl) (xx_out0 rfl)
  refine y_callV_v (pc := 95) (c_X8_changed hl ec) q11 mf_X8_changed tw_3_182 ts_3_5 lf_X8_93 rfl rfl dX8_setColumn_95 (by decide) rfl rfl (leb rfl) ?_
  refine x_iload (pc := 98) 0 dX8_setColumn_98 rfl ?_
  cases Option.some.inj e
  exact x_iret (pc := 100) rfl dX8_setColumn_100
noncomputable def f_X8_setColumn_L52 (h : Hp) (a0 : Nat) (i1 : Int32) (i2 : Int32) (i3 : Int32) : Option (Rs Int32) :=
  f_X8_setColumn_L57 h a0 i1 i2 i3 (iN 1)
theorem p_X8_setColumn_L52 {l : Launch} {K : Ctx} (hl : l.stackTraces = false) {h : Hp} {a0 : Nat} {i1 : Int32} {i2 : Int32} {i3 : Int32} {t : Rs Int32} (e : f_X8_setColumn_L52 h a0 i1 i2 i3 = some t) : X l K mM_X8_setColumn (tgI t) 52 [(0, .ref a0), (1, .int i1), (2, .int i2), (3, .int i3)] [] h := by
  unfold f_X8_setColumn_L52 at e
  refine x_iconst (pc := 52) dX8_setColumn_52 ?_
  refine x_goto (pc := 53) (t := 57) dX8_setColumn_53 (by decide) ?_
  exact p_X8_setColumn_L57 hl e
noncomputable def f_X8_setColumn_L34 (h : Hp) (a0 : Nat) (i1 : Int32) (i2 : Int32) (i3 : Int32) (s0 : Int32) : Option (Rs Int32) :=
  bnd (f_X8_requireArgument h s0) fun h1 _ =>
  if i2 = (iN 2) then (
    bnd (f_X8_isWithin h1 i3 (iN 1) (iN 100)) fun h4 r5 =>
    if r5 = 0 then (
      f_X8_setColumn_L57 h4 a0 i1 i2 i3 (iN 0)
    ) else (
      f_X8_setColumn_L52 h4 a0 i1 i2 i3
    )
  ) else (
    f_X8_setColumn_L52 h1 a0 i1 i2 i3
  )
theorem p_X8_setColumn_L34 {l : Launch} {K : Ctx} (hl : l.stackTraces = false) {h : Hp} {a0 : Nat} {i1 : Int32} {i2 : Int32} {i3 : Int32} {s0 : Int32} {t : Rs Int32} (e : f_X8_setColumn_L34 h a0 i1 i2 i3 s0 = some t) : X l K mM_X8_setColumn (tgI t) 34 [(0, .ref a0), (1, .int i1), (2, .int i2), (3, .int i3)] [.int s0] h := by
  unfold f_X8_setColumn_L34 at e
  rcases bnd_some e with ⟨h1, r2, ec, rfl⟩ | ⟨h1, r2, ec, e⟩
  · exact y_callS_x (pc := 34) (c_X8_requireArgument hl ec) mf_X8_requireArgument tw_3_84 lf_X8_76 dX8_setColumn_34 (by decide) rfl rfl (leb rfl) (xx_out0 rfl)
  refine y_callS_v (pc := 34) (c_X8_requireArgument hl ec) mf_X8_requireArgument tw_3_84 lf_X8_76 dX8_setColumn_34 (by decide) rfl rfl (leb rfl) ?_
  refine x_iload_n (pc := 37) 2 dX8_setColumn_37 rfl ?_
  refine x_iconst (pc := 38) dX8_setColumn_38 ?_
  rcases ite_some e with ⟨q3, e⟩ | ⟨q3, e⟩
  · refine x_icmp_ne_f (pc := 39) (t := 52) dX8_setColumn_39 (by decide) q3 ?_
    refine x_iload_n (pc := 42) 3 dX8_setColumn_42 rfl ?_
    refine x_iconst (pc := 43) dX8_setColumn_43 ?_
    refine x_bipush (pc := 44) (v := iN 100) dX8_setColumn_44 rfl ?_
    rcases bnd_some e with ⟨h4, r5, ec, rfl⟩ | ⟨h4, r5, ec, e⟩
    · exact y_callS_x (pc := 46) (c_X8_isWithin hl ec) mf_X8_isWithin tw_3_26 lf_X8_72 dX8_setColumn_46 (by decide) rfl rfl (leb rfl) (xx_out0 rfl)
    refine y_callS_i (pc := 46) (c_X8_isWithin hl ec) mf_X8_isWithin tw_3_26 lf_X8_72 dX8_setColumn_46 (by decide) rfl rfl (leb rfl) ?_
    rcases ite_some e with ⟨q6, e⟩ | ⟨q6, e⟩
    · refine x_if_eq_t (pc := 49) (t := 56) dX8_setColumn_49 (by decide) q6 ?_
      refine x_iconst (pc := 56) dX8_setColumn_56 ?_
      exact p_X8_setColumn_L57 hl e
    · refine x_if_eq_f (pc := 49) (t := 56) dX8_setColumn_49 (by decide) q6 ?_
      exact p_X8_setColumn_L52 hl e
  · refine x_icmp_ne_t (pc := 39) (t := 52) dX8_setColumn_39 (by decide) q3 ?_
    exact p_X8_setColumn_L52 hl e
noncomputable def f_X8_setColumn_L29 (h : Hp) (a0 : Nat) (i1 : Int32) (i2 : Int32) (i3 : Int32) : Option (Rs Int32) :=
  f_X8_setColumn_L34 h a0 i1 i2 i3 (iN 1)
theorem p_X8_setColumn_L29 {l : Launch} {K : Ctx} (hl : l.stackTraces = false) {h : Hp} {a0 : Nat} {i1 : Int32} {i2 : Int32} {i3 : Int32} {t : Rs Int32} (e : f_X8_setColumn_L29 h a0 i1 i2 i3 = some t) : X l K mM_X8_setColumn (tgI t) 29 [(0, .ref a0), (1, .int i1), (2, .int i2), (3, .int i3)] [] h := by
  unfold f_X8_setColumn_L29 at e
  refine x_iconst (pc := 29) dX8_setColumn_29 ?_
  refine x_goto (pc := 30) (t := 34) dX8_setColumn_30 (by decide) ?_
  exact p_X8_setColumn_L34 hl e
noncomputable def f_X8_setColumn (h : Hp) (a0 : Nat) (i1 : Int32) (i2 : Int32) (i3 : Int32) : Option (Rs Int32) :=
  chk (okr h a0 8) <|
  bnd (f_X8_requireColumn h a0 i1) fun h2 _ =>
  bnd (f_X8_isWithin h2 i2 (iN 0) (iN 2)) fun h4 r5 =>
  bnd (f_X8_requireArgument h4 r5) fun h6 _ =>
  if i2 = (iN 1) then (
    bnd (f_X8_isWithin h6 i3 (iN 1) (iN 36)) fun h9 r10 =>
    if r10 = 0 then (
      f_X8_setColumn_L34 h9 a0 i1 i2 i3 (iN 0)
    ) else (
      f_X8_setColumn_L29 h9 a0 i1 i2 i3
    )
  ) else (
    f_X8_setColumn_L29 h6 a0 i1 i2 i3
  )
theorem p_X8_setColumn {l : Launch} {K : Ctx} (hl : l.stackTraces = false) {h : Hp} {a0 : Nat} {i1 : Int32} {i2 : Int32} {i3 : Int32} {t : Rs Int32} (e : f_X8_setColumn h a0 i1 i2 i3 = some t) : X l K mM_X8_setColumn (tgI t) 0 [(0, .ref a0), (1, .int i1), (2, .int i2), (3, .int i3)] [] h := by
  unfold f_X8_setColumn at e
  refine x_aload_n (pc := 0) 0 dX8_setColumn_0 rfl ?_
  refine x_iload_n (pc := 1) 1 dX8_setColumn_1 rfl ?_
  obtain ⟨q1, e⟩ := chk_some e
  rcases bnd_some e with ⟨h2, r3, ec, rfl⟩ | ⟨h2, r3, ec, e⟩
  · exact y_callV_x (pc := 2) (c_X8_requireColumn hl ec) q1 mf_X8_requireColumn tw_4_11 ts_3_6 lf_X8_108 rfl rfl dX8_setColumn_2 (by decide) rfl rfl (leb rfl) (xx_out0 rfl)
  refine y_callV_v (pc := 2) (c_X8_requireColumn hl ec) q1 mf_X8_requireColumn tw_4_11 ts_3_6 lf_X8_108 rfl rfl dX8_setColumn_2 (by decide) rfl rfl (leb rfl) ?_
  refine x_iload_n (pc := 5) 2 dX8_setColumn_5 rfl ?_
  refine x_iconst (pc := 6) dX8_setColumn_6 ?_
  refine x_iconst (pc := 7) dX8_setColumn_7 ?_
  rcases bnd_some e with ⟨h4, r5, ec, rfl⟩ | ⟨h4, r5, ec, e⟩
  · exact y_callS_x (pc := 8) (c_X8_isWithin hl ec) mf_X8_isWithin tw_3_26 lf_X8_72 dX8_setColumn_8 (by decide) rfl rfl (leb rfl) (xx_out0 rfl)
  refine y_callS_i (pc := 8) (c_X8_isWithin hl ec) mf_X8_isWithin tw_3_26 lf_X8_72 dX8_setColumn_8 (by decide) rfl rfl (leb rfl) ?_
  rcases bnd_some e with ⟨h6, r7, ec, rfl⟩ | ⟨h6, r7, ec, e⟩
  · exact y_callS_x (pc := 11) (c_X8_requireArgument hl ec) mf_X8_requireArgument tw_3_84 lf_X8_76 dX8_setColumn_11 (by decide) rfl rfl (leb rfl) (xx_out0 rfl)
  refine y_callS_v (pc := 11) (c_X8_requireArgument hl ec) mf_X8_requireArgument tw_3_84 lf_X8_76 dX8_setColumn_11 (by decide) rfl rfl (leb rfl) ?_
  refine x_iload_n (pc := 14) 2 dX8_setColumn_14 rfl ?_
  refine x_iconst (pc := 15) dX8_setColumn_15 ?_
  rcases ite_some e with ⟨q8, e⟩ | ⟨q8, e⟩
  · refine x_icmp_ne_f (pc := 16) (t := 29) dX8_setColumn_16 (by decide) q8 ?_
    refine x_iload_n (pc := 19) 3 dX8_setColumn_19 rfl ?_
    refine x_iconst (pc := 20) dX8_setColumn_20 ?_
    refine x_bipush (pc := 21) (v := iN 36) dX8_setColumn_21 rfl ?_
    rcases bnd_some e with ⟨h9, r10, ec, rfl⟩ | ⟨h9, r10, ec, e⟩
    · exact y_callS_x (pc := 23) (c_X8_isWithin hl ec) mf_X8_isWithin tw_3_26 lf_X8_72 dX8_setColumn_23 (by decide) rfl rfl (leb rfl) (xx_out0 rfl)
    refine y_callS_i (pc := 23) (c_X8_isWithin hl ec) mf_X8_isWithin tw_3_26 lf_X8_72 dX8_setColumn_23 (by decide) rfl rfl (leb rfl) ?_
    rcases ite_some e with ⟨q11, e⟩ | ⟨q11, e⟩
    · refine x_if_eq_t (pc := 26) (t := 33) dX8_setColumn_26 (by decide) q11 ?_
      refine x_iconst (pc := 33) dX8_setColumn_33 ?_
      exact p_X8_setColumn_L34 hl e
    · refine x_if_eq_f (pc := 26) (t := 33) dX8_setColumn_26 (by decide) q11 ?_
      exact p_X8_setColumn_L29 hl e
  · refine x_icmp_ne_t (pc := 16) (t := 29) dX8_setColumn_16 (by decide) q8 ?_
    exact p_X8_setColumn_L29 hl e
abbrev w_X8_setColumn : Cond := (Cond.code yX8_setColumn cX8_setColumn 5 (Option.some Jvm.ClassFile.FieldType.int))
theorem mf_X8_setColumn : MF yX8_setColumn w_X8_setColumn cX8_setColumn 5 (Option.some Jvm.ClassFile.FieldType.int) 3 := ⟨⟨rfl, tw_4_8, by decide⟩, tw_1_1, ⟨by decide, by decide⟩, by decide +kernel⟩
theorem c_X8_setColumn {l : Launch} {K : Ctx} (hl : l.stackTraces = false) {h : Hp} {a0 : Nat} {i1 : Int32} {i2 : Int32} {i3 : Int32} {t : Rs Int32} (e : f_X8_setColumn h a0 i1 i2 i3 = some t) : Ctr l K 14 yX8_setColumn w_X8_setColumn [.ref a0, .int i1, .int i2, .int i3] h (tgI t) :=
  Ctr.of hl mf_X8_setColumn false (fun q => nomatch q) rfl (leb rfl) (p_X8_setColumn hl e)
/-! ## TableColumnBalancerLaw.setColumn -/
abbrev mM_L_setColumn : Mi := (15, yL_setColumn.cls, cL_setColumn, 6, (Option.some Jvm.ClassFile.FieldType.int), [((0 : Nat), (12 : Nat), (15 : Nat), (21 : Nat)), ((0 : Nat), (12 : Nat), (19 : Nat), (13 : Nat))], false)
noncomputable def f_L_setColumn (h : Hp) (a0 : Nat) (i1 : Int32) (i2 : Int32) (i3 : Int32) (a4 : Nat) : Option (Rs Int32) :=
  chk (okr h a0 8) <|
  bndX (f_X8_setColumn h a0 i1 i2 i3) (fun h2 r3 => (
    chk (okr h2 a4 21) <|
    chk (vp_in (iN 0) (qW h2 a4)) <|
    lt (putL h2 a4 (Int32.toNatClampNeg (iN 0)) (Int32.toInt64 r3)) fun h6 =>
    some (h6, .inr (iN 0))
  )) fun h2 k =>
  if k = 2 then (
    some (h2, .inr (iN 1))
  ) else
  if k = 1 then (
    some (h2, .inr (iN 2))
  ) else
  none
theorem p_L_setColumn {l : Launch} {K : Ctx} (hl : l.stackTraces = false) {h : Hp} {a0 : Nat} {i1 : Int32} {i2 : Int32} {i3 : Int32} {a4 : Nat} {t : Rs Int32} (e : f_L_setColumn h a0 i1 i2 i3 a4 = some t) : X l K mM_L_setColumn (tgI t) 0 [(0, .ref a0), (1, .int i1), (2, .int i2), (3, .int i3), (4, .ref a4)] [] h := by
  unfold f_L_setColumn at e
  refine x_aload (pc := 0) 4 dL_setColumn_0 rfl ?_
  refine x_iconst (pc := 2) dL_setColumn_2 ?_
  refine x_aload_n (pc := 3) 0 dL_setColumn_3 rfl ?_
  refine x_iload_n (pc := 4) 1 dL_setColumn_4 rfl ?_
  refine x_iload_n (pc := 5) 2 dL_setColumn_5 rfl ?_
  refine x_iload_n (pc := 6) 3 dL_setColumn_6 rfl ?_
  obtain ⟨q1, e⟩ := chk_some e
  rcases bndX_some e with ⟨h2, k, ec, e⟩ | ⟨h2, r3, ec, e⟩
  · rcases ite_some e with ⟨q7, e⟩ | ⟨q7, e⟩
    · subst q7
      refine y_callV_x (pc := 7) (c_X8_setColumn hl ec) q1 mf_X8_setColumn tw_4_6 tw_4_7 lf_L_23 rfl rfl dL_setColumn_7 (by decide) rfl rfl (leb rfl) (xx_catchA (pc := 7) [] [(0, 12, 19, 13)] (0, 12, 15, 21) rfl (by decide) (fun _ hz => absurd hz List.not_mem_nil) (by decide) (by decide) tw_3_187 tw_3_229 dL_setColumn_15 (by decide) rfl ?_)
      refine x_iconst (pc := 17) dL_setColumn_17 ?_
      cases Option.some.inj e
      exact x_iret (pc := 18) rfl dL_setColumn_18
    rcases ite_some e with ⟨q8, e⟩ | ⟨q8, e⟩
    · subst q8
      refine y_callV_x (pc := 7) (c_X8_setColumn hl ec) q1 mf_X8_setColumn tw_4_6 tw_4_7 lf_L_23 rfl rfl dL_setColumn_7 (by decide) rfl rfl (leb rfl) (xx_catchA (pc := 7) [(0, 12, 15, 21)] [] (0, 12, 19, 13) rfl (by decide) (List.forall_mem_cons.mpr ⟨⟨by decide, 2, by decide, by decide, tw_3_187⟩, fun _ hz => absurd hz List.not_mem_nil⟩) (by decide) (by decide) tw_3_76 tw_3_88 dL_setColumn_19 (by decide) rfl ?_)
      refine x_iconst (pc := 21) dL_setColumn_21 ?_
      cases Option.some.inj e
      exact x_iret (pc := 22) rfl dL_setColumn_22
    cases e
  refine y_callV_i (pc := 7) (c_X8_setColumn hl ec) q1 mf_X8_setColumn tw_4_6 tw_4_7 lf_L_23 rfl rfl dL_setColumn_7 (by decide) rfl rfl (leb rfl) ?_
  refine x_i2l (pc := 10) dL_setColumn_10 ?_
  obtain ⟨q4, e⟩ := chk_some e
  obtain ⟨q5, e⟩ := chk_some e
  replace e := lt_go e
  refine x_last (pc := 11) dL_setColumn_11 q4 q5 ?_
  refine x_goto (pc := 12) (t := 23) dL_setColumn_12 (by decide) ?_
  refine x_iconst (pc := 23) dL_setColumn_23 ?_
  cases Option.some.inj e
  exact x_iret (pc := 24) rfl dL_setColumn_24
abbrev w_L_setColumn : Cond := (Cond.codeWith yL_setColumn cL_setColumn 6 (Option.some Jvm.ClassFile.FieldType.int) [((0 : Nat), (12 : Nat), (15 : Nat), (21 : Nat)), ((0 : Nat), (12 : Nat), (19 : Nat), (13 : Nat))])
theorem mf_L_setColumn : MFX yL_setColumn w_L_setColumn cL_setColumn 6 (Option.some Jvm.ClassFile.FieldType.int) 5 [((0 : Nat), (12 : Nat), (15 : Nat), (21 : Nat)), ((0 : Nat), (12 : Nat), (19 : Nat), (13 : Nat))] := ⟨⟨rfl, tw_4_4, by decide⟩, tw_1_0, ⟨by decide, by decide⟩, by decide +kernel⟩
theorem c_L_setColumn {l : Launch} {K : Ctx} (hl : l.stackTraces = false) {h : Hp} {a0 : Nat} {i1 : Int32} {i2 : Int32} {i3 : Int32} {a4 : Nat} {t : Rs Int32} (e : f_L_setColumn h a0 i1 i2 i3 a4 = some t) : Ctr l K 15 yL_setColumn w_L_setColumn [.ref a0, .int i1, .int i2, .int i3, .ref a4] h (tgI t) :=
  Ctr.ofX hl mf_L_setColumn rfl (leb rfl) (p_L_setColumn hl e)
/-! ## TableColumnBalancerModel.isColumn -/
abbrev mM_X9_isColumn : Mi := (9, yX9_isColumn.cls, cX9_isColumn, 2, (Option.some Jvm.ClassFile.FieldType.boolean), [], false)
noncomputable def f_X9_isColumn (h : Hp) (a0 : Nat) (i1 : Int32) : Option (Rs Int32) :=
  chk (okr h a0 9) <|
  chk (okr h (qR h a0 1) 20) <|
  chk (vp_in (iN 0) (qW h (qR h a0 1))) <|
  bnd (f_X9_in h i1 (iN 0) ((qI h (qR h a0 1) (Int32.toNatClampNeg (iN 0))) - (iN 1))) fun h4 r5 =>
  chk (r5 = 0 ∨ r5 = 1) <|
  some (h4, .inr r5)
theorem p_X9_isColumn {l : Launch} {K : Ctx} (hl : l.stackTraces = false) {h : Hp} {a0 : Nat} {i1 : Int32} {t : Rs Int32} (e : f_X9_isColumn h a0 i1 = some t) : X l K mM_X9_isColumn (tgI t) 0 [(0, .ref a0), (1, .int i1)] [] h := by
  unfold f_X9_isColumn at e
  refine x_iload_n (pc := 0) 1 dX9_isColumn_0 rfl ?_
  refine x_iconst (pc := 1) dX9_isColumn_1 ?_
  refine x_aload_n (pc := 2) 0 dX9_isColumn_2 rfl ?_
  obtain ⟨q1, e⟩ := chk_some e
  obtain ⟨q2, e⟩ := chk_some e
  refine x_getR (pc := 3) gf_X9_9 rfl dX9_isColumn_3 q1 q2.1 ?_
  refine x_iconst (pc := 6) dX9_isColumn_6 ?_
  obtain ⟨q3, e⟩ := chk_some e
  refine x_iald (pc := 7) dX9_isColumn_7 q2 q3 ?_
  refine x_iconst (pc := 8) dX9_isColumn_8 ?_
  refine x_isub (pc := 9) dX9_isColumn_9 ?_
  rcases bnd_some e with ⟨h4, r5, ec, rfl⟩ | ⟨h4, r5, ec, e⟩
  · exact y_callS_x (pc := 10) (c_X9_in hl ec) mf_X9_in tw_7_20 lf_X9_87 dX9_isColumn_10 (by decide) rfl rfl (leb rfl) (xx_out0 rfl)
  refine y_callS_i (pc := 10) (c_X9_in hl ec) mf_X9_in tw_7_20 lf_X9_87 dX9_isColumn_10 (by decide) rfl rfl (leb rfl) ?_
  obtain ⟨q6, e⟩ := chk_some e
  cases Option.some.inj e
  exact x_zret (pc := 13) rfl q6 dX9_isColumn_13
abbrev w_X9_isColumn : Cond := (Cond.code yX9_isColumn cX9_isColumn 2 (Option.some Jvm.ClassFile.FieldType.boolean))
theorem mf_X9_isColumn : MF yX9_isColumn w_X9_isColumn cX9_isColumn 2 (Option.some Jvm.ClassFile.FieldType.boolean) 1 := ⟨⟨rfl, tw_7_40, by decide⟩, tw_1_11, ⟨by decide, by decide⟩, by decide +kernel⟩
theorem c_X9_isColumn {l : Launch} {K : Ctx} (hl : l.stackTraces = false) {h : Hp} {a0 : Nat} {i1 : Int32} {t : Rs Int32} (e : f_X9_isColumn h a0 i1 = some t) : Ctr l K 9 yX9_isColumn w_X9_isColumn [.ref a0, .int i1] h (tgI t) :=
  Ctr.of hl mf_X9_isColumn false (fun q => nomatch q) rfl (leb rfl) (p_X9_isColumn hl e)
/-! ## TableColumnBalancerModel.setColumn -/
abbrev mM_X9_setColumn : Mi := (10, yX9_setColumn.cls, cX9_setColumn, 5, (Option.some Jvm.ClassFile.FieldType.int), [], false)
noncomputable def f_X9_setColumn_L58 (h : Hp) (a0 : Nat) : Option (Rs Int32) :=
  chk (okr h a0 9) <|
  bnd (f_X9_fails h a0 (iN 2)) fun h2 r3 =>
  some (h2, .inr r3)
theorem p_X9_setColumn_L58 {l : Launch} {K : Ctx} (hl : l.stackTraces = false) {h : Hp} {a0 : Nat} {t : Rs Int32} (e : f_X9_setColumn_L58 h a0 = some t) : X l K mM_X9_setColumn (tgI t) 58 [(0, .ref a0)] [] h := by
  unfold f_X9_setColumn_L58 at e
  refine x_aload_n (pc := 58) 0 dX9_setColumn_58 rfl ?_
  refine x_iconst (pc := 59) dX9_setColumn_59 ?_
  obtain ⟨q1, e⟩ := chk_some e
  rcases bnd_some e with ⟨h2, r3, ec, rfl⟩ | ⟨h2, r3, ec, e⟩
  · exact y_callV_x (pc := 60) (c_X9_fails hl ec) q1 mf_X9_fails tw_7_24 ts_6_7 lf_X9_95 rfl rfl dX9_setColumn_60 (by decide) rfl rfl (leb rfl) (xx_out0 rfl)
  refine y_callV_i (pc := 60) (c_X9_fails hl ec) q1 mf_X9_fails tw_7_24 ts_6_7 lf_X9_95 rfl rfl dX9_setColumn_60 (by decide) rfl rfl (leb rfl) ?_
  cases Option.some.inj e
  exact x_iret (pc := 63) rfl dX9_setColumn_63
noncomputable def f_X9_setColumn_L97 (h : Hp) (i4 : Int32) (s0 : Int32) (s1 : Int32) (s2 : Nat) : Option (Rs Int32) :=
  chk (okr h s2 20) <|
  chk (vp_in s1 (qW h s2)) <|
  lt (putI h s2 (Int32.toNatClampNeg s1) s0) fun h3 =>
  some (h3, .inr i4)
theorem p_X9_setColumn_L97 {l : Launch} {K : Ctx} (hl : l.stackTraces = false) {h : Hp} {i4 : Int32} {s0 : Int32} {s1 : Int32} {s2 : Nat} {t : Rs Int32} (e : f_X9_setColumn_L97 h i4 s0 s1 s2 = some t) : X l K mM_X9_setColumn (tgI t) 97 [(4, .int i4)] [.int s0, .int s1, .ref s2] h := by
  unfold f_X9_setColumn_L97 at e
  obtain ⟨q1, e⟩ := chk_some e
  obtain ⟨q2, e⟩ := chk_some e
  replace e := lt_go e
  refine x_iast (pc := 97) dX9_setColumn_97 q1 q2 ?_
  refine x_iload (pc := 98) 0 dX9_setColumn_98 rfl ?_
  cases Option.some.inj e
  exact x_iret (pc := 100) rfl dX9_setColumn_100
noncomputable def f_X9_setColumn_L64 (h : Hp) (a0 : Nat) (i1 : Int32) (i2 : Int32) (i3 : Int32) : Option (Rs Int32) :=
  chk (okr h a0 9) <|
  chk (okr h (qR h a0 1) 20) <|
  chk (vp_in ((iN 6) + i1) (qW h (qR h a0 1))) <|
  if i2 = 0 then (
    f_X9_setColumn_L97 h (qI h (qR h a0 1) (Int32.toNatClampNeg ((iN 6) + i1))) (iN 0) ((iN 6) + i1) (qR h a0 1)
  ) else (
    f_X9_setColumn_L97 h (qI h (qR h a0 1) (Int32.toNatClampNeg ((iN 6) + i1))) (((iN 100) * i2) + i3) ((iN 6) + i1) (qR h a0 1)
  )
theorem p_X9_setColumn_L64 {l : Launch} {K : Ctx} (hl : l.stackTraces = false) {h : Hp} {a0 : Nat} {i1 : Int32} {i2 : Int32} {i3 : Int32} {t : Rs Int32} (e : f_X9_setColumn_L64 h a0 i1 i2 i3 = some t) : X l K mM_X9_setColumn (tgI t) 64 [(0, .ref a0), (1, .int i1), (2, .int i2), (3, .int i3)] [] h := by
  unfold f_X9_setColumn_L64 at e
  refine x_aload_n (pc := 64) 0 dX9_setColumn_64 rfl ?_
  obtain ⟨q1, e⟩ := chk_some e
  obtain ⟨q2, e⟩ := chk_some e
  refine x_getR (pc := 65) gf_X9_9 rfl dX9_setColumn_65 q1 q2.1 ?_
  refine x_bipush (pc := 68) (v := iN 6) dX9_setColumn_68 rfl ?_
  refine x_iload_n (pc := 70) 1 dX9_setColumn_70 rfl ?_
  refine x_iadd (pc := 71) dX9_setColumn_71 ?_
  obtain ⟨q3, e⟩ := chk_some e
  refine x_iald (pc := 72) dX9_setColumn_72 q2 q3 ?_
  refine x_istore (pc := 73) dX9_setColumn_73 (by decide) rfl ?_
  refine x_aload_n (pc := 75) 1 dX9_setColumn_75 rfl ?_
  refine x_getR (pc := 76) gf_X9_9 rfl dX9_setColumn_76 q1 q2.1 ?_
  refine x_bipush (pc := 79) (v := iN 6) dX9_setColumn_79 rfl ?_
  refine x_iload_n (pc := 81) 2 dX9_setColumn_81 rfl ?_
  refine x_iadd (pc := 82) dX9_setColumn_82 ?_
  refine x_iload_n (pc := 83) 3 dX9_setColumn_83 rfl ?_
  rcases ite_some e with ⟨q4, e⟩ | ⟨q4, e⟩
  · refine x_if_ne_f (pc := 84) (t := 91) dX9_setColumn_84 (by decide) q4 ?_
    refine x_iconst (pc := 87) dX9_setColumn_87 ?_
    refine x_goto (pc := 88) (t := 97) dX9_setColumn_88 (by decide) ?_
    exact x_sub1 (p_X9_setColumn_L97 hl e) [0] rfl
  · refine x_if_ne_t (pc := 84) (t := 91) dX9_setColumn_84 (by decide) q4 ?_
    refine x_bipush (pc := 91) (v := iN 100) dX9_setColumn_91 rfl ?_
    refine x_iload_n (pc := 93) 3 dX9_setColumn_93 rfl ?_
    refine x_imul (pc := 94) dX9_setColumn_94 ?_
    refine x_iload_n (pc := 95) 4 dX9_setColumn_95 rfl ?_
    refine x_iadd (pc := 96) dX9_setColumn_96 ?_
    exact x_sub1 (p_X9_setColumn_L97 hl e) [0] rfl
noncomputable def f_X9_setColumn_L43 (h : Hp) (a0 : Nat) (i1 : Int32) (i2 : Int32) (i3 : Int32) : Option (Rs Int32) :=
  if i2 = (iN 2) then (
    bnd (f_X9_in h i3 (iN 1) (iN 100)) fun h2 r3 =>
    if r3 = 0 then (
      f_X9_setColumn_L58 h2 a0
    ) else (
      f_X9_setColumn_L64 h2 a0 i1 i2 i3
    )
  ) else (
    f_X9_setColumn_L64 h a0 i1 i2 i3
  )
theorem p_X9_setColumn_L43 {l : Launch} {K : Ctx} (hl : l.stackTraces = false) {h : Hp} {a0 : Nat} {i1 : Int32} {i2 : Int32} {i3 : Int32} {t : Rs Int32} (e : f_X9_setColumn_L43 h a0 i1 i2 i3 = some t) : X l K mM_X9_setColumn (tgI t) 43 [(0, .ref a0), (1, .int i1), (2, .int i2), (3, .int i3)] [] h := by
  unfold f_X9_setColumn_L43 at e
  refine x_iload_n (pc := 43) 2 dX9_setColumn_43 rfl ?_
  refine x_iconst (pc := 44) dX9_setColumn_44 ?_
  rcases ite_some e with ⟨q1, e⟩ | ⟨q1, e⟩
  · refine x_icmp_ne_f (pc := 45) (t := 64) dX9_setColumn_45 (by decide) q1 ?_
    refine x_iload_n (pc := 48) 3 dX9_setColumn_48 rfl ?_
    refine x_iconst (pc := 49) dX9_setColumn_49 ?_
    refine x_bipush (pc := 50) (v := iN 100) dX9_setColumn_50 rfl ?_
    rcases bnd_some e with ⟨h2, r3, ec, rfl⟩ | ⟨h2, r3, ec, e⟩
    · exact y_callS_x (pc := 52) (c_X9_in hl ec) mf_X9_in tw_7_20 lf_X9_87 dX9_setColumn_52 (by decide) rfl rfl (leb rfl) (xx_out0 rfl)
    refine y_callS_i (pc := 52) (c_X9_in hl ec) mf_X9_in tw_7_20 lf_X9_87 dX9_setColumn_52 (by decide) rfl rfl (leb rfl) ?_
    rcases ite_some e with ⟨q4, e⟩ | ⟨q4, e⟩
    · refine x_if_ne_f (pc := 55) (t := 64) dX9_setColumn_55 (by decide) q4 ?_
      exact x_sub1 (p_X9_setColumn_L58 hl e) [0] rfl
    · refine x_if_ne_t (pc := 55) (t := 64) dX9_setColumn_55 (by decide) q4 ?_
      exact p_X9_setColumn_L64 hl e
  · refine x_icmp_ne_t (pc := 45) (t := 64) dX9_setColumn_45 (by decide) q1 ?_
    exact p_X9_setColumn_L64 hl e
noncomputable def f_X9_setColumn (h : Hp) (a0 : Nat) (i1 : Int32) (i2 : Int32) (i3 : Int32) : Option (Rs Int32) :=
  chk (okr h a0 9) <|
  lt (putI h a0 0 (iN 0)) fun h2 =>
  bnd (f_X9_isColumn h2 a0 i1) fun h3 r4 =>
  if r4 = 0 then (
    chk (okr h3 a0 9) <|
    bnd (f_X9_fails h3 a0 (iN 1)) fun h7 r8 =>
    some (h7, .inr r8)
  ) else (
    bnd (f_X9_in h3 i2 (iN 0) (iN 2)) fun h9 r10 =>
    if r10 = 0 then (
      f_X9_setColumn_L58 h9 a0
    ) else (
      if i2 = (iN 1) then (
        bnd (f_X9_in h9 i3 (iN 1) (iN 36)) fun h13 r14 =>
        if r14 = 0 then (
          f_X9_setColumn_L58 h13 a0
        ) else (
          f_X9_setColumn_L43 h13 a0 i1 i2 i3
        )
      ) else (
        f_X9_setColumn_L43 h9 a0 i1 i2 i3
      )
    )
  )
theorem p_X9_setColumn {l : Launch} {K : Ctx} (hl : l.stackTraces = false) {h : Hp} {a0 : Nat} {i1 : Int32} {i2 : Int32} {i3 : Int32} {t : Rs Int32} (e : f_X9_setColumn h a0 i1 i2 i3 = some t) : X l K mM_X9_setColumn (tgI t) 0 [(0, .ref a0), (1, .int i1), (2, .int i2), (3, .int i3)] [] h := by
  unfold f_X9_setColumn at e
  refine x_aload_n (pc := 0) 0 dX9_setColumn_0 rfl ?_
  refine x_iconst (pc := 1) dX9_setColumn_1 ?_
  obtain ⟨q1, e⟩ := chk_some e
  replace e := lt_go e
  refine x_putI (pc := 2) pf_X9_84 rfl rfl rfl dX9_setColumn_2 q1 ?_
  refine x_aload_n (pc := 5) 0 dX9_setColumn_5 rfl ?_
  refine x_iload_n (pc := 6) 1 dX9_setColumn_6 rfl ?_
  rcases bnd_some e with ⟨h3, r4, ec, rfl⟩ | ⟨h3, r4, ec, e⟩
  · exact y_callV_x (pc := 7) (c_X9_isColumn hl ec) (okr_pI q1) mf_X9_isColumn tw_7_39 ts_6_8 lf_X9_103 rfl rfl dX9_setColumn_7 (by decide) rfl rfl (leb rfl) (xx_out0 rfl)
  refine y_callV_i (pc := 7) (c_X9_isColumn hl ec) (okr_pI q1) mf_X9_isColumn tw_7_39 ts_6_8 lf_X9_103 rfl rfl dX9_setColumn_7 (by decide) rfl rfl (leb rfl) ?_
  rcases ite_some e with ⟨q5, e⟩ | ⟨q5, e⟩
  · refine x_if_ne_f (pc := 10) (t := 19) dX9_setColumn_10 (by decide) q5 ?_
    refine x_aload_n (pc := 13) 0 dX9_setColumn_13 rfl ?_
    refine x_iconst (pc := 14) dX9_setColumn_14 ?_
    obtain ⟨q6, e⟩ := chk_some e
    rcases bnd_some e with ⟨h7, r8, ec, rfl⟩ | ⟨h7, r8, ec, e⟩
    · exact y_callV_x (pc := 15) (c_X9_fails hl ec) q6 mf_X9_fails tw_7_24 ts_6_7 lf_X9_95 rfl rfl dX9_setColumn_15 (by decide) rfl rfl (leb rfl) (xx_out0 rfl)
    refine y_callV_i (pc := 15) (c_X9_fails hl ec) q6 mf_X9_fails tw_7_24 ts_6_7 lf_X9_95 rfl rfl dX9_setColumn_15 (by decide) rfl rfl (leb rfl) ?_
    cases Option.some.inj e
    exact x_iret (pc := 18) rfl dX9_setColumn_18
  · refine x_if_ne_t (pc := 10) (t := 19) dX9_setColumn_10 (by decide) q5 ?_
    refine x_iload_n (pc := 19) 2 dX9_setColumn_19 rfl ?_
    refine x_iconst (pc := 20) dX9_setColumn_20 ?_
    refine x_iconst (pc := 21) dX9_setColumn_21 ?_
    rcases bnd_some e with ⟨h9, r10, ec, rfl⟩ | ⟨h9, r10, ec, e⟩
    · exact y_callS_x (pc := 22) (c_X9_in hl ec) mf_X9_in tw_7_20 lf_X9_87 dX9_setColumn_22 (by decide) rfl rfl (leb rfl) (xx_out0 rfl)
    refine y_callS_i (pc := 22) (c_X9_in hl ec) mf_X9_in tw_7_20 lf_X9_87 dX9_setColumn_22 (by decide) rfl rfl (leb rfl) ?_
    rcases ite_some e with ⟨q11, e⟩ | ⟨q11, e⟩
    · refine x_if_eq_t (pc := 25) (t := 58) dX9_setColumn_25 (by decide) q11 ?_
      exact x_sub1 (p_X9_setColumn_L58 hl e) [0] rfl
    · refine x_if_eq_f (pc := 25) (t := 58) dX9_setColumn_25 (by decide) q11 ?_
      refine x_iload_n (pc := 28) 2 dX9_setColumn_28 rfl ?_
      refine x_iconst (pc := 29) dX9_setColumn_29 ?_
      rcases ite_some e with ⟨q12, e⟩ | ⟨q12, e⟩
      · refine x_icmp_ne_f (pc := 30) (t := 43) dX9_setColumn_30 (by decide) q12 ?_
        refine x_iload_n (pc := 33) 3 dX9_setColumn_33 rfl ?_
        refine x_iconst (pc := 34) dX9_setColumn_34 ?_
        refine x_bipush (pc := 35) (v := iN 36) dX9_setColumn_35 rfl ?_
        rcases bnd_some e with ⟨h13, r14, ec, rfl⟩ | ⟨h13, r14, ec, e⟩
        · exact y_callS_x (pc := 37) (c_X9_in hl ec) mf_X9_in tw_7_20 lf_X9_87 dX9_setColumn_37 (by decide) rfl rfl (leb rfl) (xx_out0 rfl)
        refine y_callS_i (pc := 37) (c_X9_in hl ec) mf_X9_in tw_7_20 lf_X9_87 dX9_setColumn_37 (by decide) rfl rfl (leb rfl) ?_
        rcases ite_some e with ⟨q15, e⟩ | ⟨q15, e⟩
        · refine x_if_eq_t (pc := 40) (t := 58) dX9_setColumn_40 (by decide) q15 ?_
          exact x_sub1 (p_X9_setColumn_L58 hl e) [0] rfl
        · refine x_if_eq_f (pc := 40) (t := 58) dX9_setColumn_40 (by decide) q15 ?_
          exact p_X9_setColumn_L43 hl e
      · refine x_icmp_ne_t (pc := 30) (t := 43) dX9_setColumn_30 (by decide) q12 ?_
        exact p_X9_setColumn_L43 hl e
abbrev w_X9_setColumn : Cond := (Cond.code yX9_setColumn cX9_setColumn 5 (Option.some Jvm.ClassFile.FieldType.int))
theorem mf_X9_setColumn : MF yX9_setColumn w_X9_setColumn cX9_setColumn 5 (Option.some Jvm.ClassFile.FieldType.int) 3 := ⟨⟨rfl, tw_7_36, by decide⟩, tw_1_11, ⟨by decide, by decide⟩, by decide +kernel⟩
theorem c_X9_setColumn {l : Launch} {K : Ctx} (hl : l.stackTraces = false) {h : Hp} {a0 : Nat} {i1 : Int32} {i2 : Int32} {i3 : Int32} {t : Rs Int32} (e : f_X9_setColumn h a0 i1 i2 i3 = some t) : Ctr l K 10 yX9_setColumn w_X9_setColumn [.ref a0, .int i1, .int i2, .int i3] h (tgI t) :=
  Ctr.of hl mf_X9_setColumn false (fun q => nomatch q) rfl (leb rfl) (p_X9_setColumn hl e)
/-! ## TableColumnBalancer.addRow -/
abbrev mM_X8_addRow : Mi := (14, yX8_addRow.cls, cX8_addRow, 1, (Option.some Jvm.ClassFile.FieldType.int), [], false)
noncomputable def f_X8_addRow_L17 (h : Hp) (a0 : Nat) (s0 : Int32) : Option (Rs Int32) :=
  bnd (f_X8_requireState h s0) fun h1 _ =>
  chk (okr h1 a0 8) <|
  chk (okr h1 (qR h1 a0 0) 7) <|
  lt (putI h1 (qR h1 a0 0) 4 ((qI h1 (qR h1 a0 0) 4) + (iN 1))) fun h5 =>
  bnd (f_X8_changed h5 a0) fun h6 _ =>
  chk (okr h6 a0 8) <|
  chk (okr h6 (qR h6 a0 0) 7) <|
  some (h6, .inr ((qI h6 (qR h6 a0 0) 4) - (iN 1)))
theorem p_X8_addRow_L17 {l : Launch} {K : Ctx} (hl : l.stackTraces = false) {h : Hp} {a0 : Nat} {s0 : Int32} {t : Rs Int32} (e : f_X8_addRow_L17 h a0 s0 = some t) : X l K mM_X8_addRow (tgI t) 17 [(0, .ref a0)] [.int s0] h := by
  unfold f_X8_addRow_L17 at e
  rcases bnd_some e with ⟨h1, r2, ec, rfl⟩ | ⟨h1, r2, ec, e⟩
  · exact y_callS_x (pc := 17) (c_X8_requireState hl ec) mf_X8_requireState tw_3_155 lf_X8_84 dX8_addRow_17 (by decide) rfl rfl (leb rfl) (xx_out0 rfl)
  refine y_callS_v (pc := 17) (c_X8_requireState hl ec) mf_X8_requireState tw_3_155 lf_X8_84 dX8_addRow_17 (by decide) rfl rfl (leb rfl) ?_
  refine x_aload_n (pc := 20) 0 dX8_addRow_20 rfl ?_
  obtain ⟨q3, e⟩ := chk_some e
  obtain ⟨q4, e⟩ := chk_some e
  refine x_getR (pc := 21) gf_X8_10 rfl dX8_addRow_21 q3 q4.1 ?_
  refine x_dup (pc := 24) dX8_addRow_24 rfl ?_
  refine x_getI (pc := 25) gf_X8_121 rfl dX8_addRow_25 q4 ?_
  refine x_iconst (pc := 28) dX8_addRow_28 ?_
  refine x_iadd (pc := 29) dX8_addRow_29 ?_
  replace e := lt_go e
  refine x_putI (pc := 30) pf_X8_121 rfl rfl rfl dX8_addRow_30 q4 ?_
  refine x_aload_n (pc := 33) 0 dX8_addRow_33 rfl ?_
  rcases bnd_some e with ⟨h6, r7, ec, rfl⟩ | ⟨h6, r7, ec, e⟩
  · exact y_callV_x (pc := 34) (c_X8_changed hl ec) (okr_pI q3) mf_X8_changed tw_3_182 ts_3_5 lf_X8_93 rfl rfl dX8_addRow_34 (by decide) rfl rfl (leb rfl) (xx_out0 rfl)
  refine y_callV_v (pc := 34) (c_X8_changed hl ec) (okr_pI q3) mf_X8_changed tw_3_182 ts_3_5 lf_X8_93 rfl rfl dX8_addRow_34 (by decide) rfl rfl (leb rfl) ?_
  refine x_aload_n (pc := 37) 0 dX8_addRow_37 rfl ?_
  obtain ⟨q8, e⟩ := chk_some e
  obtain ⟨q9, e⟩ := chk_some e
  refine x_getR (pc := 38) gf_X8_10 rfl dX8_addRow_38 q8 q9.1 ?_
  refine x_getI (pc := 41) gf_X8_121 rfl dX8_addRow_41 q9 ?_
  refine x_iconst (pc := 44) dX8_addRow_44 ?_
  refine x_isub (pc := 45) dX8_addRow_45 ?_
  cases Option.some.inj e
  exact x_iret (pc := 46) rfl dX8_addRow_46
noncomputable def f_X8_addRow (h : Hp) (a0 : Nat) : Option (Rs Int32) :=
  chk (okr h a0 8) <|
  chk (okr h (qR h a0 0) 7) <|
  if (iN 6) ≤ (qI h (qR h a0 0) 4) then (
    f_X8_addRow_L17 h a0 (iN 0)
  ) else (
    f_X8_addRow_L17 h a0 (iN 1)
  )
theorem p_X8_addRow {l : Launch} {K : Ctx} (hl : l.stackTraces = false) {h : Hp} {a0 : Nat} {t : Rs Int32} (e : f_X8_addRow h a0 = some t) : X l K mM_X8_addRow (tgI t) 0 [(0, .ref a0)] [] h := by
  unfold f_X8_addRow at e
  refine x_aload_n (pc := 0) 0 dX8_addRow_0 rfl ?_
  obtain ⟨q1, e⟩ := chk_some e
  obtain ⟨q2, e⟩ := chk_some e
  refine x_getR (pc := 1) gf_X8_10 rfl dX8_addRow_1 q1 q2.1 ?_
  refine x_getI (pc := 4) gf_X8_121 rfl dX8_addRow_4 q2 ?_
  refine x_bipush (pc := 7) (v := iN 6) dX8_addRow_7 rfl ?_
  rcases ite_some e with ⟨q3, e⟩ | ⟨q3, e⟩
  · refine x_icmp_ge_t (pc := 9) (t := 16) dX8_addRow_9 (by decide) q3 ?_
    refine x_iconst (pc := 16) dX8_addRow_16 ?_
    exact p_X8_addRow_L17 hl e
  · refine x_icmp_ge_f (pc := 9) (t := 16) dX8_addRow_9 (by decide) q3 ?_
    refine x_iconst (pc := 12) dX8_addRow_12 ?_
    refine x_goto (pc := 13) (t := 17) dX8_addRow_13 (by decide) ?_
    exact p_X8_addRow_L17 hl e
abbrev w_X8_addRow : Cond := (Cond.code yX8_addRow cX8_addRow 1 (Option.some Jvm.ClassFile.FieldType.int))
theorem mf_X8_addRow : MF yX8_addRow w_X8_addRow cX8_addRow 1 (Option.some Jvm.ClassFile.FieldType.int) 0 := ⟨⟨rfl, tw_4_20, by decide⟩, tw_1_1, ⟨by decide, by decide⟩, by decide +kernel⟩
theorem c_X8_addRow {l : Launch} {K : Ctx} (hl : l.stackTraces = false) {h : Hp} {a0 : Nat} {t : Rs Int32} (e : f_X8_addRow h a0 = some t) : Ctr l K 14 yX8_addRow w_X8_addRow [.ref a0] h (tgI t) :=
  Ctr.of hl mf_X8_addRow false (fun q => nomatch q) rfl (leb rfl) (p_X8_addRow hl e)
/-! ## TableColumnBalancerLaw.addRow -/
abbrev mM_L_addRow : Mi := (15, yL_addRow.cls, cL_addRow, 3, (Option.some Jvm.ClassFile.FieldType.int), [((0 : Nat), (8 : Nat), (11 : Nat), (15 : Nat))], false)
noncomputable def f_L_addRow (h : Hp) (a0 : Nat) (a1 : Nat) : Option (Rs Int32) :=
  chk (okr h a0 8) <|
  bndX (f_X8_addRow h a0) (fun h2 r3 => (
    chk (okr h2 a1 21) <|
    chk (vp_in (iN 0) (qW h2 a1)) <|
    lt (putL h2 a1 (Int32.toNatClampNeg (iN 0)) (Int32.toInt64 r3)) fun h6 =>
    some (h6, .inr (iN 0))
  )) fun h2 k =>
  if k = 0 then (
    some (h2, .inr (iN 1))
  ) else
  none
theorem p_L_addRow {l : Launch} {K : Ctx} (hl : l.stackTraces = false) {h : Hp} {a0 : Nat} {a1 : Nat} {t : Rs Int32} (e : f_L_addRow h a0 a1 = some t) : X l K mM_L_addRow (tgI t) 0 [(0, .ref a0), (1, .ref a1)] [] h := by
  unfold f_L_addRow at e
  refine x_aload_n (pc := 0) 1 dL_addRow_0 rfl ?_
  refine x_iconst (pc := 1) dL_addRow_1 ?_
  refine x_aload_n (pc := 2) 0 dL_addRow_2 rfl ?_
  obtain ⟨q1, e⟩ := chk_some e
  rcases bndX_some e with ⟨h2, k, ec, e⟩ | ⟨h2, r3, ec, e⟩
  · rcases ite_some e with ⟨q7, e⟩ | ⟨q7, e⟩
    · subst q7
      refine y_callV_x (pc := 3) (c_X8_addRow hl ec) q1 mf_X8_addRow tw_4_18 tw_4_19 lf_L_27 rfl rfl dL_addRow_3 (by decide) rfl rfl (leb rfl) (xx_catch (pc := 3) [] [] (0, 8, 11, 15) rfl (by decide) (fun _ hz => absurd hz List.not_mem_nil) (by decide) (by decide) tw_3_77 tw_3_159 dL_addRow_11 (by decide) rfl ?_)
      refine x_iconst (pc := 12) dL_addRow_12 ?_
      cases Option.some.inj e
      exact x_iret (pc := 13) rfl dL_addRow_13
    cases e
  refine y_callV_i (pc := 3) (c_X8_addRow hl ec) q1 mf_X8_addRow tw_4_18 tw_4_19 lf_L_27 rfl rfl dL_addRow_3 (by decide) rfl rfl (leb rfl) ?_
  refine x_i2l (pc := 6) dL_addRow_6 ?_
  obtain ⟨q4, e⟩ := chk_some e
  obtain ⟨q5, e⟩ := chk_some e
  replace e := lt_go e
  refine x_last (pc := 7) dL_addRow_7 q4 q5 ?_
  refine x_goto (pc := 8) (t := 14) dL_addRow_8 (by decide) ?_
  refine x_iconst (pc := 14) dL_addRow_14 ?_
  cases Option.some.inj e
  exact x_iret (pc := 15) rfl dL_addRow_15
abbrev w_L_addRow : Cond := (Cond.codeWith yL_addRow cL_addRow 3 (Option.some Jvm.ClassFile.FieldType.int) [((0 : Nat), (8 : Nat), (11 : Nat), (15 : Nat))])
theorem mf_L_addRow : MFX yL_addRow w_L_addRow cL_addRow 3 (Option.some Jvm.ClassFile.FieldType.int) 2 [((0 : Nat), (8 : Nat), (11 : Nat), (15 : Nat))] := ⟨⟨rfl, tw_4_16, by decide⟩, tw_1_0, ⟨by decide, by decide⟩, by decide +kernel⟩
theorem c_L_addRow {l : Launch} {K : Ctx} (hl : l.stackTraces = false) {h : Hp} {a0 : Nat} {a1 : Nat} {t : Rs Int32} (e : f_L_addRow h a0 a1 = some t) : Ctr l K 15 yL_addRow w_L_addRow [.ref a0, .ref a1] h (tgI t) :=
  Ctr.ofX hl mf_L_addRow rfl (leb rfl) (p_L_addRow hl e)
/-! ## TableColumnBalancerModel.addRow -/
abbrev mM_X9_addRow : Mi := (9, yX9_addRow.cls, cX9_addRow, 1, (Option.some Jvm.ClassFile.FieldType.int), [], false)
noncomputable def f_X9_addRow (h : Hp) (a0 : Nat) : Option (Rs Int32) :=
  chk (okr h a0 9) <|
  lt (putI h a0 0 (iN 0)) fun h2 =>
  chk (okr h2 (qR h2 a0 1) 20) <|
  chk (vp_in (iN 4) (qW h2 (qR h2 a0 1))) <|
  if (qI h2 (qR h2 a0 1) (Int32.toNatClampNeg (iN 4))) = (iN 6) then (
    bnd (f_X9_fails h2 a0 (iN 1)) fun h6 r7 =>
    some (h6, .inr r7)
  ) else (
    lt (putI h2 (qR h2 a0 1) (Int32.toNatClampNeg (iN 4)) ((qI h2 (qR h2 a0 1) (Int32.toNatClampNeg (iN 4))) + (iN 1))) fun h8 =>
    chk (okr h8 (qR h8 a0 1) 20) <|
    chk (vp_in (iN 4) (qW h8 (qR h8 a0 1))) <|
    some (h8, .inr ((qI h8 (qR h8 a0 1) (Int32.toNatClampNeg (iN 4))) - (iN 1)))
  )
theorem p_X9_addRow {l : Launch} {K : Ctx} (hl : l.stackTraces = false) {h : Hp} {a0 : Nat} {t : Rs Int32} (e : f_X9_addRow h a0 = some t) : X l K mM_X9_addRow (tgI t) 0 [(0, .ref a0)] [] h := by
  unfold f_X9_addRow at e
  refine x_aload_n (pc := 0) 0 dX9_addRow_0 rfl ?_
  refine x_iconst (pc := 1) dX9_addRow_1 ?_
  obtain ⟨q1, e⟩ := chk_some e
  replace e := lt_go e
  refine x_putI (pc := 2) pf_X9_84 rfl rfl rfl dX9_addRow_2 q1 ?_
  refine x_aload_n (pc := 5) 0 dX9_addRow_5 rfl ?_
  obtain ⟨q3, e⟩ := chk_some e
  refine x_getR (pc := 6) gf_X9_9 rfl dX9_addRow_6 (okr_pI q1) q3.1 ?_
  refine x_iconst (pc := 9) dX9_addRow_9 ?_
  obtain ⟨q4, e⟩ := chk_some e
  refine x_iald (pc := 10) dX9_addRow_10 q3 q4 ?_
  refine x_bipush (pc := 11) (v := iN 6) dX9_addRow_11 rfl ?_
  rcases ite_some e with ⟨q5, e⟩ | ⟨q5, e⟩
  · refine x_icmp_ne_f (pc := 13) (t := 22) dX9_addRow_13 (by decide) q5 ?_
    refine x_aload_n (pc := 16) 0 dX9_addRow_16 rfl ?_
    refine x_iconst (pc := 17) dX9_addRow_17 ?_
    rcases bnd_some e with ⟨h6, r7, ec, rfl⟩ | ⟨h6, r7, ec, e⟩
    · exact y_callV_x (pc := 18) (c_X9_fails hl ec) (okr_pI q1) mf_X9_fails tw_7_24 ts_6_7 lf_X9_95 rfl rfl dX9_addRow_18 (by decide) rfl rfl (leb rfl) (xx_out0 rfl)
    refine y_callV_i (pc := 18) (c_X9_fails hl ec) (okr_pI q1) mf_X9_fails tw_7_24 ts_6_7 lf_X9_95 rfl rfl dX9_addRow_18 (by decide) rfl rfl (leb rfl) ?_
    cases Option.some.inj e
    exact x_iret (pc := 21) rfl dX9_addRow_21
  · refine x_icmp_ne_t (pc := 13) (t := 22) dX9_addRow_13 (by decide) q5 ?_
    refine x_aload_n (pc := 22) 0 dX9_addRow_22 rfl ?_
    refine x_getR (pc := 23) gf_X9_9 rfl dX9_addRow_23 (okr_pI q1) q3.1 ?_
    refine x_iconst (pc := 26) dX9_addRow_26 ?_
    refine x_dup2 (pc := 27) dX9_addRow_27 rfl rfl ?_
    refine x_iald (pc := 28) dX9_addRow_28 q3 q4 ?_
    refine x_iconst (pc := 29) dX9_addRow_29 ?_
    refine x_iadd (pc := 30) dX9_addRow_30 ?_
    replace e := lt_go e
    refine x_iast (pc := 31) dX9_addRow_31 q3 q4 ?_
    refine x_aload_n (pc := 32) 0 dX9_addRow_32 rfl ?_
    obtain ⟨q9, e⟩ := chk_some e
    refine x_getR (pc := 33) gf_X9_9 rfl dX9_addRow_33 (okr_pI (okr_pI q1)) q9.1 ?_
    refine x_iconst (pc := 36) dX9_addRow_36 ?_
    obtain ⟨q10, e⟩ := chk_some e
    refine x_iald (pc := 37) dX9_addRow_37 q9 q10 ?_
    refine x_iconst (pc := 38) dX9_addRow_38 ?_
    refine x_isub (pc := 39) dX9_addRow_39 ?_
    cases Option.some.inj e
    exact x_iret (pc := 40) rfl dX9_addRow_40
abbrev w_X9_addRow : Cond := (Cond.code yX9_addRow cX9_addRow 1 (Option.some Jvm.ClassFile.FieldType.int))
theorem mf_X9_addRow : MF yX9_addRow w_X9_addRow cX9_addRow 1 (Option.some Jvm.ClassFile.FieldType.int) 0 := ⟨⟨rfl, tw_7_44, by decide⟩, tw_1_11, ⟨by decide, by decide⟩, by decide +kernel⟩
theorem c_X9_addRow {l : Launch} {K : Ctx} (hl : l.stackTraces = false) {h : Hp} {a0 : Nat} {t : Rs Int32} (e : f_X9_addRow h a0 = some t) : Ctr l K 9 yX9_addRow w_X9_addRow [.ref a0] h (tgI t) :=
  Ctr.of hl mf_X9_addRow false (fun q => nomatch q) rfl (leb rfl) (p_X9_addRow hl e)
/-! ## TableColumnBalancer.requireRow -/
abbrev mM_X8_requireRow : Mi := (9, yX8_requireRow.cls, cX8_requireRow, 2, (Option.none : Option Jvm.ClassFile.FieldType), [], false)
noncomputable def f_X8_requireRow (h : Hp) (a0 : Nat) (i1 : Int32) : Option (Rs Unit) :=
  chk (okr h a0 8) <|
  chk (okr h (qR h a0 0) 7) <|
  bnd (f_X8_isWithin h i1 (iN 0) ((qI h (qR h a0 0) 4) - (iN 1))) fun h3 r4 =>
  bnd (f_X8_requireIndex h3 r4) fun h5 _ =>
  some (h5, .inr ())
theorem p_X8_requireRow {l : Launch} {K : Ctx} (hl : l.stackTraces = false) {h : Hp} {a0 : Nat} {i1 : Int32} {t : Rs Unit} (e : f_X8_requireRow h a0 i1 = some t) : X l K mM_X8_requireRow (tgV t) 0 [(0, .ref a0), (1, .int i1)] [] h := by
  unfold f_X8_requireRow at e
  refine x_iload_n (pc := 0) 1 dX8_requireRow_0 rfl ?_
  refine x_iconst (pc := 1) dX8_requireRow_1 ?_
  refine x_aload_n (pc := 2) 0 dX8_requireRow_2 rfl ?_
  obtain ⟨q1, e⟩ := chk_some e
  obtain ⟨q2, e⟩ := chk_some e
  refine x_getR (pc := 3) gf_X8_10 rfl dX8_requireRow_3 q1 q2.1 ?_
  refine x_getI (pc := 6) gf_X8_121 rfl dX8_requireRow_6 q2 ?_
  refine x_iconst (pc := 9) dX8_requireRow_9 ?_
  refine x_isub (pc := 10) dX8_requireRow_10 ?_
  rcases bnd_some e with ⟨h3, r4, ec, rfl⟩ | ⟨h3, r4, ec, e⟩
  · exact y_callS_x (pc := 11) (c_X8_isWithin hl ec) mf_X8_isWithin tw_3_26 lf_X8_72 dX8_requireRow_11 (by decide) rfl rfl (leb rfl) (xx_out0 rfl)
  refine y_callS_i (pc := 11) (c_X8_isWithin hl ec) mf_X8_isWithin tw_3_26 lf_X8_72 dX8_requireRow_11 (by decide) rfl rfl (leb rfl) ?_
  rcases bnd_some e with ⟨h5, r6, ec, rfl⟩ | ⟨h5, r6, ec, e⟩
  · exact y_callS_x (pc := 14) (c_X8_requireIndex hl ec) mf_X8_requireIndex tw_3_225 lf_X8_96 dX8_requireRow_14 (by decide) rfl rfl (leb rfl) (xx_out0 rfl)
  refine y_callS_v (pc := 14) (c_X8_requireIndex hl ec) mf_X8_requireIndex tw_3_225 lf_X8_96 dX8_requireRow_14 (by decide) rfl rfl (leb rfl) ?_
  cases Option.some.inj e
  exact x_vret (pc := 17) rfl dX8_requireRow_17
abbrev w_X8_requireRow : Cond := (Cond.code yX8_requireRow cX8_requireRow 2 (Option.none : Option Jvm.ClassFile.FieldType))
theorem mf_X8_requireRow : MF yX8_requireRow w_X8_requireRow cX8_requireRow 2 (Option.none : Option Jvm.ClassFile.FieldType) 1 := ⟨⟨rfl, tw_4_31, by decide⟩, tw_1_1, ⟨by decide, by decide⟩, by decide +kernel⟩
theorem c_X8_requireRow {l : Launch} {K : Ctx} (hl : l.stackTraces = false) {h : Hp} {a0 : Nat} {i1 : Int32} {t : Rs Unit} (e : f_X8_requireRow h a0 i1 = some t) : Ctr l K 9 yX8_requireRow w_X8_requireRow [.ref a0, .int i1] h (tgV t) :=
  Ctr.of hl mf_X8_requireRow false (fun q => nomatch q) rfl (leb rfl) (p_X8_requireRow hl e)
/-! ## TableColumnBalancer$Table.hasRoom -/
abbrev mM_X7_hasRoom : Mi := (9, yX7_hasRoom.cls, cX7_hasRoom, 6, (Option.some Jvm.ClassFile.FieldType.boolean), [], false)
noncomputable def f_X7_hasRoom_L67 (k19 : Hp → Nat → Int32 → Int32 → Int32 → Int32 → Int32 → Option (Rs Int32)) (h : Hp) (a0 : Nat) (i1 : Int32) (i2 : Int32) (i3 : Int32) (i5 : Int32) (s0 : Int32) : Option (Rs Int32) :=
  k19 h a0 i1 i2 i3 s0 (i5 + iN 1)
theorem p_X7_hasRoom_L67 {l : Launch} {K : Ctx} (hl : l.stackTraces = false) {k19 : Hp → Nat → Int32 → Int32 → Int32 → Int32 → Int32 → Option (Rs Int32)} (hk19 : ∀ (h : Hp) (a0 : Nat) (i1 : Int32) (i2 : Int32) (i3 : Int32) (i4 : Int32) (i5 : Int32) (t : Rs Int32), k19 h a0 i1 i2 i3 i4 i5 = some t → X l K mM_X7_hasRoom (tgI t) 19 [(0, .ref a0), (1, .int i1), (2, .int i2), (3, .int i3), (4, .int i4), (5, .int i5)] [] h) {h : Hp} {a0 : Nat} {i1 : Int32} {i2 : Int32} {i3 : Int32} {i5 : Int32} {s0 : Int32} {t : Rs Int32} (e : f_X7_hasRoom_L67 k19 h a0 i1 i2 i3 i5 s0 = some t) : X l K mM_X7_hasRoom (tgI t) 67 [(0, .ref a0), (1, .int i1), (2, .int i2), (3, .int i3), (5, .int i5)] [.int s0] h := by
  unfold f_X7_hasRoom_L67 at e
  refine x_istore (pc := 67) dX7_hasRoom_67 (by decide) rfl ?_
  refine x_iinc (pc := 69) 5 dX7_hasRoom_69 rfl (by decide) rfl ?_
  refine x_goto (pc := 72) (t := 19) dX7_hasRoom_72 (by decide) ?_
  exact x_sub1 (hk19 _ _ _ _ _ _ _ _ e) [2, 3, 4, 5, 1, 0] rfl
noncomputable def f_X7_hasRoom_L66 (k19 : Hp → Nat → Int32 → Int32 → Int32 → Int32 → Int32 → Option (Rs Int32)) (h : Hp) (a0 : Nat) (i1 : Int32) (i2 : Int32) (i3 : Int32) (i5 : Int32) : Option (Rs Int32) :=
  f_X7_hasRoom_L67 k19 h a0 i1 i2 i3 i5 (iN 0)
theorem p_X7_hasRoom_L66 {l : Launch} {K : Ctx} (hl : l.stackTraces = false) {k19 : Hp → Nat → Int32 → Int32 → Int32 → Int32 → Int32 → Option (Rs Int32)} (hk19 : ∀ (h : Hp) (a0 : Nat) (i1 : Int32) (i2 : Int32) (i3 : Int32) (i4 : Int32) (i5 : Int32) (t : Rs Int32), k19 h a0 i1 i2 i3 i4 i5 = some t → X l K mM_X7_hasRoom (tgI t) 19 [(0, .ref a0), (1, .int i1), (2, .int i2), (3, .int i3), (4, .int i4), (5, .int i5)] [] h) {h : Hp} {a0 : Nat} {i1 : Int32} {i2 : Int32} {i3 : Int32} {i5 : Int32} {t : Rs Int32} (e : f_X7_hasRoom_L66 k19 h a0 i1 i2 i3 i5 = some t) : X l K mM_X7_hasRoom (tgI t) 66 [(0, .ref a0), (1, .int i1), (2, .int i2), (3, .int i3), (5, .int i5)] [] h := by
  unfold f_X7_hasRoom_L66 at e
  refine x_iconst (pc := 66) dX7_hasRoom_66 ?_
  exact p_X7_hasRoom_L67 hl hk19 e
noncomputable def f_X7_hasRoom_L62 (k19 : Hp → Nat → Int32 → Int32 → Int32 → Int32 → Int32 → Option (Rs Int32)) (h : Hp) (a0 : Nat) (i1 : Int32) (i2 : Int32) (i3 : Int32) (i5 : Int32) : Option (Rs Int32) :=
  f_X7_hasRoom_L67 k19 h a0 i1 i2 i3 i5 (iN 1)
theorem p_X7_hasRoom_L62 {l : Launch} {K : Ctx} (hl : l.stackTraces = false) {k19 : Hp → Nat → Int32 → Int32 → Int32 → Int32 → Int32 → Option (Rs Int32)} (hk19 : ∀ (h : Hp) (a0 : Nat) (i1 : Int32) (i2 : Int32) (i3 : Int32) (i4 : Int32) (i5 : Int32) (t : Rs Int32), k19 h a0 i1 i2 i3 i4 i5 = some t → X l K mM_X7_hasRoom (tgI t) 19 [(0, .ref a0), (1, .int i1), (2, .int i2), (3, .int i3), (4, .int i4), (5, .int i5)] [] h) {h : Hp} {a0 : Nat} {i1 : Int32} {i2 : Int32} {i3 : Int32} {i5 : Int32} {t : Rs Int32} (e : f_X7_hasRoom_L62 k19 h a0 i1 i2 i3 i5 = some t) : X l K mM_X7_hasRoom (tgI t) 62 [(0, .ref a0), (1, .int i1), (2, .int i2), (3, .int i3), (5, .int i5)] [] h := by
  unfold f_X7_hasRoom_L62 at e
  refine x_iconst (pc := 62) dX7_hasRoom_62 ?_
  refine x_goto (pc := 63) (t := 67) dX7_hasRoom_63 (by decide) ?_
  exact p_X7_hasRoom_L67 hl hk19 e
noncomputable def f_X7_hasRoom_B19 (k19 : Hp → Nat → Int32 → Int32 → Int32 → Int32 → Int32 → Option (Rs Int32)) (h : Hp) (a0 : Nat) (i1 : Int32) (i2 : Int32) (i3 : Int32) (i4 : Int32) (i5 : Int32) : Option (Rs Int32) :=
  chk (okr h a0 7) <|
  if (qI h a0 5) ≤ i5 then (
    chk (i4 = 0 ∨ i4 = 1) <|
    some (h, .inr i4)
  ) else (
    if i4 = 0 then (
      f_X7_hasRoom_L66 k19 h a0 i1 i2 i3 i5
    ) else (
      chk (okr h (qR h a0 8) 25) <|
      chk (vp_in i5 (qW h (qR h a0 8))) <|
      chk (okr h (qR h (qR h a0 8) (Int32.toNatClampNeg i5)) 1) <|
      if (qI h (qR h (qR h a0 8) (Int32.toNatClampNeg i5)) 0) = i1 then (
        bnd (f_X1_overlaps h (qR h (qR h a0 8) (Int32.toNatClampNeg i5)) i2 i3) fun h9 r10 =>
        if r10 = 0 then (
          f_X7_hasRoom_L62 k19 h9 a0 i1 i2 i3 i5
        ) else (
          f_X7_hasRoom_L66 k19 h9 a0 i1 i2 i3 i5
        )
      ) else (
        f_X7_hasRoom_L62 k19 h a0 i1 i2 i3 i5
      )
    )
  )
theorem p_X7_hasRoom_B19 {l : Launch} {K : Ctx} (hl : l.stackTraces = false) {k19 : Hp → Nat → Int32 → Int32 → Int32 → Int32 → Int32 → Option (Rs Int32)} (hk19 : ∀ (h : Hp) (a0 : Nat) (i1 : Int32) (i2 : Int32) (i3 : Int32) (i4 : Int32) (i5 : Int32) (t : Rs Int32), k19 h a0 i1 i2 i3 i4 i5 = some t → X l K mM_X7_hasRoom (tgI t) 19 [(0, .ref a0), (1, .int i1), (2, .int i2), (3, .int i3), (4, .int i4), (5, .int i5)] [] h) {h : Hp} {a0 : Nat} {i1 : Int32} {i2 : Int32} {i3 : Int32} {i4 : Int32} {i5 : Int32} {t : Rs Int32} (e : f_X7_hasRoom_B19 k19 h a0 i1 i2 i3 i4 i5 = some t) : X l K mM_X7_hasRoom (tgI t) 19 [(0, .ref a0), (1, .int i1), (2, .int i2), (3, .int i3), (4, .int i4), (5, .int i5)] [] h := by
  unfold f_X7_hasRoom_B19 at e
  refine x_iload (pc := 19) 5 dX7_hasRoom_19 rfl ?_
  refine x_aload_n (pc := 21) 0 dX7_hasRoom_21 rfl ?_
  obtain ⟨q1, e⟩ := chk_some e
  refine x_getI (pc := 22) gf_X7_41 rfl dX7_hasRoom_22 q1 ?_
  rcases ite_some e with ⟨q2, e⟩ | ⟨q2, e⟩
  · refine x_icmp_ge_t (pc := 25) (t := 75) dX7_hasRoom_25 (by decide) q2 ?_
    refine x_iload (pc := 75) 4 dX7_hasRoom_75 rfl ?_
    obtain ⟨q3, e⟩ := chk_some e
    cases Option.some.inj e
    exact x_zret (pc := 77) rfl q3 dX7_hasRoom_77
  · refine x_icmp_ge_f (pc := 25) (t := 75) dX7_hasRoom_25 (by decide) q2 ?_
    refine x_iload (pc := 28) 4 dX7_hasRoom_28 rfl ?_
    rcases ite_some e with ⟨q4, e⟩ | ⟨q4, e⟩
    · refine x_if_eq_t (pc := 30) (t := 66) dX7_hasRoom_30 (by decide) q4 ?_
      exact x_sub1 (p_X7_hasRoom_L66 hl hk19 e) [0, 1, 2, 3, 5] rfl
    · refine x_if_eq_f (pc := 30) (t := 66) dX7_hasRoom_30 (by decide) q4 ?_
      refine x_aload_n (pc := 33) 0 dX7_hasRoom_33 rfl ?_
      obtain ⟨q5, e⟩ := chk_some e
      refine x_getR (pc := 34) gf_X7_30 rfl dX7_hasRoom_34 q1 q5.1 ?_
      refine x_iload (pc := 37) 5 dX7_hasRoom_37 rfl ?_
      obtain ⟨q6, e⟩ := chk_some e
      obtain ⟨q7, e⟩ := chk_some e
      refine x_aald (pc := 39) (t := 1) (by decide) dX7_hasRoom_39 q5 q6 q7.1 ?_
      refine x_getI (pc := 40) gf_X7_52 rfl dX7_hasRoom_40 q7 ?_
      refine x_iload_n (pc := 43) 1 dX7_hasRoom_43 rfl ?_
      rcases ite_some e with ⟨q8, e⟩ | ⟨q8, e⟩
      · refine x_icmp_ne_f (pc := 44) (t := 62) dX7_hasRoom_44 (by decide) q8 ?_
        refine x_aload_n (pc := 47) 0 dX7_hasRoom_47 rfl ?_
        refine x_getR (pc := 48) gf_X7_30 rfl dX7_hasRoom_48 q1 q5.1 ?_
        refine x_iload (pc := 51) 5 dX7_hasRoom_51 rfl ?_
        refine x_aald (pc := 53) (t := 1) (by decide) dX7_hasRoom_53 q5 q6 q7.1 ?_
        refine x_iload_n (pc := 54) 2 dX7_hasRoom_54 rfl ?_
        refine x_iload_n (pc := 55) 3 dX7_hasRoom_55 rfl ?_
        rcases bnd_some e with ⟨h9, r10, ec, rfl⟩ | ⟨h9, r10, ec, e⟩
        · exact y_callV_x (pc := 56) (c_X1_overlaps hl ec) q7 mf_X1_overlaps tw_2_156 ts_1_12 lf_X7_55 rfl rfl dX7_hasRoom_56 (by decide) rfl rfl (leb rfl) (xx_out0 rfl)
        refine y_callV_i (pc := 56) (c_X1_overlaps hl ec) q7 mf_X1_overlaps tw_2_156 ts_1_12 lf_X7_55 rfl rfl dX7_hasRoom_56 (by decide) rfl rfl (leb rfl) ?_
        rcases ite_some e with ⟨q11, e⟩ | ⟨q11, e⟩
        · refine x_if_ne_f (pc := 59) (t := 66) dX7_hasRoom_59 (by decide) q11 ?_
          exact x_sub1 (p_X7_hasRoom_L62 hl hk19 e) [0, 1, 2, 3, 5] rfl
        · refine x_if_ne_t (pc := 59) (t := 66) dX7_hasRoom_59 (by decide) q11 ?_
          exact x_sub1 (p_X7_hasRoom_L66 hl hk19 e) [0, 1, 2, 3, 5] rfl
      · refine x_icmp_ne_t (pc := 44) (t := 62) dX7_hasRoom_44 (by decide) q8 ?_
        exact x_sub1 (p_X7_hasRoom_L62 hl hk19 e) [0, 1, 2, 3, 5] rfl
noncomputable def f_X7_hasRoom_L19 (n : Nat) : Hp → Nat → Int32 → Int32 → Int32 → Int32 → Int32 → Option (Rs Int32) := Nat.rec (motive := fun _ => Hp → Nat → Int32 → Int32 → Int32 → Int32 → Int32 → Option (Rs Int32)) (fun _ _ _ _ _ _ _ => none) (fun _ r => f_X7_hasRoom_B19 r) n
theorem p_X7_hasRoom_L19 {l : Launch} {K : Ctx} (hl : l.stackTraces = false) : ∀ (n : Nat) (h : Hp) (a0 : Nat) (i1 : Int32) (i2 : Int32) (i3 : Int32) (i4 : Int32) (i5 : Int32) (t : Rs Int32) (e : f_X7_hasRoom_L19 n h a0 i1 i2 i3 i4 i5 = some t), X l K mM_X7_hasRoom (tgI t) 19 [(0, .ref a0), (1, .int i1), (2, .int i2), (3, .int i3), (4, .int i4), (5, .int i5)] [] h := by
  intro n
  induction n with
  | zero => exact fun _ _ _ _ _ _ _ _ e => nomatch (show (none : Option (Rs Int32)) = some _ from e)
  | succ n ih => exact fun h a0 i1 i2 i3 i4 i5 t e => p_X7_hasRoom_B19 hl (fun h a0 i1 i2 i3 i4 i5 t e => ih h a0 i1 i2 i3 i4 i5 t e) e
noncomputable def f_X7_hasRoom_L14 (h : Hp) (a0 : Nat) (i1 : Int32) (i2 : Int32) (i3 : Int32) (s0 : Int32) : Option (Rs Int32) :=
  f_X7_hasRoom_L19 2000 h a0 i1 i2 i3 s0 (iN 0)
theorem p_X7_hasRoom_L14 {l : Launch} {K : Ctx} (hl : l.stackTraces = false) {h : Hp} {a0 : Nat} {i1 : Int32} {i2 : Int32} {i3 : Int32} {s0 : Int32} {t : Rs Int32} (e : f_X7_hasRoom_L14 h a0 i1 i2 i3 s0 = some t) : X l K mM_X7_hasRoom (tgI t) 14 [(0, .ref a0), (1, .int i1), (2, .int i2), (3, .int i3)] [.int s0] h := by
  unfold f_X7_hasRoom_L14 at e
  refine x_istore (pc := 14) dX7_hasRoom_14 (by decide) rfl ?_
  refine x_iconst (pc := 16) dX7_hasRoom_16 ?_
  refine x_istore (pc := 17) dX7_hasRoom_17 (by decide) rfl ?_
  exact x_sub1 (p_X7_hasRoom_L19 hl 2000 _ _ _ _ _ _ _ _ e) [2, 3, 4, 5, 1, 0] rfl
noncomputable def f_X7_hasRoom (h : Hp) (a0 : Nat) (i1 : Int32) (i2 : Int32) (i3 : Int32) : Option (Rs Int32) :=
  chk (okr h a0 7) <|
  if (iN 16) ≤ (qI h a0 5) then (
    f_X7_hasRoom_L14 h a0 i1 i2 i3 (iN 0)
  ) else (
    f_X7_hasRoom_L14 h a0 i1 i2 i3 (iN 1)
  )
theorem p_X7_hasRoom {l : Launch} {K : Ctx} (hl : l.stackTraces = false) {h : Hp} {a0 : Nat} {i1 : Int32} {i2 : Int32} {i3 : Int32} {t : Rs Int32} (e : f_X7_hasRoom h a0 i1 i2 i3 = some t) : X l K mM_X7_hasRoom (tgI t) 0 [(0, .ref a0), (1, .int i1), (2, .int i2), (3, .int i3)] [] h := by
  unfold f_X7_hasRoom at e
  refine x_aload_n (pc := 0) 0 dX7_hasRoom_0 rfl ?_
  obtain ⟨q1, e⟩ := chk_some e
  refine x_getI (pc := 1) gf_X7_41 rfl dX7_hasRoom_1 q1 ?_
  refine x_bipush (pc := 4) (v := iN 16) dX7_hasRoom_4 rfl ?_
  rcases ite_some e with ⟨q2, e⟩ | ⟨q2, e⟩
  · refine x_icmp_ge_t (pc := 6) (t := 13) dX7_hasRoom_6 (by decide) q2 ?_
    refine x_iconst (pc := 13) dX7_hasRoom_13 ?_
    exact p_X7_hasRoom_L14 hl e
  · refine x_icmp_ge_f (pc := 6) (t := 13) dX7_hasRoom_6 (by decide) q2 ?_
    refine x_iconst (pc := 9) dX7_hasRoom_9 ?_
    refine x_goto (pc := 10) (t := 14) dX7_hasRoom_10 (by decide) ?_
    exact p_X7_hasRoom_L14 hl e
abbrev w_X7_hasRoom : Cond := (Cond.code yX7_hasRoom cX7_hasRoom 6 (Option.some Jvm.ClassFile.FieldType.boolean))
theorem mf_X7_hasRoom : MF yX7_hasRoom w_X7_hasRoom cX7_hasRoom 6 (Option.some Jvm.ClassFile.FieldType.boolean) 3 := ⟨⟨rfl, tw_4_35, by decide⟩, tw_1_2, ⟨by decide, by decide⟩, by decide +kernel⟩
theorem c_X7_hasRoom {l : Launch} {K : Ctx} (hl : l.stackTraces = false) {h : Hp} {a0 : Nat} {i1 : Int32} {i2 : Int32} {i3 : Int32} {t : Rs Int32} (e : f_X7_hasRoom h a0 i1 i2 i3 = some t) : Ctr l K 9 yX7_hasRoom w_X7_hasRoom [.ref a0, .int i1, .int i2, .int i3] h (tgI t) :=
  Ctr.of hl mf_X7_hasRoom false (fun q => nomatch q) rfl (leb rfl) (p_X7_hasRoom hl e)
/-! ## TableColumnBalancer$Table.place -/
abbrev mM_X7_place : Mi := (8, yX7_place.cls, cX7_place, 5, (Option.some (Jvm.ClassFile.FieldType.object "TableColumnBalancer$Content")), [], false)
noncomputable def f_X7_place (h : Hp) (a0 : Nat) (i1 : Int32) (i2 : Int32) (i3 : Int32) : Option (Rs Nat) :=
  chk (okr h a0 7) <|
  chk (okr h (qR h a0 8) 25) <|
  chk (vp_in (qI h a0 5) (qW h (qR h a0 8))) <|
  chk (okr h (qR h (qR h a0 8) (Int32.toNatClampNeg (qI h a0 5))) 1) <|
  lt (putI h (qR h (qR h a0 8) (Int32.toNatClampNeg (qI h a0 5))) 0 i1) fun h5 =>
  lt (putI h5 (qR h (qR h a0 8) (Int32.toNatClampNeg (qI h a0 5))) 1 i2) fun h6 =>
  lt (putI h6 (qR h (qR h a0 8) (Int32.toNatClampNeg (qI h a0 5))) 2 i3) fun h7 =>
  lt (putI h7 a0 5 ((qI h7 a0 5) + (iN 1))) fun h8 =>
  chk (okr h8 (qR h8 (qR h (qR h a0 8) (Int32.toNatClampNeg (qI h a0 5))) 3) 4) <|
  some (h8, .inr (qR h8 (qR h (qR h a0 8) (Int32.toNatClampNeg (qI h a0 5))) 3))
theorem p_X7_place {l : Launch} {K : Ctx} (hl : l.stackTraces = false) {h : Hp} {a0 : Nat} {i1 : Int32} {i2 : Int32} {i3 : Int32} {t : Rs Nat} (e : f_X7_place h a0 i1 i2 i3 = some t) : X l K mM_X7_place (tgR t) 0 [(0, .ref a0), (1, .int i1), (2, .int i2), (3, .int i3)] [] h := by
  unfold f_X7_place at e
  refine x_aload_n (pc := 0) 0 dX7_place_0 rfl ?_
  obtain ⟨q1, e⟩ := chk_some e
  obtain ⟨q2, e⟩ := chk_some e
  refine x_getR (pc := 1) gf_X7_30 rfl dX7_place_1 q1 q2.1 ?_
  refine x_aload_n (pc := 4) 0 dX7_place_4 rfl ?_
  refine x_getI (pc := 5) gf_X7_41 rfl dX7_place_5 q1 ?_
  obtain ⟨q3, e⟩ := chk_some e
  obtain ⟨q4, e⟩ := chk_some e
  refine x_aald (pc := 8) (t := 1) (by decide) dX7_place_8 q2 q3 q4.1 ?_
  refine x_astore (pc := 9) dX7_place_9 (by decide) rfl ?_
  refine x_aload (pc := 11) 0 dX7_place_11 rfl ?_
  refine x_iload_n (pc := 13) 2 dX7_place_13 rfl ?_
  replace e := lt_go e
  refine x_putI (pc := 14) pf_X7_52 rfl rfl rfl dX7_place_14 q4 ?_
  refine x_aload (pc := 17) 0 dX7_place_17 rfl ?_
  refine x_iload_n (pc := 19) 3 dX7_place_19 rfl ?_
  replace e := lt_go e
  refine x_putI (pc := 20) pf_X7_59 rfl rfl rfl dX7_place_20 (okr_pI q4) ?_
  refine x_aload (pc := 23) 0 dX7_place_23 rfl ?_
  refine x_iload_n (pc := 25) 4 dX7_place_25 rfl ?_
  replace e := lt_go e
  refine x_putI (pc := 26) pf_X7_62 rfl rfl rfl dX7_place_26 (okr_pI (okr_pI q4)) ?_
  refine x_aload_n (pc := 29) 1 dX7_place_29 rfl ?_
  refine x_dup (pc := 30) dX7_place_30 rfl ?_
  refine x_getI (pc := 31) gf_X7_41 rfl dX7_place_31 (okr_pI (okr_pI (okr_pI q1))) ?_
  refine x_iconst (pc := 34) dX7_place_34 ?_
  refine x_iadd (pc := 35) dX7_place_35 ?_
  replace e := lt_go e
  refine x_putI (pc := 36) pf_X7_41 rfl rfl rfl dX7_place_36 (okr_pI (okr_pI (okr_pI q1))) ?_
  refine x_aload (pc := 39) 0 dX7_place_39 rfl ?_
  obtain ⟨q9, e⟩ := chk_some e
  refine x_getR (pc := 41) gf_X7_65 rfl dX7_place_41 (okr_pI (okr_pI (okr_pI (okr_pI q4)))) q9.1 ?_
  cases Option.some.inj e
  exact x_aret (pc := 44) rfl (Or.inl ⟨_, rfl⟩) dX7_place_44
abbrev w_X7_place : Cond := (Cond.code yX7_place cX7_place 5 (Option.some (Jvm.ClassFile.FieldType.object "TableColumnBalancer$Content")))
theorem mf_X7_place : MF yX7_place w_X7_place cX7_place 5 (Option.some (Jvm.ClassFile.FieldType.object "TableColumnBalancer$Content")) 3 := ⟨⟨rfl, tw_4_40, by decide⟩, tw_1_2, ⟨by decide, by decide⟩, by decide +kernel⟩
theorem c_X7_place {l : Launch} {K : Ctx} (hl : l.stackTraces = false) {h : Hp} {a0 : Nat} {i1 : Int32} {i2 : Int32} {i3 : Int32} {t : Rs Nat} (e : f_X7_place h a0 i1 i2 i3 = some t) : Ctr l K 8 yX7_place w_X7_place [.ref a0, .int i1, .int i2, .int i3] h (tgR t) :=
  Ctr.of hl mf_X7_place false (fun q => nomatch q) rfl (leb rfl) (p_X7_place hl e)
/-! ## TableColumnBalancer$Content.keepPiece -/
abbrev mM_X4_keepPiece : Mi := (8, yX4_keepPiece.cls, cX4_keepPiece, 3, (Option.none : Option Jvm.ClassFile.FieldType), [], false)
noncomputable def f_X4_keepPiece_L68 (h : Hp) (a0 : Nat) (s0 : Int32) (s1 : Int32) (s2 : Nat) : Option (Rs Unit) :=
  chk (okr h s2 22) <|
  chk (vp_in s1 (qW h s2)) <|
  chk (s0 = 0 ∨ s0 = 1) <|
  lt (putI h s2 (Int32.toNatClampNeg s1) s0) fun h4 =>
  chk (okr h4 a0 4) <|
  lt (putI h4 a0 7 ((qI h4 a0 7) + (iN 1))) fun h6 =>
  some (h6, .inr ())
theorem p_X4_keepPiece_L68 {l : Launch} {K : Ctx} (hl : l.stackTraces = false) {h : Hp} {a0 : Nat} {s0 : Int32} {s1 : Int32} {s2 : Nat} {t : Rs Unit} (e : f_X4_keepPiece_L68 h a0 s0 s1 s2 = some t) : X l K mM_X4_keepPiece (tgV t) 68 [(0, .ref a0)] [.int s0, .int s1, .ref s2] h := by
  unfold f_X4_keepPiece_L68 at e
  obtain ⟨q1, e⟩ := chk_some e
  obtain ⟨q2, e⟩ := chk_some e
  obtain ⟨q3, e⟩ := chk_some e
  replace e := lt_go e
  refine x_zast (pc := 68) dX4_keepPiece_68 q3 q1 q2 ?_
  refine x_aload_n (pc := 69) 0 dX4_keepPiece_69 rfl ?_
  refine x_dup (pc := 70) dX4_keepPiece_70 rfl ?_
  obtain ⟨q5, e⟩ := chk_some e
  refine x_getI (pc := 71) gf_X4_53 rfl dX4_keepPiece_71 q5 ?_
  refine x_iconst (pc := 74) dX4_keepPiece_74 ?_
  refine x_iadd (pc := 75) dX4_keepPiece_75 ?_
  replace e := lt_go e
  refine x_putI (pc := 76) pf_X4_53 rfl rfl rfl dX4_keepPiece_76 q5 ?_
  cases Option.some.inj e
  exact x_vret (pc := 79) rfl dX4_keepPiece_79
noncomputable def f_X4_keepPiece_L48 (h : Hp) (a0 : Nat) (i2 : Int32) (s0 : Int32) (s1 : Int32) (s2 : Int32) (s3 : Nat) : Option (Rs Unit) :=
  chk (okr h s3 20) <|
  chk (vp_in s2 (qW h s3)) <|
  lt (putI h s3 (Int32.toNatClampNeg s2) (s1 + s0)) fun h3 =>
  chk (okr h3 a0 4) <|
  chk (okr h3 (qR h3 a0 10) 22) <|
  if i2 = (iN 1) then (
    f_X4_keepPiece_L68 h3 a0 (iN 1) (qI h3 a0 7) (qR h3 a0 10)
  ) else (
    f_X4_keepPiece_L68 h3 a0 (iN 0) (qI h3 a0 7) (qR h3 a0 10)
  )
theorem p_X4_keepPiece_L48 {l : Launch} {K : Ctx} (hl : l.stackTraces = false) {h : Hp} {a0 : Nat} {i2 : Int32} {s0 : Int32} {s1 : Int32} {s2 : Int32} {s3 : Nat} {t : Rs Unit} (e : f_X4_keepPiece_L48 h a0 i2 s0 s1 s2 s3 = some t) : X l K mM_X4_keepPiece (tgV t) 48 [(0, .ref a0), (2, .int i2)] [.int s0, .int s1, .int s2, .ref s3] h := by
  unfold f_X4_keepPiece_L48 at e
  refine x_iadd (pc := 48) dX4_keepPiece_48 ?_
  obtain ⟨q1, e⟩ := chk_some e
  obtain ⟨q2, e⟩ := chk_some e
  replace e := lt_go e
  refine x_iast (pc := 49) dX4_keepPiece_49 q1 q2 ?_
  refine x_aload_n (pc := 50) 0 dX4_keepPiece_50 rfl ?_
  obtain ⟨q4, e⟩ := chk_some e
  obtain ⟨q5, e⟩ := chk_some e
  refine x_getR (pc := 51) gf_X4_24 rfl dX4_keepPiece_51 q4 q5.1 ?_
  refine x_aload_n (pc := 54) 0 dX4_keepPiece_54 rfl ?_
  refine x_getI (pc := 55) gf_X4_53 rfl dX4_keepPiece_55 q4 ?_
  refine x_iload_n (pc := 58) 1 dX4_keepPiece_58 rfl ?_
  refine x_iconst (pc := 59) dX4_keepPiece_59 ?_
  rcases ite_some e with ⟨q6, e⟩ | ⟨q6, e⟩
  · refine x_icmp_ne_f (pc := 60) (t := 67) dX4_keepPiece_60 (by decide) q6 ?_
    refine x_iconst (pc := 63) dX4_keepPiece_63 ?_
    refine x_goto (pc := 64) (t := 68) dX4_keepPiece_64 (by decide) ?_
    exact x_sub1 (p_X4_keepPiece_L68 hl e) [0] rfl
  · refine x_icmp_ne_t (pc := 60) (t := 67) dX4_keepPiece_60 (by decide) q6 ?_
    refine x_iconst (pc := 67) dX4_keepPiece_67 ?_
    exact x_sub1 (p_X4_keepPiece_L68 hl e) [0] rfl
noncomputable def f_X4_keepPiece_L28 (h : Hp) (a0 : Nat) (i1 : Int32) (i2 : Int32) (s0 : Int32) (s1 : Int32) (s2 : Int32) (s3 : Nat) : Option (Rs Unit) :=
  chk (okr h s3 20) <|
  chk (vp_in s2 (qW h s3)) <|
  lt (putI h s3 (Int32.toNatClampNeg s2) (s1 + s0)) fun h3 =>
  chk (okr h3 a0 4) <|
  chk (okr h3 (qR h3 a0 9) 20) <|
  if i2 = 0 then (
    f_X4_keepPiece_L48 h3 a0 i2 (iN 1) i1 (qI h3 a0 7) (qR h3 a0 9)
  ) else (
    f_X4_keepPiece_L48 h3 a0 i2 (iN 0) i1 (qI h3 a0 7) (qR h3 a0 9)
  )
theorem p_X4_keepPiece_L28 {l : Launch} {K : Ctx} (hl : l.stackTraces = false) {h : Hp} {a0 : Nat} {i1 : Int32} {i2 : Int32} {s0 : Int32} {s1 : Int32} {s2 : Int32} {s3 : Nat} {t : Rs Unit} (e : f_X4_keepPiece_L28 h a0 i1 i2 s0 s1 s2 s3 = some t) : X l K mM_X4_keepPiece (tgV t) 28 [(0, .ref a0), (1, .int i1), (2, .int i2)] [.int s0, .int s1, .int s2, .ref s3] h := by
  unfold f_X4_keepPiece_L28 at e
  refine x_iadd (pc := 28) dX4_keepPiece_28 ?_
  obtain ⟨q1, e⟩ := chk_some e
  obtain ⟨q2, e⟩ := chk_some e
  replace e := lt_go e
  refine x_iast (pc := 29) dX4_keepPiece_29 q1 q2 ?_
  refine x_aload_n (pc := 30) 0 dX4_keepPiece_30 rfl ?_
  obtain ⟨q4, e⟩ := chk_some e
  obtain ⟨q5, e⟩ := chk_some e
  refine x_getR (pc := 31) gf_X4_21 rfl dX4_keepPiece_31 q4 q5.1 ?_
  refine x_aload_n (pc := 34) 0 dX4_keepPiece_34 rfl ?_
  refine x_getI (pc := 35) gf_X4_53 rfl dX4_keepPiece_35 q4 ?_
  refine x_iload_n (pc := 38) 1 dX4_keepPiece_38 rfl ?_
  refine x_iload_n (pc := 39) 2 dX4_keepPiece_39 rfl ?_
  rcases ite_some e with ⟨q6, e⟩ | ⟨q6, e⟩
  · refine x_if_ne_f (pc := 40) (t := 47) dX4_keepPiece_40 (by decide) q6 ?_
    refine x_iconst (pc := 43) dX4_keepPiece_43 ?_
    refine x_goto (pc := 44) (t := 48) dX4_keepPiece_44 (by decide) ?_
    exact x_sub1 (p_X4_keepPiece_L48 hl e) [0, 2] rfl
  · refine x_if_ne_t (pc := 40) (t := 47) dX4_keepPiece_40 (by decide) q6 ?_
    refine x_iconst (pc := 47) dX4_keepPiece_47 ?_
    exact x_sub1 (p_X4_keepPiece_L48 hl e) [0, 2] rfl
noncomputable def f_X4_keepPiece (h : Hp) (a0 : Nat) (i1 : Int32) (i2 : Int32) : Option (Rs Unit) :=
  chk (okr h a0 4) <|
  if (iN 12) ≤ (qI h a0 7) then (
    some (h, .inr ())
  ) else (
    chk (okr h (qR h a0 8) 20) <|
    if i2 = (iN 3) then (
      f_X4_keepPiece_L28 h a0 i1 i2 (iN 1) i1 (qI h a0 7) (qR h a0 8)
    ) else (
      f_X4_keepPiece_L28 h a0 i1 i2 (iN 0) i1 (qI h a0 7) (qR h a0 8)
    )
  )
theorem p_X4_keepPiece {l : Launch} {K : Ctx} (hl : l.stackTraces = false) {h : Hp} {a0 : Nat} {i1 : Int32} {i2 : Int32} {t : Rs Unit} (e : f_X4_keepPiece h a0 i1 i2 = some t) : X l K mM_X4_keepPiece (tgV t) 0 [(0, .ref a0), (1, .int i1), (2, .int i2)] [] h := by
  unfold f_X4_keepPiece at e
  refine x_aload_n (pc := 0) 0 dX4_keepPiece_0 rfl ?_
  obtain ⟨q1, e⟩ := chk_some e
  refine x_getI (pc := 1) gf_X4_53 rfl dX4_keepPiece_1 q1 ?_
  refine x_bipush (pc := 4) (v := iN 12) dX4_keepPiece_4 rfl ?_
  rcases ite_some e with ⟨q2, e⟩ | ⟨q2, e⟩
  · refine x_icmp_ge_t (pc := 6) (t := 79) dX4_keepPiece_6 (by decide) q2 ?_
    cases Option.some.inj e
    exact x_vret (pc := 79) rfl dX4_keepPiece_79
  · refine x_icmp_ge_f (pc := 6) (t := 79) dX4_keepPiece_6 (by decide) q2 ?_
    refine x_aload_n (pc := 9) 0 dX4_keepPiece_9 rfl ?_
    obtain ⟨q3, e⟩ := chk_some e
    refine x_getR (pc := 10) gf_X4_18 rfl dX4_keepPiece_10 q1 q3.1 ?_
    refine x_aload_n (pc := 13) 0 dX4_keepPiece_13 rfl ?_
    refine x_getI (pc := 14) gf_X4_53 rfl dX4_keepPiece_14 q1 ?_
    refine x_iload_n (pc := 17) 1 dX4_keepPiece_17 rfl ?_
    refine x_iload_n (pc := 18) 2 dX4_keepPiece_18 rfl ?_
    refine x_iconst (pc := 19) dX4_keepPiece_19 ?_
    rcases ite_some e with ⟨q4, e⟩ | ⟨q4, e⟩
    · refine x_icmp_ne_f (pc := 20) (t := 27) dX4_keepPiece_20 (by decide) q4 ?_
      refine x_iconst (pc := 23) dX4_keepPiece_23 ?_
      refine x_goto (pc := 24) (t := 28) dX4_keepPiece_24 (by decide) ?_
      exact p_X4_keepPiece_L28 hl e
    · refine x_icmp_ne_t (pc := 20) (t := 27) dX4_keepPiece_20 (by decide) q4 ?_
      refine x_iconst (pc := 27) dX4_keepPiece_27 ?_
      exact p_X4_keepPiece_L28 hl e
abbrev w_X4_keepPiece : Cond := (Cond.code yX4_keepPiece cX4_keepPiece 3 (Option.none : Option Jvm.ClassFile.FieldType))
theorem mf_X4_keepPiece : MF yX4_keepPiece w_X4_keepPiece cX4_keepPiece 3 (Option.none : Option Jvm.ClassFile.FieldType) 2 := ⟨⟨rfl, tw_4_52, by decide⟩, tw_1_4, ⟨by decide, by decide⟩, by decide +kernel⟩
theorem c_X4_keepPiece {l : Launch} {K : Ctx} (hl : l.stackTraces = false) {h : Hp} {a0 : Nat} {i1 : Int32} {i2 : Int32} {t : Rs Unit} (e : f_X4_keepPiece h a0 i1 i2 = some t) : Ctr l K 8 yX4_keepPiece w_X4_keepPiece [.ref a0, .int i1, .int i2] h (tgV t) :=
  Ctr.of hl mf_X4_keepPiece false (fun q => nomatch q) rfl (leb rfl) (p_X4_keepPiece hl e)
/-! ## TableColumnBalancer$Content.joins -/
abbrev mM_X4_joins : Mi := (8, yX4_joins.cls, cX4_joins, 2, (Option.some Jvm.ClassFile.FieldType.boolean), [], false)
noncomputable def f_X4_joins (h : Hp) (a0 : Nat) (i1 : Int32) : Option (Rs Int32) :=
  if i1 = (iN 2) then (
    some (h, .inr (iN 1))
  ) else (
    chk (okr h a0 4) <|
    if (qI h a0 0) = (iN 3) then (
      if i1 = (iN 1) then (
        some (h, .inr (iN 0))
      ) else (
        some (h, .inr (iN 1))
      )
    ) else (
      some (h, .inr (iN 0))
    )
  )
theorem p_X4_joins {l : Launch} {K : Ctx} (hl : l.stackTraces = false) {h : Hp} {a0 : Nat} {i1 : Int32} {t : Rs Int32} (e : f_X4_joins h a0 i1 = some t) : X l K mM_X4_joins (tgI t) 0 [(0, .ref a0), (1, .int i1)] [] h := by
  unfold f_X4_joins at e
  refine x_iload_n (pc := 0) 1 dX4_joins_0 rfl ?_
  refine x_iconst (pc := 1) dX4_joins_1 ?_
  rcases ite_some e with ⟨q1, e⟩ | ⟨q1, e⟩
  · refine x_icmp_eq_t (pc := 2) (t := 18) dX4_joins_2 (by decide) q1 ?_
    refine x_iconst (pc := 18) dX4_joins_18 ?_
    refine x_goto (pc := 19) (t := 23) dX4_joins_19 (by decide) ?_
    cases Option.some.inj e
    exact x_zret (pc := 23) rfl (Or.inr rfl) dX4_joins_23
  · refine x_icmp_eq_f (pc := 2) (t := 18) dX4_joins_2 (by decide) q1 ?_
    refine x_aload_n (pc := 5) 0 dX4_joins_5 rfl ?_
    obtain ⟨q2, e⟩ := chk_some e
    refine x_getI (pc := 6) gf_X4_34 rfl dX4_joins_6 q2 ?_
    refine x_iconst (pc := 9) dX4_joins_9 ?_
    rcases ite_some e with ⟨q3, e⟩ | ⟨q3, e⟩
    · refine x_icmp_ne_f (pc := 10) (t := 22) dX4_joins_10 (by decide) q3 ?_
      refine x_iload_n (pc := 13) 1 dX4_joins_13 rfl ?_
      refine x_iconst (pc := 14) dX4_joins_14 ?_
      rcases ite_some e with ⟨q4, e⟩ | ⟨q4, e⟩
      · refine x_icmp_eq_t (pc := 15) (t := 22) dX4_joins_15 (by decide) q4 ?_
        refine x_iconst (pc := 22) dX4_joins_22 ?_
        cases Option.some.inj e
        exact x_zret (pc := 23) rfl (Or.inl rfl) dX4_joins_23
      · refine x_icmp_eq_f (pc := 15) (t := 22) dX4_joins_15 (by decide) q4 ?_
        refine x_iconst (pc := 18) dX4_joins_18 ?_
        refine x_goto (pc := 19) (t := 23) dX4_joins_19 (by decide) ?_
        cases Option.some.inj e
        exact x_zret (pc := 23) rfl (Or.inr rfl) dX4_joins_23
    · refine x_icmp_ne_t (pc := 10) (t := 22) dX4_joins_10 (by decide) q3 ?_
      refine x_iconst (pc := 22) dX4_joins_22 ?_
      cases Option.some.inj e
      exact x_zret (pc := 23) rfl (Or.inl rfl) dX4_joins_23
abbrev w_X4_joins : Cond := (Cond.code yX4_joins cX4_joins 2 (Option.some Jvm.ClassFile.FieldType.boolean))
theorem mf_X4_joins : MF yX4_joins w_X4_joins cX4_joins 2 (Option.some Jvm.ClassFile.FieldType.boolean) 1 := ⟨⟨rfl, tw_4_56, by decide⟩, tw_1_4, ⟨by decide, by decide⟩, by decide +kernel⟩
theorem c_X4_joins {l : Launch} {K : Ctx} (hl : l.stackTraces = false) {h : Hp} {a0 : Nat} {i1 : Int32} {t : Rs Int32} (e : f_X4_joins h a0 i1 = some t) : Ctr l K 8 yX4_joins w_X4_joins [.ref a0, .int i1] h (tgI t) :=
  Ctr.of hl mf_X4_joins false (fun q => nomatch q) rfl (leb rfl) (p_X4_joins hl e)
/-! ## TableColumnBalancer$Content.settle -/
abbrev mM_X4_settle : Mi := (9, yX4_settle.cls, cX4_settle, 4, (Option.none : Option Jvm.ClassFile.FieldType), [], false)
noncomputable def f_X4_settle_L101 (k26 : Hp → Nat → Int32 → Int32 → Option (Rs Unit)) (h : Hp) (a0 : Nat) (i1 : Int32) (i2 : Int32) : Option (Rs Unit) :=
  k26 h a0 i1 (i2 + iN 1)
theorem p_X4_settle_L101 {l : Launch} {K : Ctx} (hl : l.stackTraces = false) {k26 : Hp → Nat → Int32 → Int32 → Option (Rs Unit)} (hk26 : ∀ (h : Hp) (a0 : Nat) (i1 : Int32) (i2 : Int32) (t : Rs Unit), k26 h a0 i1 i2 = some t → X l K mM_X4_settle (tgV t) 26 [(0, .ref a0), (1, .int i1), (2, .int i2)] [] h) {h : Hp} {a0 : Nat} {i1 : Int32} {i2 : Int32} {t : Rs Unit} (e : f_X4_settle_L101 k26 h a0 i1 i2 = some t) : X l K mM_X4_settle (tgV t) 101 [(0, .ref a0), (1, .int i1), (2, .int i2)] [] h := by
  unfold f_X4_settle_L101 at e
  refine x_iinc (pc := 101) 2 dX4_settle_101 rfl (by decide) rfl ?_
  refine x_goto (pc := 104) (t := 26) dX4_settle_104 (by decide) ?_
  exact x_sub1 (hk26 _ _ _ _ _ e) [1, 2, 0] rfl
noncomputable def f_X4_settle_L88 (k26 : Hp → Nat → Int32 → Int32 → Option (Rs Unit)) (h : Hp) (a0 : Nat) (i2 : Int32) (s0 : Int32) (s1 : Int32) : Option (Rs Unit) :=
  f_X4_settle_L101 k26 h a0 (s1 + s0) i2
theorem p_X4_settle_L88 {l : Launch} {K : Ctx} (hl : l.stackTraces = false) {k26 : Hp → Nat → Int32 → Int32 → Option (Rs Unit)} (hk26 : ∀ (h : Hp) (a0 : Nat) (i1 : Int32) (i2 : Int32) (t : Rs Unit), k26 h a0 i1 i2 = some t → X l K mM_X4_settle (tgV t) 26 [(0, .ref a0), (1, .int i1), (2, .int i2)] [] h) {h : Hp} {a0 : Nat} {i2 : Int32} {s0 : Int32} {s1 : Int32} {t : Rs Unit} (e : f_X4_settle_L88 k26 h a0 i2 s0 s1 = some t) : X l K mM_X4_settle (tgV t) 88 [(0, .ref a0), (2, .int i2)] [.int s0, .int s1] h := by
  unfold f_X4_settle_L88 at e
  refine x_iadd (pc := 88) dX4_settle_88 ?_
  refine x_istore_n (pc := 89) dX4_settle_89 (by decide) rfl ?_
  refine x_goto (pc := 90) (t := 101) dX4_settle_90 (by decide) ?_
  exact x_sub1 (p_X4_settle_L101 hl hk26 e) [1, 0, 2] rfl
noncomputable def f_X4_settle_B26 (k26 : Hp → Nat → Int32 → Int32 → Option (Rs Unit)) (h : Hp) (a0 : Nat) (i1 : Int32) (i2 : Int32) : Option (Rs Unit) :=
  chk (okr h a0 4) <|
  if (qI h a0 3) ≤ i2 then (
    chk (okr h (qR h a0 12) 20) <|
    bnd (f_J7_fill_53178 h (qR h a0 12) (iN (-1))) fun h4 _ =>
    some (h4, .inr ())
  ) else (
    chk (okr h (qR h a0 5) 20) <|
    chk (vp_in i2 (qW h (qR h a0 5))) <|
    chk (okr h (qR h a0 6) 20) <|
    chk (vp_in i2 (qW h (qR h a0 6))) <|
    if i2 = ((qI h a0 3) - (iN 1)) then (
      bnd (f_X4_keepPiece h a0 (i1 + (qI h (qR h a0 5) (Int32.toNatClampNeg i2))) (iN 1)) fun h11 _ =>
      f_X4_settle_L101 k26 h11 a0 (i1 + (qI h (qR h a0 5) (Int32.toNatClampNeg i2))) i2
    ) else (
      bnd (f_X4_joins h a0 (qI h (qR h a0 6) (Int32.toNatClampNeg i2))) fun h13 r14 =>
      if r14 = 0 then (
        chk (okr h13 a0 4) <|
        bnd (f_X4_keepPiece h13 a0 (i1 + (qI h (qR h a0 5) (Int32.toNatClampNeg i2))) (qI h (qR h a0 6) (Int32.toNatClampNeg i2))) fun h17 _ =>
        f_X4_settle_L101 k26 h17 a0 (iN 0) i2
      ) else (
        if (qI h (qR h a0 6) (Int32.toNatClampNeg i2)) = (iN 3) then (
          f_X4_settle_L88 k26 h13 a0 i2 (iN 0) (i1 + (qI h (qR h a0 5) (Int32.toNatClampNeg i2)))
        ) else (
          f_X4_settle_L88 k26 h13 a0 i2 (iN 1) (i1 + (qI h (qR h a0 5) (Int32.toNatClampNeg i2)))
        )
      )
    )
  )
theorem p_X4_settle_B26 {l : Launch} {K : Ctx} (hl : l.stackTraces = false) {k26 : Hp → Nat → Int32 → Int32 → Option (Rs Unit)} (hk26 : ∀ (h : Hp) (a0 : Nat) (i1 : Int32) (i2 : Int32) (t : Rs Unit), k26 h a0 i1 i2 = some t → X l K mM_X4_settle (tgV t) 26 [(0, .ref a0), (1, .int i1), (2, .int i2)] [] h) {h : Hp} {a0 : Nat} {i1 : Int32} {i2 : Int32} {t : Rs Unit} (e : f_X4_settle_B26 k26 h a0 i1 i2 = some t) : X l K mM_X4_settle (tgV t) 26 [(0, .ref a0), (1, .int i1), (2, .int i2)] [] h := by
  unfold f_X4_settle_B26 at e
  refine x_iload_n (pc := 26) 2 dX4_settle_26 rfl ?_
  refine x_aload_n (pc := 27) 0 dX4_settle_27 rfl ?_
  obtain ⟨q1, e⟩ := chk_some e
  refine x_getI (pc := 28) gf_X4_44 rfl dX4_settle_28 q1 ?_
  rcases ite_some e with ⟨q2, e⟩ | ⟨q2, e⟩
  · refine x_icmp_ge_t (pc := 31) (t := 107) dX4_settle_31 (by decide) q2 ?_
    refine x_aload_n (pc := 107) 0 dX4_settle_107 rfl ?_
    obtain ⟨q3, e⟩ := chk_some e
    refine x_getR (pc := 108) gf_X4_31 rfl dX4_settle_108 q1 q3.1 ?_
    refine x_iconst (pc := 111) dX4_settle_111 ?_
    rcases bnd_some e with ⟨h4, r5, ec, rfl⟩ | ⟨h4, r5, ec, e⟩
    · exact y_callS_x (pc := 112) (c_J7_fill_53178 hl ec) mf_J7_fill_53178 tw_2_195 lf_X4_73 dX4_settle_112 (by decide) rfl rfl (leb rfl) (xx_out0 rfl)
    refine y_callS_v (pc := 112) (c_J7_fill_53178 hl ec) mf_J7_fill_53178 tw_2_195 lf_X4_73 dX4_settle_112 (by decide) rfl rfl (leb rfl) ?_
    cases Option.some.inj e
    exact x_vret (pc := 115) rfl dX4_settle_115
  · refine x_icmp_ge_f (pc := 31) (t := 107) dX4_settle_31 (by decide) q2 ?_
    refine x_iload_n (pc := 34) 1 dX4_settle_34 rfl ?_
    refine x_aload_n (pc := 35) 0 dX4_settle_35 rfl ?_
    obtain ⟨q6, e⟩ := chk_some e
    refine x_getR (pc := 36) gf_X4_9 rfl dX4_settle_36 q1 q6.1 ?_
    refine x_iload_n (pc := 39) 2 dX4_settle_39 rfl ?_
    obtain ⟨q7, e⟩ := chk_some e
    refine x_iald (pc := 40) dX4_settle_40 q6 q7 ?_
    refine x_iadd (pc := 41) dX4_settle_41 ?_
    refine x_istore_n (pc := 42) dX4_settle_42 (by decide) rfl ?_
    refine x_aload_n (pc := 43) 1 dX4_settle_43 rfl ?_
    obtain ⟨q8, e⟩ := chk_some e
    refine x_getR (pc := 44) gf_X4_15 rfl dX4_settle_44 q1 q8.1 ?_
    refine x_iload_n (pc := 47) 2 dX4_settle_47 rfl ?_
    obtain ⟨q9, e⟩ := chk_some e
    refine x_iald (pc := 48) dX4_settle_48 q8 q9 ?_
    refine x_istore_n (pc := 49) dX4_settle_49 (by decide) rfl ?_
    refine x_iload_n (pc := 50) 3 dX4_settle_50 rfl ?_
    refine x_aload_n (pc := 51) 2 dX4_settle_51 rfl ?_
    refine x_getI (pc := 52) gf_X4_44 rfl dX4_settle_52 q1 ?_
    refine x_iconst (pc := 55) dX4_settle_55 ?_
    refine x_isub (pc := 56) dX4_settle_56 ?_
    rcases ite_some e with ⟨q10, e⟩ | ⟨q10, e⟩
    · refine x_icmp_ne_f (pc := 57) (t := 69) dX4_settle_57 (by decide) q10 ?_
      refine x_aload_n (pc := 60) 2 dX4_settle_60 rfl ?_
      refine x_iload_n (pc := 61) 1 dX4_settle_61 rfl ?_
      refine x_iconst (pc := 62) dX4_settle_62 ?_
      rcases bnd_some e with ⟨h11, r12, ec, rfl⟩ | ⟨h11, r12, ec, e⟩
      · exact y_callV_x (pc := 63) (c_X4_keepPiece hl ec) q1 mf_X4_keepPiece tw_4_51 ts_3_12 lf_X4_66 rfl rfl dX4_settle_63 (by decide) rfl rfl (leb rfl) (xx_out0 rfl)
      refine y_callV_v (pc := 63) (c_X4_keepPiece hl ec) q1 mf_X4_keepPiece tw_4_51 ts_3_12 lf_X4_66 rfl rfl dX4_settle_63 (by decide) rfl rfl (leb rfl) ?_
      refine x_goto (pc := 66) (t := 101) dX4_settle_66 (by decide) ?_
      exact x_sub1 (p_X4_settle_L101 hl hk26 e) [2, 1, 3] rfl
    · refine x_icmp_ne_t (pc := 57) (t := 69) dX4_settle_57 (by decide) q10 ?_
      refine x_aload_n (pc := 69) 2 dX4_settle_69 rfl ?_
      refine x_iload_n (pc := 70) 0 dX4_settle_70 rfl ?_
      rcases bnd_some e with ⟨h13, r14, ec, rfl⟩ | ⟨h13, r14, ec, e⟩
      · exact y_callV_x (pc := 71) (c_X4_joins hl ec) q1 mf_X4_joins tw_4_55 ts_3_13 lf_X4_69 rfl rfl dX4_settle_71 (by decide) rfl rfl (leb rfl) (xx_out0 rfl)
      refine y_callV_i (pc := 71) (c_X4_joins hl ec) q1 mf_X4_joins tw_4_55 ts_3_13 lf_X4_69 rfl rfl dX4_settle_71 (by decide) rfl rfl (leb rfl) ?_
      rcases ite_some e with ⟨q15, e⟩ | ⟨q15, e⟩
      · refine x_if_eq_t (pc := 74) (t := 93) dX4_settle_74 (by decide) q15 ?_
        refine x_aload_n (pc := 93) 2 dX4_settle_93 rfl ?_
        refine x_iload_n (pc := 94) 1 dX4_settle_94 rfl ?_
        refine x_iload_n (pc := 95) 0 dX4_settle_95 rfl ?_
        obtain ⟨q16, e⟩ := chk_some e
        rcases bnd_some e with ⟨h17, r18, ec, rfl⟩ | ⟨h17, r18, ec, e⟩
        · exact y_callV_x (pc := 96) (c_X4_keepPiece hl ec) q16 mf_X4_keepPiece tw_4_51 ts_3_12 lf_X4_66 rfl rfl dX4_settle_96 (by decide) rfl rfl (leb rfl) (xx_out0 rfl)
        refine y_callV_v (pc := 96) (c_X4_keepPiece hl ec) q16 mf_X4_keepPiece tw_4_51 ts_3_12 lf_X4_66 rfl rfl dX4_settle_96 (by decide) rfl rfl (leb rfl) ?_
        refine x_iconst (pc := 99) dX4_settle_99 ?_
        refine x_istore_n (pc := 100) dX4_settle_100 (by decide) rfl ?_
        exact x_sub1 (p_X4_settle_L101 hl hk26 e) [2, 0, 3] rfl
      · refine x_if_eq_f (pc := 74) (t := 93) dX4_settle_74 (by decide) q15 ?_
        refine x_iload_n (pc := 77) 1 dX4_settle_77 rfl ?_
        refine x_iload_n (pc := 78) 0 dX4_settle_78 rfl ?_
        refine x_iconst (pc := 79) dX4_settle_79 ?_
        rcases ite_some e with ⟨q19, e⟩ | ⟨q19, e⟩
        · refine x_icmp_ne_f (pc := 80) (t := 87) dX4_settle_80 (by decide) q19 ?_
          refine x_iconst (pc := 83) dX4_settle_83 ?_
          refine x_goto (pc := 84) (t := 88) dX4_settle_84 (by decide) ?_
          exact x_sub1 (p_X4_settle_L88 hl hk26 e) [2, 3] rfl
        · refine x_icmp_ne_t (pc := 80) (t := 87) dX4_settle_80 (by decide) q19 ?_
          refine x_iconst (pc := 87) dX4_settle_87 ?_
          exact x_sub1 (p_X4_settle_L88 hl hk26 e) [2, 3] rfl
noncomputable def f_X4_settle_L26 (n : Nat) : Hp → Nat → Int32 → Int32 → Option (Rs Unit) := Nat.rec (motive := fun _ => Hp → Nat → Int32 → Int32 → Option (Rs Unit)) (fun _ _ _ _ => none) (fun _ r => f_X4_settle_B26 r) n
theorem p_X4_settle_L26 {l : Launch} {K : Ctx} (hl : l.stackTraces = false) : ∀ (n : Nat) (h : Hp) (a0 : Nat) (i1 : Int32) (i2 : Int32) (t : Rs Unit) (e : f_X4_settle_L26 n h a0 i1 i2 = some t), X l K mM_X4_settle (tgV t) 26 [(0, .ref a0), (1, .int i1), (2, .int i2)] [] h := by
  intro n
  induction n with
  | zero => exact fun _ _ _ _ _ e => nomatch (show (none : Option (Rs Unit)) = some _ from e)
  | succ n ih => exact fun h a0 i1 i2 t e => p_X4_settle_B26 hl (fun h a0 i1 i2 t e => ih h a0 i1 i2 t e) e
noncomputable def f_X4_settle_L14 (h : Hp) (a0 : Nat) (s0 : Int32) (s1 : Nat) : Option (Rs Unit) :=
  chk (okr h s1 4) <|
  lt (putI h s1 4 s0) fun h2 =>
  chk (okr h2 a0 4) <|
  lt (putI h2 a0 7 (iN 0)) fun h4 =>
  f_X4_settle_L26 2000 h4 a0 (iN 0) (iN 0)
theorem p_X4_settle_L14 {l : Launch} {K : Ctx} (hl : l.stackTraces = false) {h : Hp} {a0 : Nat} {s0 : Int32} {s1 : Nat} {t : Rs Unit} (e : f_X4_settle_L14 h a0 s0 s1 = some t) : X l K mM_X4_settle (tgV t) 14 [(0, .ref a0)] [.int s0, .ref s1] h := by
  unfold f_X4_settle_L14 at e
  obtain ⟨q1, e⟩ := chk_some e
  replace e := lt_go e
  refine x_putI (pc := 14) pf_X4_50 rfl rfl rfl dX4_settle_14 q1 ?_
  refine x_aload_n (pc := 17) 0 dX4_settle_17 rfl ?_
  refine x_iconst (pc := 18) dX4_settle_18 ?_
  obtain ⟨q3, e⟩ := chk_some e
  replace e := lt_go e
  refine x_putI (pc := 19) pf_X4_53 rfl rfl rfl dX4_settle_19 q3 ?_
  refine x_iconst (pc := 22) dX4_settle_22 ?_
  refine x_istore_n (pc := 23) dX4_settle_23 (by decide) rfl ?_
  refine x_iconst (pc := 24) dX4_settle_24 ?_
  refine x_istore_n (pc := 25) dX4_settle_25 (by decide) rfl ?_
  exact x_sub1 (p_X4_settle_L26 hl 2000 _ _ _ _ _ e) [2, 1, 0] rfl
noncomputable def f_X4_settle (h : Hp) (a0 : Nat) : Option (Rs Unit) :=
  chk (okr h a0 4) <|
  if (qI h a0 0) = (iN 2) then (
    f_X4_settle_L14 h a0 (iN 2) a0
  ) else (
    f_X4_settle_L14 h a0 (iN 0) a0
  )
theorem p_X4_settle {l : Launch} {K : Ctx} (hl : l.stackTraces = false) {h : Hp} {a0 : Nat} {t : Rs Unit} (e : f_X4_settle h a0 = some t) : X l K mM_X4_settle (tgV t) 0 [(0, .ref a0)] [] h := by
  unfold f_X4_settle at e
  refine x_aload_n (pc := 0) 0 dX4_settle_0 rfl ?_
  refine x_aload_n (pc := 1) 0 dX4_settle_1 rfl ?_
  obtain ⟨q1, e⟩ := chk_some e
  refine x_getI (pc := 2) gf_X4_34 rfl dX4_settle_2 q1 ?_
  refine x_iconst (pc := 5) dX4_settle_5 ?_
  rcases ite_some e with ⟨q2, e⟩ | ⟨q2, e⟩
  · refine x_icmp_ne_f (pc := 6) (t := 13) dX4_settle_6 (by decide) q2 ?_
    refine x_iconst (pc := 9) dX4_settle_9 ?_
    refine x_goto (pc := 10) (t := 14) dX4_settle_10 (by decide) ?_
    exact p_X4_settle_L14 hl e
  · refine x_icmp_ne_t (pc := 6) (t := 13) dX4_settle_6 (by decide) q2 ?_
    refine x_iconst (pc := 13) dX4_settle_13 ?_
    exact p_X4_settle_L14 hl e
abbrev w_X4_settle : Cond := (Cond.code yX4_settle cX4_settle 4 (Option.none : Option Jvm.ClassFile.FieldType))
theorem mf_X4_settle : MF yX4_settle w_X4_settle cX4_settle 4 (Option.none : Option Jvm.ClassFile.FieldType) 0 := ⟨⟨rfl, tw_4_48, by decide⟩, tw_1_4, ⟨by decide, by decide⟩, by decide +kernel⟩
theorem c_X4_settle {l : Launch} {K : Ctx} (hl : l.stackTraces = false) {h : Hp} {a0 : Nat} {t : Rs Unit} (e : f_X4_settle h a0 = some t) : Ctr l K 9 yX4_settle w_X4_settle [.ref a0] h (tgV t) :=
  Ctr.of hl mf_X4_settle false (fun q => nomatch q) rfl (leb rfl) (p_X4_settle hl e)
/-! ## TableColumnBalancer$Content.begin -/
abbrev mM_X4_begin : Mi := (10, yX4_begin.cls, cX4_begin, 2, (Option.none : Option Jvm.ClassFile.FieldType), [], false)
noncomputable def f_X4_begin (h : Hp) (a0 : Nat) (i1 : Int32) : Option (Rs Unit) :=
  chk (okr h a0 4) <|
  lt (putI h a0 0 i1) fun h2 =>
  lt (putI h2 a0 1 (iN 1)) fun h3 =>
  lt (putI h3 a0 2 (iN 1)) fun h4 =>
  lt (putI h4 a0 3 (iN 0)) fun h5 =>
  bnd (f_X4_settle h5 a0) fun h6 _ =>
  some (h6, .inr ())
theorem p_X4_begin {l : Launch} {K : Ctx} (hl : l.stackTraces = false) {h : Hp} {a0 : Nat} {i1 : Int32} {t : Rs Unit} (e : f_X4_begin h a0 i1 = some t) : X l K mM_X4_begin (tgV t) 0 [(0, .ref a0), (1, .int i1)] [] h := by
  unfold f_X4_begin at e
  refine x_aload_n (pc := 0) 0 dX4_begin_0 rfl ?_
  refine x_iload_n (pc := 1) 1 dX4_begin_1 rfl ?_
  obtain ⟨q1, e⟩ := chk_some e
  replace e := lt_go e
  refine x_putI (pc := 2) pf_X4_34 rfl rfl rfl dX4_begin_2 q1 ?_
  refine x_aload_n (pc := 5) 0 dX4_begin_5 rfl ?_
  refine x_iconst (pc := 6) dX4_begin_6 ?_
  replace e := lt_go e
  refine x_putI (pc := 7) pf_X4_38 rfl rfl rfl dX4_begin_7 (okr_pI q1) ?_
  refine x_aload_n (pc := 10) 0 dX4_begin_10 rfl ?_
  refine x_iconst (pc := 11) dX4_begin_11 ?_
  replace e := lt_go e
  refine x_putI (pc := 12) pf_X4_41 rfl rfl rfl dX4_begin_12 (okr_pI (okr_pI q1)) ?_
  refine x_aload_n (pc := 15) 0 dX4_begin_15 rfl ?_
  refine x_iconst (pc := 16) dX4_begin_16 ?_
  replace e := lt_go e
  refine x_putI (pc := 17) pf_X4_44 rfl rfl rfl dX4_begin_17 (okr_pI (okr_pI (okr_pI q1))) ?_
  refine x_aload_n (pc := 20) 0 dX4_begin_20 rfl ?_
  rcases bnd_some e with ⟨h6, r7, ec, rfl⟩ | ⟨h6, r7, ec, e⟩
  · exact y_callV_x (pc := 21) (c_X4_settle hl ec) (okr_pI (okr_pI (okr_pI (okr_pI q1)))) mf_X4_settle tw_4_47 ts_3_11 lf_X4_47 rfl rfl dX4_begin_21 (by decide) rfl rfl (leb rfl) (xx_out0 rfl)
  refine y_callV_v (pc := 21) (c_X4_settle hl ec) (okr_pI (okr_pI (okr_pI (okr_pI q1)))) mf_X4_settle tw_4_47 ts_3_11 lf_X4_47 rfl rfl dX4_begin_21 (by decide) rfl rfl (leb rfl) ?_
  cases Option.some.inj e
  exact x_vret (pc := 24) rfl dX4_begin_24
abbrev w_X4_begin : Cond := (Cond.code yX4_begin cX4_begin 2 (Option.none : Option Jvm.ClassFile.FieldType))
theorem mf_X4_begin : MF yX4_begin w_X4_begin cX4_begin 2 (Option.none : Option Jvm.ClassFile.FieldType) 1 := ⟨⟨rfl, tw_4_44, by decide⟩, tw_1_4, ⟨by decide, by decide⟩, by decide +kernel⟩
theorem c_X4_begin {l : Launch} {K : Ctx} (hl : l.stackTraces = false) {h : Hp} {a0 : Nat} {i1 : Int32} {t : Rs Unit} (e : f_X4_begin h a0 i1 = some t) : Ctr l K 10 yX4_begin w_X4_begin [.ref a0, .int i1] h (tgV t) :=
  Ctr.of hl mf_X4_begin false (fun q => nomatch q) rfl (leb rfl) (p_X4_begin hl e)
/-! ## TableColumnBalancer.addCell -/
abbrev mM_X8_addCell : Mi := (14, yX8_addCell.cls, cX8_addCell, 5, (Option.some Jvm.ClassFile.FieldType.int), [], false)
noncomputable def f_X8_addCell (h : Hp) (a0 : Nat) (i1 : Int32) (i2 : Int32) (i3 : Int32) (i4 : Int32) : Option (Rs Int32) :=
  chk (okr h a0 8) <|
  bnd (f_X8_requireRow h a0 i1) fun h2 _ =>
  chk (okr h2 a0 8) <|
  bnd (f_X8_requireColumn h2 a0 i2) fun h5 _ =>
  bnd (f_X8_isWithin h5 i4 (iN 0) (iN 5)) fun h7 r8 =>
  bnd (f_X8_requireArgument h7 r8) fun h9 _ =>
  chk (okr h9 a0 8) <|
  chk (okr h9 (qR h9 a0 0) 7) <|
  bnd (f_X8_isWithin h9 i3 (iN 1) ((qI h9 (qR h9 a0 0) 3) - i2)) fun h13 r14 =>
  bnd (f_X8_requireArgument h13 r14) fun h15 _ =>
  chk (okr h15 a0 8) <|
  chk (okr h15 (qR h15 a0 0) 7) <|
  bnd (f_X7_hasRoom h15 (qR h15 a0 0) i1 i2 i3) fun h19 r20 =>
  bnd (f_X8_requireState h19 r20) fun h21 _ =>
  chk (okr h21 a0 8) <|
  chk (okr h21 (qR h21 a0 0) 7) <|
  bnd (f_X7_place h21 (qR h21 a0 0) i1 i2 i3) fun h25 r26 =>
  chk (okr h25 r26 4) <|
  bnd (f_X4_begin h25 r26 i4) fun h28 _ =>
  chk (okr h28 a0 8) <|
  bnd (f_X8_changed h28 a0) fun h31 _ =>
  chk (okr h31 a0 8) <|
  chk (okr h31 (qR h31 a0 0) 7) <|
  some (h31, .inr ((qI h31 (qR h31 a0 0) 5) - (iN 1)))
theorem p_X8_addCell {l : Launch} {K : Ctx} (hl : l.stackTraces = false) {h : Hp} {a0 : Nat} {i1 : Int32} {i2 : Int32} {i3 : Int32} {i4 : Int32} {t : Rs Int32} (e : f_X8_addCell h a0 i1 i2 i3 i4 = some t) : X l K mM_X8_addCell (tgI t) 0 [(0, .ref a0), (1, .int i1), (2, .int i2), (3, .int i3), (4, .int i4)] [] h := by
  unfold f_X8_addCell at e
  refine x_aload_n (pc := 0) 0 dX8_addCell_0 rfl ?_
  refine x_iload_n (pc := 1) 1 dX8_addCell_1 rfl ?_
  obtain ⟨q1, e⟩ := chk_some e
  rcases bnd_some e with ⟨h2, r3, ec, rfl⟩ | ⟨h2, r3, ec, e⟩
  · exact y_callV_x (pc := 2) (c_X8_requireRow hl ec) q1 mf_X8_requireRow tw_4_30 ts_3_7 lf_X8_124 rfl rfl dX8_addCell_2 (by decide) rfl rfl (leb rfl) (xx_out0 rfl)
  refine y_callV_v (pc := 2) (c_X8_requireRow hl ec) q1 mf_X8_requireRow tw_4_30 ts_3_7 lf_X8_124 rfl rfl dX8_addCell_2 (by decide) rfl rfl (leb rfl) ?_
  refine x_aload_n (pc := 5) 0 dX8_addCell_5 rfl ?_
  refine x_iload_n (pc := 6) 2 dX8_addCell_6 rfl ?_
  obtain ⟨q4, e⟩ := chk_some e
  rcases bnd_some e with ⟨h5, r6, ec, rfl⟩ | ⟨h5, r6, ec, e⟩
  · exact y_callV_x (pc := 7) (c_X8_requireColumn hl ec) q4 mf_X8_requireColumn tw_4_11 ts_3_6 lf_X8_108 rfl rfl dX8_addCell_7 (by decide) rfl rfl (leb rfl) (xx_out0 rfl)
  refine y_callV_v (pc := 7) (c_X8_requireColumn hl ec) q4 mf_X8_requireColumn tw_4_11 ts_3_6 lf_X8_108 rfl rfl dX8_addCell_7 (by decide) rfl rfl (leb rfl) ?_
  refine x_iload (pc := 10) 4 dX8_addCell_10 rfl ?_
  refine x_iconst (pc := 12) dX8_addCell_12 ?_
  refine x_iconst (pc := 13) dX8_addCell_13 ?_
  rcases bnd_some e with ⟨h7, r8, ec, rfl⟩ | ⟨h7, r8, ec, e⟩
  · exact y_callS_x (pc := 14) (c_X8_isWithin hl ec) mf_X8_isWithin tw_3_26 lf_X8_72 dX8_addCell_14 (by decide) rfl rfl (leb rfl) (xx_out0 rfl)
  refine y_callS_i (pc := 14) (c_X8_isWithin hl ec) mf_X8_isWithin tw_3_26 lf_X8_72 dX8_addCell_14 (by decide) rfl rfl (leb rfl) ?_
  rcases bnd_some e with ⟨h9, r10, ec, rfl⟩ | ⟨h9, r10, ec, e⟩
  · exact y_callS_x (pc := 17) (c_X8_requireArgument hl ec) mf_X8_requireArgument tw_3_84 lf_X8_76 dX8_addCell_17 (by decide) rfl rfl (leb rfl) (xx_out0 rfl)
  refine y_callS_v (pc := 17) (c_X8_requireArgument hl ec) mf_X8_requireArgument tw_3_84 lf_X8_76 dX8_addCell_17 (by decide) rfl rfl (leb rfl) ?_
  refine x_iload_n (pc := 20) 3 dX8_addCell_20 rfl ?_
  refine x_iconst (pc := 21) dX8_addCell_21 ?_
  refine x_aload_n (pc := 22) 0 dX8_addCell_22 rfl ?_
  obtain ⟨q11, e⟩ := chk_some e
  obtain ⟨q12, e⟩ := chk_some e
  refine x_getR (pc := 23) gf_X8_10 rfl dX8_addCell_23 q11 q12.1 ?_
  refine x_getI (pc := 26) gf_X8_87 rfl dX8_addCell_26 q12 ?_
  refine x_iload_n (pc := 29) 2 dX8_addCell_29 rfl ?_
  refine x_isub (pc := 30) dX8_addCell_30 ?_
  rcases bnd_some e with ⟨h13, r14, ec, rfl⟩ | ⟨h13, r14, ec, e⟩
  · exact y_callS_x (pc := 31) (c_X8_isWithin hl ec) mf_X8_isWithin tw_3_26 lf_X8_72 dX8_addCell_31 (by decide) rfl rfl (leb rfl) (xx_out0 rfl)
  refine y_callS_i (pc := 31) (c_X8_isWithin hl ec) mf_X8_isWithin tw_3_26 lf_X8_72 dX8_addCell_31 (by decide) rfl rfl (leb rfl) ?_
  rcases bnd_some e with ⟨h15, r16, ec, rfl⟩ | ⟨h15, r16, ec, e⟩
  · exact y_callS_x (pc := 34) (c_X8_requireArgument hl ec) mf_X8_requireArgument tw_3_84 lf_X8_76 dX8_addCell_34 (by decide) rfl rfl (leb rfl) (xx_out0 rfl)
  refine y_callS_v (pc := 34) (c_X8_requireArgument hl ec) mf_X8_requireArgument tw_3_84 lf_X8_76 dX8_addCell_34 (by decide) rfl rfl (leb rfl) ?_
  refine x_aload_n (pc := 37) 0 dX8_addCell_37 rfl ?_
  obtain ⟨q17, e⟩ := chk_some e
  obtain ⟨q18, e⟩ := chk_some e
  refine x_getR (pc := 38) gf_X8_10 rfl dX8_addCell_38 q17 q18.1 ?_
  refine x_iload_n (pc := 41) 1 dX8_addCell_41 rfl ?_
  refine x_iload_n (pc := 42) 2 dX8_addCell_42 rfl ?_
  refine x_iload_n (pc := 43) 3 dX8_addCell_43 rfl ?_
  rcases bnd_some e with ⟨h19, r20, ec, rfl⟩ | ⟨h19, r20, ec, e⟩
  · exact y_callV_x (pc := 44) (c_X7_hasRoom hl ec) q18 mf_X7_hasRoom tw_4_34 ts_3_8 lf_X8_127 rfl rfl dX8_addCell_44 (by decide) rfl rfl (leb rfl) (xx_out0 rfl)
  refine y_callV_i (pc := 44) (c_X7_hasRoom hl ec) q18 mf_X7_hasRoom tw_4_34 ts_3_8 lf_X8_127 rfl rfl dX8_addCell_44 (by decide) rfl rfl (leb rfl) ?_
  rcases bnd_some e with ⟨h21, r22, ec, rfl⟩ | ⟨h21, r22, ec, e⟩
  · exact y_callS_x (pc := 47) (c_X8_requireState hl ec) mf_X8_requireState tw_3_155 lf_X8_84 dX8_addCell_47 (by decide) rfl rfl (leb rfl) (xx_out0 rfl)
  refine y_callS_v (pc := 47) (c_X8_requireState hl ec) mf_X8_requireState tw_3_155 lf_X8_84 dX8_addCell_47 (by decide) rfl rfl (leb rfl) ?_
  refine x_aload_n (pc := 50) 0 dX8_addCell_50 rfl ?_
  obtain ⟨q23, e⟩ := chk_some e
  obtain ⟨q24, e⟩ := chk_some e
  refine x_getR (pc := 51) gf_X8_10 rfl dX8_addCell_51 q23 q24.1 ?_
  refine x_iload_n (pc := 54) 1 dX8_addCell_54 rfl ?_
  refine x_iload_n (pc := 55) 2 dX8_addCell_55 rfl ?_
  refine x_iload_n (pc := 56) 3 dX8_addCell_56 rfl ?_
  rcases bnd_some e with ⟨h25, r26, ec, rfl⟩ | ⟨h25, r26, ec, e⟩
  · exact y_callV_x (pc := 57) (c_X7_place hl ec) q24 mf_X7_place tw_4_39 ts_3_9 lf_X8_130 rfl rfl dX8_addCell_57 (by decide) rfl rfl (leb rfl) (xx_out0 rfl)
  refine y_callV_i (pc := 57) (c_X7_place hl ec) q24 mf_X7_place tw_4_39 ts_3_9 lf_X8_130 rfl rfl dX8_addCell_57 (by decide) rfl rfl (leb rfl) ?_
  refine x_iload (pc := 60) 4 dX8_addCell_60 rfl ?_
  obtain ⟨q27, e⟩ := chk_some e
  rcases bnd_some e with ⟨h28, r29, ec, rfl⟩ | ⟨h28, r29, ec, e⟩
  · exact y_callV_x (pc := 62) (c_X4_begin hl ec) q27 mf_X4_begin tw_4_43 ts_3_10 lf_X8_134 rfl rfl dX8_addCell_62 (by decide) rfl rfl (leb rfl) (xx_out0 rfl)
  refine y_callV_v (pc := 62) (c_X4_begin hl ec) q27 mf_X4_begin tw_4_43 ts_3_10 lf_X8_134 rfl rfl dX8_addCell_62 (by decide) rfl rfl (leb rfl) ?_
  refine x_aload_n (pc := 65) 0 dX8_addCell_65 rfl ?_
  obtain ⟨q30, e⟩ := chk_some e
  rcases bnd_some e with ⟨h31, r32, ec, rfl⟩ | ⟨h31, r32, ec, e⟩
  · exact y_callV_x (pc := 66) (c_X8_changed hl ec) q30 mf_X8_changed tw_3_182 ts_3_5 lf_X8_93 rfl rfl dX8_addCell_66 (by decide) rfl rfl (leb rfl) (xx_out0 rfl)
  refine y_callV_v (pc := 66) (c_X8_changed hl ec) q30 mf_X8_changed tw_3_182 ts_3_5 lf_X8_93 rfl rfl dX8_addCell_66 (by decide) rfl rfl (leb rfl) ?_
  refine x_aload_n (pc := 69) 0 dX8_addCell_69 rfl ?_
  obtain ⟨q33, e⟩ := chk_some e
  obtain ⟨q34, e⟩ := chk_some e
  refine x_getR (pc := 70) gf_X8_10 rfl dX8_addCell_70 q33 q34.1 ?_
  refine x_getI (pc := 73) gf_X8_80 rfl dX8_addCell_73 q34 ?_
  refine x_iconst (pc := 76) dX8_addCell_76 ?_
  refine x_isub (pc := 77) dX8_addCell_77 ?_
  cases Option.some.inj e
  exact x_iret (pc := 78) rfl dX8_addCell_78
abbrev w_X8_addCell : Cond := (Cond.code yX8_addCell cX8_addCell 5 (Option.some Jvm.ClassFile.FieldType.int))
theorem mf_X8_addCell : MF yX8_addCell w_X8_addCell cX8_addCell 5 (Option.some Jvm.ClassFile.FieldType.int) 4 := ⟨⟨rfl, tw_4_27, by decide⟩, tw_1_1, ⟨by decide, by decide⟩, by decide +kernel⟩
theorem c_X8_addCell {l : Launch} {K : Ctx} (hl : l.stackTraces = false) {h : Hp} {a0 : Nat} {i1 : Int32} {i2 : Int32} {i3 : Int32} {i4 : Int32} {t : Rs Int32} (e : f_X8_addCell h a0 i1 i2 i3 i4 = some t) : Ctr l K 14 yX8_addCell w_X8_addCell [.ref a0, .int i1, .int i2, .int i3, .int i4] h (tgI t) :=
  Ctr.of hl mf_X8_addCell false (fun q => nomatch q) rfl (leb rfl) (p_X8_addCell hl e)
/-! ## TableColumnBalancerLaw.addCell -/
abbrev mM_L_addCell : Mi := (15, yL_addCell.cls, cL_addCell, 7, (Option.some Jvm.ClassFile.FieldType.int), [((0 : Nat), (14 : Nat), (17 : Nat), (21 : Nat)), ((0 : Nat), (14 : Nat), (21 : Nat), (13 : Nat)), ((0 : Nat), (14 : Nat), (25 : Nat), (15 : Nat))], false)
noncomputable def f_L_addCell (h : Hp) (a0 : Nat) (i1 : Int32) (i2 : Int32) (i3 : Int32) (i4 : Int32) (a5 : Nat) : Option (Rs Int32) :=
  chk (okr h a0 8) <|
  bndX (f_X8_addCell h a0 i1 i2 i3 i4) (fun h2 r3 => (
    chk (okr h2 a5 21) <|
    chk (vp_in (iN 0) (qW h2 a5)) <|
    lt (putL h2 a5 (Int32.toNatClampNeg (iN 0)) (Int32.toInt64 r3)) fun h6 =>
    some (h6, .inr (iN 0))
  )) fun h2 k =>
  if k = 2 then (
    some (h2, .inr (iN 1))
  ) else
  if k = 1 then (
    some (h2, .inr (iN 2))
  ) else
  if k = 0 then (
    some (h2, .inr (iN 3))
  ) else
  none
theorem p_L_addCell {l : Launch} {K : Ctx} (hl : l.stackTraces = false) {h : Hp} {a0 : Nat} {i1 : Int32} {i2 : Int32} {i3 : Int32} {i4 : Int32} {a5 : Nat} {t : Rs Int32} (e : f_L_addCell h a0 i1 i2 i3 i4 a5 = some t) : X l K mM_L_addCell (tgI t) 0 [(0, .ref a0), (1, .int i1), (2, .int i2), (3, .int i3), (4, .int i4), (5, .ref a5)] [] h := by
  unfold f_L_addCell at e
  refine x_aload (pc := 0) 5 dL_addCell_0 rfl ?_
  refine x_iconst (pc := 2) dL_addCell_2 ?_
  refine x_aload_n (pc := 3) 0 dL_addCell_3 rfl ?_
  refine x_iload_n (pc := 4) 1 dL_addCell_4 rfl ?_
  refine x_iload_n (pc := 5) 2 dL_addCell_5 rfl ?_
  refine x_iload_n (pc := 6) 3 dL_addCell_6 rfl ?_
  refine x_iload (pc := 7) 4 dL_addCell_7 rfl ?_
  obtain ⟨q1, e⟩ := chk_some e
  rcases bndX_some e with ⟨h2, k, ec, e⟩ | ⟨h2, r3, ec, e⟩
  · rcases ite_some e with ⟨q7, e⟩ | ⟨q7, e⟩
    · subst q7
      refine y_callV_x (pc := 9) (c_X8_addCell hl ec) q1 mf_X8_addCell tw_4_25 tw_4_26 lf_L_31 rfl rfl dL_addCell_9 (by decide) rfl rfl (leb rfl) (xx_catchA (pc := 9) [] [(0, 14, 21, 13), (0, 14, 25, 15)] (0, 14, 17, 21) rfl (by decide) (fun _ hz => absurd hz List.not_mem_nil) (by decide) (by decide) tw_3_187 tw_3_229 dL_addCell_17 (by decide) rfl ?_)
      refine x_iconst (pc := 19) dL_addCell_19 ?_
      cases Option.some.inj e
      exact x_iret (pc := 20) rfl dL_addCell_20
    rcases ite_some e with ⟨q8, e⟩ | ⟨q8, e⟩
    · subst q8
      refine y_callV_x (pc := 9) (c_X8_addCell hl ec) q1 mf_X8_addCell tw_4_25 tw_4_26 lf_L_31 rfl rfl dL_addCell_9 (by decide) rfl rfl (leb rfl) (xx_catchA (pc := 9) [(0, 14, 17, 21)] [(0, 14, 25, 15)] (0, 14, 21, 13) rfl (by decide) (List.forall_mem_cons.mpr ⟨⟨by decide, 2, by decide, by decide, tw_3_187⟩, fun _ hz => absurd hz List.not_mem_nil⟩) (by decide) (by decide) tw_3_76 tw_3_88 dL_addCell_21 (by decide) rfl ?_)
      refine x_iconst (pc := 23) dL_addCell_23 ?_
      cases Option.some.inj e
      exact x_iret (pc := 24) rfl dL_addCell_24
    rcases ite_some e with ⟨q9, e⟩ | ⟨q9, e⟩
    · subst q9
      refine y_callV_x (pc := 9) (c_X8_addCell hl ec) q1 mf_X8_addCell tw_4_25 tw_4_26 lf_L_31 rfl rfl dL_addCell_9 (by decide) rfl rfl (leb rfl) (xx_catchA (pc := 9) [(0, 14, 17, 21), (0, 14, 21, 13)] [] (0, 14, 25, 15) rfl (by decide) (List.forall_mem_cons.mpr ⟨⟨by decide, 2, by decide, by decide, tw_3_187⟩, List.forall_mem_cons.mpr ⟨⟨by decide, 1, by decide, by decide, tw_3_76⟩, fun _ hz => absurd hz List.not_mem_nil⟩⟩) (by decide) (by decide) tw_3_77 tw_3_159 dL_addCell_25 (by decide) rfl ?_)
      refine x_iconst (pc := 27) dL_addCell_27 ?_
      cases Option.some.inj e
      exact x_iret (pc := 28) rfl dL_addCell_28
    cases e
  refine y_callV_i (pc := 9) (c_X8_addCell hl ec) q1 mf_X8_addCell tw_4_25 tw_4_26 lf_L_31 rfl rfl dL_addCell_9 (by decide) rfl rfl (leb rfl) ?_
  refine x_i2l (pc := 12) dL_addCell_12 ?_
  obtain ⟨q4, e⟩ := chk_some e
  obtain ⟨q5, e⟩ := chk_some e
  replace e := lt_go e
  refine x_last (pc := 13) dL_addCell_13 q4 q5 ?_
  refine x_goto (pc := 14) (t := 29) dL_addCell_14 (by decide) ?_
  refine x_iconst (pc := 29) dL_addCell_29 ?_
  cases Option.some.inj e
  exact x_iret (pc := 30) rfl dL_addCell_30
abbrev w_L_addCell : Cond := (Cond.codeWith yL_addCell cL_addCell 7 (Option.some Jvm.ClassFile.FieldType.int) [((0 : Nat), (14 : Nat), (17 : Nat), (21 : Nat)), ((0 : Nat), (14 : Nat), (21 : Nat), (13 : Nat)), ((0 : Nat), (14 : Nat), (25 : Nat), (15 : Nat))])
theorem mf_L_addCell : MFX yL_addCell w_L_addCell cL_addCell 7 (Option.some Jvm.ClassFile.FieldType.int) 6 [((0 : Nat), (14 : Nat), (17 : Nat), (21 : Nat)), ((0 : Nat), (14 : Nat), (21 : Nat), (13 : Nat)), ((0 : Nat), (14 : Nat), (25 : Nat), (15 : Nat))] := ⟨⟨rfl, tw_4_23, by decide⟩, tw_1_0, ⟨by decide, by decide⟩, by decide +kernel⟩
theorem c_L_addCell {l : Launch} {K : Ctx} (hl : l.stackTraces = false) {h : Hp} {a0 : Nat} {i1 : Int32} {i2 : Int32} {i3 : Int32} {i4 : Int32} {a5 : Nat} {t : Rs Int32} (e : f_L_addCell h a0 i1 i2 i3 i4 a5 = some t) : Ctr l K 15 yL_addCell w_L_addCell [.ref a0, .int i1, .int i2, .int i3, .int i4, .ref a5] h (tgI t) :=
  Ctr.ofX hl mf_L_addCell rfl (leb rfl) (p_L_addCell hl e)
/-! ## TableColumnBalancerModel.isRow -/
abbrev mM_X9_isRow : Mi := (9, yX9_isRow.cls, cX9_isRow, 2, (Option.some Jvm.ClassFile.FieldType.boolean), [], false)
noncomputable def f_X9_isRow (h : Hp) (a0 : Nat) (i1 : Int32) : Option (Rs Int32) :=
  chk (okr h a0 9) <|
  chk (okr h (qR h a0 1) 20) <|
  chk (vp_in (iN 4) (qW h (qR h a0 1))) <|
  bnd (f_X9_in h i1 (iN 0) ((qI h (qR h a0 1) (Int32.toNatClampNeg (iN 4))) - (iN 1))) fun h4 r5 =>
  chk (r5 = 0 ∨ r5 = 1) <|
  some (h4, .inr r5)
theorem p_X9_isRow {l : Launch} {K : Ctx} (hl : l.stackTraces = false) {h : Hp} {a0 : Nat} {i1 : Int32} {t : Rs Int32} (e : f_X9_isRow h a0 i1 = some t) : X l K mM_X9_isRow (tgI t) 0 [(0, .ref a0), (1, .int i1)] [] h := by
  unfold f_X9_isRow at e
  refine x_iload_n (pc := 0) 1 dX9_isRow_0 rfl ?_
  refine x_iconst (pc := 1) dX9_isRow_1 ?_
  refine x_aload_n (pc := 2) 0 dX9_isRow_2 rfl ?_
  obtain ⟨q1, e⟩ := chk_some e
  obtain ⟨q2, e⟩ := chk_some e
  refine x_getR (pc := 3) gf_X9_9 rfl dX9_isRow_3 q1 q2.1 ?_
  refine x_iconst (pc := 6) dX9_isRow_6 ?_
  obtain ⟨q3, e⟩ := chk_some e
  refine x_iald (pc := 7) dX9_isRow_7 q2 q3 ?_
  refine x_iconst (pc := 8) dX9_isRow_8 ?_
  refine x_isub (pc := 9) dX9_isRow_9 ?_
  rcases bnd_some e with ⟨h4, r5, ec, rfl⟩ | ⟨h4, r5, ec, e⟩
  · exact y_callS_x (pc := 10) (c_X9_in hl ec) mf_X9_in tw_7_20 lf_X9_87 dX9_isRow_10 (by decide) rfl rfl (leb rfl) (xx_out0 rfl)
  refine y_callS_i (pc := 10) (c_X9_in hl ec) mf_X9_in tw_7_20 lf_X9_87 dX9_isRow_10 (by decide) rfl rfl (leb rfl) ?_
  obtain ⟨q6, e⟩ := chk_some e
  cases Option.some.inj e
  exact x_zret (pc := 13) rfl q6 dX9_isRow_13
abbrev w_X9_isRow : Cond := (Cond.code yX9_isRow cX9_isRow 2 (Option.some Jvm.ClassFile.FieldType.boolean))
theorem mf_X9_isRow : MF yX9_isRow w_X9_isRow cX9_isRow 2 (Option.some Jvm.ClassFile.FieldType.boolean) 1 := ⟨⟨rfl, tw_7_52, by decide⟩, tw_1_11, ⟨by decide, by decide⟩, by decide +kernel⟩
theorem c_X9_isRow {l : Launch} {K : Ctx} (hl : l.stackTraces = false) {h : Hp} {a0 : Nat} {i1 : Int32} {t : Rs Int32} (e : f_X9_isRow h a0 i1 = some t) : Ctr l K 9 yX9_isRow w_X9_isRow [.ref a0, .int i1] h (tgI t) :=
  Ctr.of hl mf_X9_isRow false (fun q => nomatch q) rfl (leb rfl) (p_X9_isRow hl e)
/-! ## TableColumnBalancerModel.of -/
abbrev mM_X9_of : Mi := (8, yX9_of.cls, cX9_of, 3, (Option.some Jvm.ClassFile.FieldType.int), [], false)
noncomputable def f_X9_of (h : Hp) (a0 : Nat) (i1 : Int32) (i2 : Int32) : Option (Rs Int32) :=
  chk (okr h a0 9) <|
  chk (okr h (qR h a0 1) 20) <|
  chk (vp_in (((iN 10) + ((iN 31) * i1)) + i2) (qW h (qR h a0 1))) <|
  some (h, .inr (qI h (qR h a0 1) (Int32.toNatClampNeg (((iN 10) + ((iN 31) * i1)) + i2))))
theorem p_X9_of {l : Launch} {K : Ctx} (hl : l.stackTraces = false) {h : Hp} {a0 : Nat} {i1 : Int32} {i2 : Int32} {t : Rs Int32} (e : f_X9_of h a0 i1 i2 = some t) : X l K mM_X9_of (tgI t) 0 [(0, .ref a0), (1, .int i1), (2, .int i2)] [] h := by
  unfold f_X9_of at e
  refine x_aload_n (pc := 0) 0 dX9_of_0 rfl ?_
  obtain ⟨q1, e⟩ := chk_some e
  obtain ⟨q2, e⟩ := chk_some e
  refine x_getR (pc := 1) gf_X9_9 rfl dX9_of_1 q1 q2.1 ?_
  refine x_bipush (pc := 4) (v := iN 10) dX9_of_4 rfl ?_
  refine x_bipush (pc := 6) (v := iN 31) dX9_of_6 rfl ?_
  refine x_iload_n (pc := 8) 1 dX9_of_8 rfl ?_
  refine x_imul (pc := 9) dX9_of_9 ?_
  refine x_iadd (pc := 10) dX9_of_10 ?_
  refine x_iload_n (pc := 11) 2 dX9_of_11 rfl ?_
  refine x_iadd (pc := 12) dX9_of_12 ?_
  obtain ⟨q3, e⟩ := chk_some e
  refine x_iald (pc := 13) dX9_of_13 q2 q3 ?_
  cases Option.some.inj e
  exact x_iret (pc := 14) rfl dX9_of_14
abbrev w_X9_of : Cond := (Cond.code yX9_of cX9_of 3 (Option.some Jvm.ClassFile.FieldType.int))
theorem mf_X9_of : MF yX9_of w_X9_of cX9_of 3 (Option.some Jvm.ClassFile.FieldType.int) 2 := ⟨⟨rfl, tw_7_64, by decide⟩, tw_1_11, ⟨by decide, by decide⟩, by decide +kernel⟩
theorem c_X9_of {l : Launch} {K : Ctx} (hl : l.stackTraces = false) {h : Hp} {a0 : Nat} {i1 : Int32} {i2 : Int32} {t : Rs Int32} (e : f_X9_of h a0 i1 i2 = some t) : Ctr l K 8 yX9_of w_X9_of [.ref a0, .int i1, .int i2] h (tgI t) :=
  Ctr.of hl mf_X9_of false (fun q => nomatch q) rfl (leb rfl) (p_X9_of hl e)
/-! ## TableColumnBalancerModel.atPlace -/
abbrev mM_X9_atPlace : Mi := (9, yX9_atPlace.cls, cX9_atPlace, 6, (Option.some Jvm.ClassFile.FieldType.int), [], false)
noncomputable def f_X9_atPlace_L76 (k5 : Hp → Nat → Int32 → Int32 → Int32 → Int32 → Option (Rs Int32)) (h : Hp) (a0 : Nat) (i1 : Int32) (i2 : Int32) (i4 : Int32) (s0 : Int32) : Option (Rs Int32) :=
  k5 h a0 i1 i2 s0 (i4 + iN 1)
theorem p_X9_atPlace_L76 {l : Launch} {K : Ctx} (hl : l.stackTraces = false) {k5 : Hp → Nat → Int32 → Int32 → Int32 → Int32 → Option (Rs Int32)} (hk5 : ∀ (h : Hp) (a0 : Nat) (i1 : Int32) (i2 : Int32) (i3 : Int32) (i4 : Int32) (t : Rs Int32), k5 h a0 i1 i2 i3 i4 = some t → X l K mM_X9_atPlace (tgI t) 5 [(0, .ref a0), (1, .int i1), (2, .int i2), (3, .int i3), (4, .int i4)] [] h) {h : Hp} {a0 : Nat} {i1 : Int32} {i2 : Int32} {i4 : Int32} {s0 : Int32} {t : Rs Int32} (e : f_X9_atPlace_L76 k5 h a0 i1 i2 i4 s0 = some t) : X l K mM_X9_atPlace (tgI t) 76 [(0, .ref a0), (1, .int i1), (2, .int i2), (4, .int i4)] [.int s0] h := by
  unfold f_X9_atPlace_L76 at e
  refine x_istore_n (pc := 76) dX9_atPlace_76 (by decide) rfl ?_
  refine x_iinc (pc := 77) 4 dX9_atPlace_77 rfl (by decide) rfl ?_
  refine x_goto (pc := 80) (t := 5) dX9_atPlace_80 (by decide) ?_
  exact x_sub1 (hk5 _ _ _ _ _ _ _ e) [2, 3, 4, 1, 0] rfl
noncomputable def f_X9_atPlace_L63 (k5 : Hp → Nat → Int32 → Int32 → Int32 → Int32 → Option (Rs Int32)) (h : Hp) (a0 : Nat) (i1 : Int32) (i2 : Int32) (i3 : Int32) (i4 : Int32) (s0 : Int32) : Option (Rs Int32) :=
  if s0 = 0 then (
    f_X9_atPlace_L76 k5 h a0 i1 i2 i4 i3
  ) else (
    f_X9_atPlace_L76 k5 h a0 i1 i2 i4 i4
  )
theorem p_X9_atPlace_L63 {l : Launch} {K : Ctx} (hl : l.stackTraces = false) {k5 : Hp → Nat → Int32 → Int32 → Int32 → Int32 → Option (Rs Int32)} (hk5 : ∀ (h : Hp) (a0 : Nat) (i1 : Int32) (i2 : Int32) (i3 : Int32) (i4 : Int32) (t : Rs Int32), k5 h a0 i1 i2 i3 i4 = some t → X l K mM_X9_atPlace (tgI t) 5 [(0, .ref a0), (1, .int i1), (2, .int i2), (3, .int i3), (4, .int i4)] [] h) {h : Hp} {a0 : Nat} {i1 : Int32} {i2 : Int32} {i3 : Int32} {i4 : Int32} {s0 : Int32} {t : Rs Int32} (e : f_X9_atPlace_L63 k5 h a0 i1 i2 i3 i4 s0 = some t) : X l K mM_X9_atPlace (tgI t) 63 [(0, .ref a0), (1, .int i1), (2, .int i2), (3, .int i3), (4, .int i4)] [.int s0] h := by
  unfold f_X9_atPlace_L63 at e
  refine x_istore (pc := 63) dX9_atPlace_63 (by decide) rfl ?_
  refine x_iload (pc := 65) 0 dX9_atPlace_65 rfl ?_
  rcases ite_some e with ⟨q1, e⟩ | ⟨q1, e⟩
  · refine x_if_eq_t (pc := 67) (t := 75) dX9_atPlace_67 (by decide) q1 ?_
    refine x_iload_n (pc := 75) 4 dX9_atPlace_75 rfl ?_
    exact x_sub1 (p_X9_atPlace_L76 hl hk5 e) [1, 2, 3, 5] rfl
  · refine x_if_eq_f (pc := 67) (t := 75) dX9_atPlace_67 (by decide) q1 ?_
    refine x_iload (pc := 70) 5 dX9_atPlace_70 rfl ?_
    refine x_goto (pc := 72) (t := 76) dX9_atPlace_72 (by decide) ?_
    exact x_sub1 (p_X9_atPlace_L76 hl hk5 e) [1, 2, 3, 5] rfl
noncomputable def f_X9_atPlace_L62 (k5 : Hp → Nat → Int32 → Int32 → Int32 → Int32 → Option (Rs Int32)) (h : Hp) (a0 : Nat) (i1 : Int32) (i2 : Int32) (i3 : Int32) (i4 : Int32) : Option (Rs Int32) :=
  f_X9_atPlace_L63 k5 h a0 i1 i2 i3 i4 (iN 0)
theorem p_X9_atPlace_L62 {l : Launch} {K : Ctx} (hl : l.stackTraces = false) {k5 : Hp → Nat → Int32 → Int32 → Int32 → Int32 → Option (Rs Int32)} (hk5 : ∀ (h : Hp) (a0 : Nat) (i1 : Int32) (i2 : Int32) (i3 : Int32) (i4 : Int32) (t : Rs Int32), k5 h a0 i1 i2 i3 i4 = some t → X l K mM_X9_atPlace (tgI t) 5 [(0, .ref a0), (1, .int i1), (2, .int i2), (3, .int i3), (4, .int i4)] [] h) {h : Hp} {a0 : Nat} {i1 : Int32} {i2 : Int32} {i3 : Int32} {i4 : Int32} {t : Rs Int32} (e : f_X9_atPlace_L62 k5 h a0 i1 i2 i3 i4 = some t) : X l K mM_X9_atPlace (tgI t) 62 [(0, .ref a0), (1, .int i1), (2, .int i2), (3, .int i3), (4, .int i4)] [] h := by
  unfold f_X9_atPlace_L62 at e
  refine x_iconst (pc := 62) dX9_atPlace_62 ?_
  exact p_X9_atPlace_L63 hl hk5 e
noncomputable def f_X9_atPlace_B5 (k5 : Hp → Nat → Int32 → Int32 → Int32 → Int32 → Option (Rs Int32)) (h : Hp) (a0 : Nat) (i1 : Int32) (i2 : Int32) (i3 : Int32) (i4 : Int32) : Option (Rs Int32) :=
  chk (okr h a0 9) <|
  chk (okr h (qR h a0 1) 20) <|
  chk (vp_in (iN 5) (qW h (qR h a0 1))) <|
  if (qI h (qR h a0 1) (Int32.toNatClampNeg (iN 5))) ≤ i4 then (
    some (h, .inr i3)
  ) else (
    bnd (f_X9_of h a0 i4 (iN 0)) fun h5 r6 =>
    if r6 = i1 then (
      chk (okr h5 a0 9) <|
      bnd (f_X9_of h5 a0 i4 (iN 1)) fun h9 r10 =>
      chk (okr h9 a0 9) <|
      bnd (f_X9_of h9 a0 i4 (iN 1)) fun h12 r13 =>
      chk (okr h12 a0 9) <|
      bnd (f_X9_of h12 a0 i4 (iN 2)) fun h15 r16 =>
      bnd (f_X9_in h15 i2 r10 ((r13 + r16) - (iN 1))) fun h17 r18 =>
      if r18 = 0 then (
        f_X9_atPlace_L62 k5 h17 a0 i1 i2 i3 i4
      ) else (
        f_X9_atPlace_L63 k5 h17 a0 i1 i2 i3 i4 (iN 1)
      )
    ) else (
      f_X9_atPlace_L62 k5 h5 a0 i1 i2 i3 i4
    )
  )
theorem p_X9_atPlace_B5 {l : Launch} {K : Ctx} (hl : l.stackTraces = false) {k5 : Hp → Nat → Int32 → Int32 → Int32 → Int32 → Option (Rs Int32)} (hk5 : ∀ (h : Hp) (a0 : Nat) (i1 : Int32) (i2 : Int32) (i3 : Int32) (i4 : Int32) (t : Rs Int32), k5 h a0 i1 i2 i3 i4 = some t → X l K mM_X9_atPlace (tgI t) 5 [(0, .ref a0), (1, .int i1), (2, .int i2), (3, .int i3), (4, .int i4)] [] h) {h : Hp} {a0 : Nat} {i1 : Int32} {i2 : Int32} {i3 : Int32} {i4 : Int32} {t : Rs Int32} (e : f_X9_atPlace_B5 k5 h a0 i1 i2 i3 i4 = some t) : X l K mM_X9_atPlace (tgI t) 5 [(0, .ref a0), (1, .int i1), (2, .int i2), (3, .int i3), (4, .int i4)] [] h := by
  unfold f_X9_atPlace_B5 at e
  refine x_iload (pc := 5) 4 dX9_atPlace_5 rfl ?_
  refine x_aload_n (pc := 7) 0 dX9_atPlace_7 rfl ?_
  obtain ⟨q1, e⟩ := chk_some e
  obtain ⟨q2, e⟩ := chk_some e
  refine x_getR (pc := 8) gf_X9_9 rfl dX9_atPlace_8 q1 q2.1 ?_
  refine x_iconst (pc := 11) dX9_atPlace_11 ?_
  obtain ⟨q3, e⟩ := chk_some e
  refine x_iald (pc := 12) dX9_atPlace_12 q2 q3 ?_
  rcases ite_some e with ⟨q4, e⟩ | ⟨q4, e⟩
  · refine x_icmp_ge_t (pc := 13) (t := 83) dX9_atPlace_13 (by decide) q4 ?_
    refine x_iload_n (pc := 83) 3 dX9_atPlace_83 rfl ?_
    cases Option.some.inj e
    exact x_iret (pc := 84) rfl dX9_atPlace_84
  · refine x_icmp_ge_f (pc := 13) (t := 83) dX9_atPlace_13 (by decide) q4 ?_
    refine x_aload_n (pc := 16) 0 dX9_atPlace_16 rfl ?_
    refine x_iload (pc := 17) 4 dX9_atPlace_17 rfl ?_
    refine x_iconst (pc := 19) dX9_atPlace_19 ?_
    rcases bnd_some e with ⟨h5, r6, ec, rfl⟩ | ⟨h5, r6, ec, e⟩
    · exact y_callV_x (pc := 20) (c_X9_of hl ec) q1 mf_X9_of tw_7_63 ts_6_12 lf_X9_91 rfl rfl dX9_atPlace_20 (by decide) rfl rfl (leb rfl) (xx_out0 rfl)
    refine y_callV_i (pc := 20) (c_X9_of hl ec) q1 mf_X9_of tw_7_63 ts_6_12 lf_X9_91 rfl rfl dX9_atPlace_20 (by decide) rfl rfl (leb rfl) ?_
    refine x_iload_n (pc := 23) 1 dX9_atPlace_23 rfl ?_
    rcases ite_some e with ⟨q7, e⟩ | ⟨q7, e⟩
    · refine x_icmp_ne_f (pc := 24) (t := 62) dX9_atPlace_24 (by decide) q7 ?_
      refine x_iload_n (pc := 27) 2 dX9_atPlace_27 rfl ?_
      refine x_aload_n (pc := 28) 0 dX9_atPlace_28 rfl ?_
      refine x_iload (pc := 29) 4 dX9_atPlace_29 rfl ?_
      refine x_iconst (pc := 31) dX9_atPlace_31 ?_
      obtain ⟨q8, e⟩ := chk_some e
      rcases bnd_some e with ⟨h9, r10, ec, rfl⟩ | ⟨h9, r10, ec, e⟩
      · exact y_callV_x (pc := 32) (c_X9_of hl ec) q8 mf_X9_of tw_7_63 ts_6_12 lf_X9_91 rfl rfl dX9_atPlace_32 (by decide) rfl rfl (leb rfl) (xx_out0 rfl)
      refine y_callV_i (pc := 32) (c_X9_of hl ec) q8 mf_X9_of tw_7_63 ts_6_12 lf_X9_91 rfl rfl dX9_atPlace_32 (by decide) rfl rfl (leb rfl) ?_
      refine x_aload_n (pc := 35) 0 dX9_atPlace_35 rfl ?_
      refine x_iload (pc := 36) 4 dX9_atPlace_36 rfl ?_
      refine x_iconst (pc := 38) dX9_atPlace_38 ?_
      obtain ⟨q11, e⟩ := chk_some e
      rcases bnd_some e with ⟨h12, r13, ec, rfl⟩ | ⟨h12, r13, ec, e⟩
      · exact y_callV_x (pc := 39) (c_X9_of hl ec) q11 mf_X9_of tw_7_63 ts_6_12 lf_X9_91 rfl rfl dX9_atPlace_39 (by decide) rfl rfl (leb rfl) (xx_out0 rfl)
      refine y_callV_i (pc := 39) (c_X9_of hl ec) q11 mf_X9_of tw_7_63 ts_6_12 lf_X9_91 rfl rfl dX9_atPlace_39 (by decide) rfl rfl (leb rfl) ?_
      refine x_aload_n (pc := 42) 0 dX9_atPlace_42 rfl ?_
      refine x_iload (pc := 43) 4 dX9_atPlace_43 rfl ?_
      refine x_iconst (pc := 45) dX9_atPlace_45 ?_
      obtain ⟨q14, e⟩ := chk_some e
      rcases bnd_some e with ⟨h15, r16, ec, rfl⟩ | ⟨h15, r16, ec, e⟩
      · exact y_callV_x (pc := 46) (c_X9_of hl ec) q14 mf_X9_of tw_7_63 ts_6_12 lf_X9_91 rfl rfl dX9_atPlace_46 (by decide) rfl rfl (leb rfl) (xx_out0 rfl)
      refine y_callV_i (pc := 46) (c_X9_of hl ec) q14 mf_X9_of tw_7_63 ts_6_12 lf_X9_91 rfl rfl dX9_atPlace_46 (by decide) rfl rfl (leb rfl) ?_
      refine x_iadd (pc := 49) dX9_atPlace_49 ?_
      refine x_iconst (pc := 50) dX9_atPlace_50 ?_
      refine x_isub (pc := 51) dX9_atPlace_51 ?_
      rcases bnd_some e with ⟨h17, r18, ec, rfl⟩ | ⟨h17, r18, ec, e⟩
      · exact y_callS_x (pc := 52) (c_X9_in hl ec) mf_X9_in tw_7_20 lf_X9_87 dX9_atPlace_52 (by decide) rfl rfl (leb rfl) (xx_out0 rfl)
      refine y_callS_i (pc := 52) (c_X9_in hl ec) mf_X9_in tw_7_20 lf_X9_87 dX9_atPlace_52 (by decide) rfl rfl (leb rfl) ?_
      rcases ite_some e with ⟨q19, e⟩ | ⟨q19, e⟩
      · refine x_if_eq_t (pc := 55) (t := 62) dX9_atPlace_55 (by decide) q19 ?_
        exact p_X9_atPlace_L62 hl hk5 e
      · refine x_if_eq_f (pc := 55) (t := 62) dX9_atPlace_55 (by decide) q19 ?_
        refine x_iconst (pc := 58) dX9_atPlace_58 ?_
        refine x_goto (pc := 59) (t := 63) dX9_atPlace_59 (by decide) ?_
        exact p_X9_atPlace_L63 hl hk5 e
    · refine x_icmp_ne_t (pc := 24) (t := 62) dX9_atPlace_24 (by decide) q7 ?_
      exact p_X9_atPlace_L62 hl hk5 e
noncomputable def f_X9_atPlace_L5 (n : Nat) : Hp → Nat → Int32 → Int32 → Int32 → Int32 → Option (Rs Int32) := Nat.rec (motive := fun _ => Hp → Nat → Int32 → Int32 → Int32 → Int32 → Option (Rs Int32)) (fun _ _ _ _ _ _ => none) (fun _ r => f_X9_atPlace_B5 r) n
theorem p_X9_atPlace_L5 {l : Launch} {K : Ctx} (hl : l.stackTraces = false) : ∀ (n : Nat) (h : Hp) (a0 : Nat) (i1 : Int32) (i2 : Int32) (i3 : Int32) (i4 : Int32) (t : Rs Int32) (e : f_X9_atPlace_L5 n h a0 i1 i2 i3 i4 = some t), X l K mM_X9_atPlace (tgI t) 5 [(0, .ref a0), (1, .int i1), (2, .int i2), (3, .int i3), (4, .int i4)] [] h := by
  intro n
  induction n with
  | zero => exact fun _ _ _ _ _ _ _ e => nomatch (show (none : Option (Rs Int32)) = some _ from e)
  | succ n ih => exact fun h a0 i1 i2 i3 i4 t e => p_X9_atPlace_B5 hl (fun h a0 i1 i2 i3 i4 t e => ih h a0 i1 i2 i3 i4 t e) e
noncomputable def f_X9_atPlace (h : Hp) (a0 : Nat) (i1 : Int32) (i2 : Int32) : Option (Rs Int32) :=
  f_X9_atPlace_L5 2000 h a0 i1 i2 (iN (-1)) (iN 0)
theorem p_X9_atPlace {l : Launch} {K : Ctx} (hl : l.stackTraces = false) {h : Hp} {a0 : Nat} {i1 : Int32} {i2 : Int32} {t : Rs Int32} (e : f_X9_atPlace h a0 i1 i2 = some t) : X l K mM_X9_atPlace (tgI t) 0 [(0, .ref a0), (1, .int i1), (2, .int i2)] [] h := by
  unfold f_X9_atPlace at e
  refine x_iconst (pc := 0) dX9_atPlace_0 ?_
  refine x_istore_n (pc := 1) dX9_atPlace_1 (by decide) rfl ?_
  refine x_iconst (pc := 2) dX9_atPlace_2 ?_
  refine x_istore (pc := 3) dX9_atPlace_3 (by decide) rfl ?_
  exact x_sub1 (p_X9_atPlace_L5 hl 2000 _ _ _ _ _ _ _ e) [2, 3, 4, 1, 0] rfl
abbrev w_X9_atPlace : Cond := (Cond.code yX9_atPlace cX9_atPlace 6 (Option.some Jvm.ClassFile.FieldType.int))
theorem mf_X9_atPlace : MF yX9_atPlace w_X9_atPlace cX9_atPlace 6 (Option.some Jvm.ClassFile.FieldType.int) 2 := ⟨⟨rfl, tw_7_60, by decide⟩, tw_1_11, ⟨by decide, by decide⟩, by decide +kernel⟩
theorem c_X9_atPlace {l : Launch} {K : Ctx} (hl : l.stackTraces = false) {h : Hp} {a0 : Nat} {i1 : Int32} {i2 : Int32} {t : Rs Int32} (e : f_X9_atPlace h a0 i1 i2 = some t) : Ctr l K 9 yX9_atPlace w_X9_atPlace [.ref a0, .int i1, .int i2] h (tgI t) :=
  Ctr.of hl mf_X9_atPlace false (fun q => nomatch q) rfl (leb rfl) (p_X9_atPlace hl e)
/-! ## TableColumnBalancerModel.isFree -/
abbrev mM_X9_isFree : Mi := (10, yX9_isFree.cls, cX9_isFree, 6, (Option.some Jvm.ClassFile.FieldType.boolean), [], false)
noncomputable def f_X9_isFree_L35 (k6 : Hp → Nat → Int32 → Int32 → Int32 → Int32 → Int32 → Option (Rs Int32)) (h : Hp) (a0 : Nat) (i1 : Int32) (i2 : Int32) (i3 : Int32) (i5 : Int32) (s0 : Int32) : Option (Rs Int32) :=
  k6 h a0 i1 i2 i3 s0 (i5 + iN 1)
theorem p_X9_isFree_L35 {l : Launch} {K : Ctx} (hl : l.stackTraces = false) {k6 : Hp → Nat → Int32 → Int32 → Int32 → Int32 → Int32 → Option (Rs Int32)} (hk6 : ∀ (h : Hp) (a0 : Nat) (i1 : Int32) (i2 : Int32) (i3 : Int32) (i4 : Int32) (i5 : Int32) (t : Rs Int32), k6 h a0 i1 i2 i3 i4 i5 = some t → X l K mM_X9_isFree (tgI t) 6 [(0, .ref a0), (1, .int i1), (2, .int i2), (3, .int i3), (4, .int i4), (5, .int i5)] [] h) {h : Hp} {a0 : Nat} {i1 : Int32} {i2 : Int32} {i3 : Int32} {i5 : Int32} {s0 : Int32} {t : Rs Int32} (e : f_X9_isFree_L35 k6 h a0 i1 i2 i3 i5 s0 = some t) : X l K mM_X9_isFree (tgI t) 35 [(0, .ref a0), (1, .int i1), (2, .int i2), (3, .int i3), (5, .int i5)] [.int s0] h := by
  unfold f_X9_isFree_L35 at e
  refine x_istore (pc := 35) dX9_isFree_35 (by decide) rfl ?_
  refine x_iinc (pc := 37) 5 dX9_isFree_37 rfl (by decide) rfl ?_
  refine x_goto (pc := 40) (t := 6) dX9_isFree_40 (by decide) ?_
  exact x_sub1 (hk6 _ _ _ _ _ _ _ _ e) [2, 3, 4, 5, 1, 0] rfl
noncomputable def f_X9_isFree_L34 (k6 : Hp → Nat → Int32 → Int32 → Int32 → Int32 → Int32 → Option (Rs Int32)) (h : Hp) (a0 : Nat) (i1 : Int32) (i2 : Int32) (i3 : Int32) (i5 : Int32) : Option (Rs Int32) :=
  f_X9_isFree_L35 k6 h a0 i1 i2 i3 i5 (iN 0)
theorem p_X9_isFree_L34 {l : Launch} {K : Ctx} (hl : l.stackTraces = false) {k6 : Hp → Nat → Int32 → Int32 → Int32 → Int32 → Int32 → Option (Rs Int32)} (hk6 : ∀ (h : Hp) (a0 : Nat) (i1 : Int32) (i2 : Int32) (i3 : Int32) (i4 : Int32) (i5 : Int32) (t : Rs Int32), k6 h a0 i1 i2 i3 i4 i5 = some t → X l K mM_X9_isFree (tgI t) 6 [(0, .ref a0), (1, .int i1), (2, .int i2), (3, .int i3), (4, .int i4), (5, .int i5)] [] h) {h : Hp} {a0 : Nat} {i1 : Int32} {i2 : Int32} {i3 : Int32} {i5 : Int32} {t : Rs Int32} (e : f_X9_isFree_L34 k6 h a0 i1 i2 i3 i5 = some t) : X l K mM_X9_isFree (tgI t) 34 [(0, .ref a0), (1, .int i1), (2, .int i2), (3, .int i3), (5, .int i5)] [] h := by
  unfold f_X9_isFree_L34 at e
  refine x_iconst (pc := 34) dX9_isFree_34 ?_
  exact p_X9_isFree_L35 hl hk6 e
noncomputable def f_X9_isFree_B6 (k6 : Hp → Nat → Int32 → Int32 → Int32 → Int32 → Int32 → Option (Rs Int32)) (h : Hp) (a0 : Nat) (i1 : Int32) (i2 : Int32) (i3 : Int32) (i4 : Int32) (i5 : Int32) : Option (Rs Int32) :=
  if (i2 + i3) ≤ i5 then (
    chk (i4 = 0 ∨ i4 = 1) <|
    some (h, .inr i4)
  ) else (
    if i4 = 0 then (
      f_X9_isFree_L34 k6 h a0 i1 i2 i3 i5
    ) else (
      chk (okr h a0 9) <|
      bnd (f_X9_atPlace h a0 i1 i5) fun h5 r6 =>
      if r6 = (iN (-1)) then (
        f_X9_isFree_L35 k6 h5 a0 i1 i2 i3 i5 (iN 1)
      ) else (
        f_X9_isFree_L34 k6 h5 a0 i1 i2 i3 i5
      )
    )
  )
theorem p_X9_isFree_B6 {l : Launch} {K : Ctx} (hl : l.stackTraces = false) {k6 : Hp → Nat → Int32 → Int32 → Int32 → Int32 → Int32 → Option (Rs Int32)} (hk6 : ∀ (h : Hp) (a0 : Nat) (i1 : Int32) (i2 : Int32) (i3 : Int32) (i4 : Int32) (i5 : Int32) (t : Rs Int32), k6 h a0 i1 i2 i3 i4 i5 = some t → X l K mM_X9_isFree (tgI t) 6 [(0, .ref a0), (1, .int i1), (2, .int i2), (3, .int i3), (4, .int i4), (5, .int i5)] [] h) {h : Hp} {a0 : Nat} {i1 : Int32} {i2 : Int32} {i3 : Int32} {i4 : Int32} {i5 : Int32} {t : Rs Int32} (e : f_X9_isFree_B6 k6 h a0 i1 i2 i3 i4 i5 = some t) : X l K mM_X9_isFree (tgI t) 6 [(0, .ref a0), (1, .int i1), (2, .int i2), (3, .int i3), (4, .int i4), (5, .int i5)] [] h := by
  unfold f_X9_isFree_B6 at e
  refine x_iload (pc := 6) 5 dX9_isFree_6 rfl ?_
  refine x_iload_n (pc := 8) 2 dX9_isFree_8 rfl ?_
  refine x_iload_n (pc := 9) 3 dX9_isFree_9 rfl ?_
  refine x_iadd (pc := 10) dX9_isFree_10 ?_
  rcases ite_some e with ⟨q1, e⟩ | ⟨q1, e⟩
  · refine x_icmp_ge_t (pc := 11) (t := 43) dX9_isFree_11 (by decide) q1 ?_
    refine x_iload (pc := 43) 4 dX9_isFree_43 rfl ?_
    obtain ⟨q2, e⟩ := chk_some e
    cases Option.some.inj e
    exact x_zret (pc := 45) rfl q2 dX9_isFree_45
  · refine x_icmp_ge_f (pc := 11) (t := 43) dX9_isFree_11 (by decide) q1 ?_
    refine x_iload (pc := 14) 4 dX9_isFree_14 rfl ?_
    rcases ite_some e with ⟨q3, e⟩ | ⟨q3, e⟩
    · refine x_if_eq_t (pc := 16) (t := 34) dX9_isFree_16 (by decide) q3 ?_
      exact x_sub1 (p_X9_isFree_L34 hl hk6 e) [0, 1, 2, 3, 5] rfl
    · refine x_if_eq_f (pc := 16) (t := 34) dX9_isFree_16 (by decide) q3 ?_
      refine x_aload_n (pc := 19) 0 dX9_isFree_19 rfl ?_
      refine x_iload_n (pc := 20) 1 dX9_isFree_20 rfl ?_
      refine x_iload (pc := 21) 5 dX9_isFree_21 rfl ?_
      obtain ⟨q4, e⟩ := chk_some e
      rcases bnd_some e with ⟨h5, r6, ec, rfl⟩ | ⟨h5, r6, ec, e⟩
      · exact y_callV_x (pc := 23) (c_X9_atPlace hl ec) q4 mf_X9_atPlace tw_7_59 ts_6_11 lf_X9_107 rfl rfl dX9_isFree_23 (by decide) rfl rfl (leb rfl) (xx_out0 rfl)
      refine y_callV_i (pc := 23) (c_X9_atPlace hl ec) q4 mf_X9_atPlace tw_7_59 ts_6_11 lf_X9_107 rfl rfl dX9_isFree_23 (by decide) rfl rfl (leb rfl) ?_
      refine x_iconst (pc := 26) dX9_isFree_26 ?_
      rcases ite_some e with ⟨q7, e⟩ | ⟨q7, e⟩
      · refine x_icmp_ne_f (pc := 27) (t := 34) dX9_isFree_27 (by decide) q7 ?_
        refine x_iconst (pc := 30) dX9_isFree_30 ?_
        refine x_goto (pc := 31) (t := 35) dX9_isFree_31 (by decide) ?_
        exact x_sub1 (p_X9_isFree_L35 hl hk6 e) [0, 1, 2, 3, 5] rfl
      · refine x_icmp_ne_t (pc := 27) (t := 34) dX9_isFree_27 (by decide) q7 ?_
        exact x_sub1 (p_X9_isFree_L34 hl hk6 e) [0, 1, 2, 3, 5] rfl
noncomputable def f_X9_isFree_L6 (n : Nat) : Hp → Nat → Int32 → Int32 → Int32 → Int32 → Int32 → Option (Rs Int32) := Nat.rec (motive := fun _ => Hp → Nat → Int32 → Int32 → Int32 → Int32 → Int32 → Option (Rs Int32)) (fun _ _ _ _ _ _ _ => none) (fun _ r => f_X9_isFree_B6 r) n
theorem p_X9_isFree_L6 {l : Launch} {K : Ctx} (hl : l.stackTraces = false) : ∀ (n : Nat) (h : Hp) (a0 : Nat) (i1 : Int32) (i2 : Int32) (i3 : Int32) (i4 : Int32) (i5 : Int32) (t : Rs Int32) (e : f_X9_isFree_L6 n h a0 i1 i2 i3 i4 i5 = some t), X l K mM_X9_isFree (tgI t) 6 [(0, .ref a0), (1, .int i1), (2, .int i2), (3, .int i3), (4, .int i4), (5, .int i5)] [] h := by
  intro n
  induction n with
  | zero => exact fun _ _ _ _ _ _ _ _ e => nomatch (show (none : Option (Rs Int32)) = some _ from e)
  | succ n ih => exact fun h a0 i1 i2 i3 i4 i5 t e => p_X9_isFree_B6 hl (fun h a0 i1 i2 i3 i4 i5 t e => ih h a0 i1 i2 i3 i4 i5 t e) e
noncomputable def f_X9_isFree (h : Hp) (a0 : Nat) (i1 : Int32) (i2 : Int32) (i3 : Int32) : Option (Rs Int32) :=
  f_X9_isFree_L6 2000 h a0 i1 i2 i3 (iN 1) i2
theorem p_X9_isFree {l : Launch} {K : Ctx} (hl : l.stackTraces = false) {h : Hp} {a0 : Nat} {i1 : Int32} {i2 : Int32} {i3 : Int32} {t : Rs Int32} (e : f_X9_isFree h a0 i1 i2 i3 = some t) : X l K mM_X9_isFree (tgI t) 0 [(0, .ref a0), (1, .int i1), (2, .int i2), (3, .int i3)] [] h := by
  unfold f_X9_isFree at e
  refine x_iconst (pc := 0) dX9_isFree_0 ?_
  refine x_istore (pc := 1) dX9_isFree_1 (by decide) rfl ?_
  refine x_iload_n (pc := 3) 3 dX9_isFree_3 rfl ?_
  refine x_istore (pc := 4) dX9_isFree_4 (by decide) rfl ?_
  exact x_sub1 (p_X9_isFree_L6 hl 2000 _ _ _ _ _ _ _ _ e) [2, 3, 4, 5, 1, 0] rfl
abbrev w_X9_isFree : Cond := (Cond.code yX9_isFree cX9_isFree 6 (Option.some Jvm.ClassFile.FieldType.boolean))
theorem mf_X9_isFree : MF yX9_isFree w_X9_isFree cX9_isFree 6 (Option.some Jvm.ClassFile.FieldType.boolean) 3 := ⟨⟨rfl, tw_7_56, by decide⟩, tw_1_11, ⟨by decide, by decide⟩, by decide +kernel⟩
theorem c_X9_isFree {l : Launch} {K : Ctx} (hl : l.stackTraces = false) {h : Hp} {a0 : Nat} {i1 : Int32} {i2 : Int32} {i3 : Int32} {t : Rs Int32} (e : f_X9_isFree h a0 i1 i2 i3 = some t) : Ctr l K 10 yX9_isFree w_X9_isFree [.ref a0, .int i1, .int i2, .int i3] h (tgI t) :=
  Ctr.of hl mf_X9_isFree false (fun q => nomatch q) rfl (leb rfl) (p_X9_isFree hl e)
/-! ## TableColumnBalancerModel.adds -/
abbrev mM_X9_adds : Mi := (8, yX9_adds.cls, cX9_adds, 8, (Option.some Jvm.ClassFile.FieldType.int), [], false)
noncomputable def f_X9_adds_B21 (k21 : Hp → Nat → Int32 → Int32 → Int32 → Int32 → Int32 → Int32 → Int32 → Option (Rs Int32)) (h : Hp) (a0 : Nat) (i1 : Int32) (i2 : Int32) (i3 : Int32) (i4 : Int32) (i5 : Int32) (i6 : Int32) (i7 : Int32) : Option (Rs Int32) :=
  if (iN 31) ≤ i7 then (
    chk (okr h a0 9) <|
    chk (okr h (qR h a0 1) 20) <|
    chk (vp_in (i6 + (iN 0)) (qW h (qR h a0 1))) <|
    lt (putI h (qR h a0 1) (Int32.toNatClampNeg (i6 + (iN 0))) i1) fun h5 =>
    chk (okr h5 (qR h5 a0 1) 20) <|
    chk (vp_in (i6 + (iN 1)) (qW h5 (qR h5 a0 1))) <|
    lt (putI h5 (qR h5 a0 1) (Int32.toNatClampNeg (i6 + (iN 1))) i2) fun h8 =>
    chk (okr h8 (qR h8 a0 1) 20) <|
    chk (vp_in (i6 + (iN 2)) (qW h8 (qR h8 a0 1))) <|
    lt (putI h8 (qR h8 a0 1) (Int32.toNatClampNeg (i6 + (iN 2))) i3) fun h11 =>
    chk (okr h11 (qR h11 a0 1) 20) <|
    chk (vp_in (i6 + (iN 3)) (qW h11 (qR h11 a0 1))) <|
    lt (putI h11 (qR h11 a0 1) (Int32.toNatClampNeg (i6 + (iN 3))) i4) fun h14 =>
    chk (okr h14 (qR h14 a0 1) 20) <|
    chk (vp_in (i6 + (iN 5)) (qW h14 (qR h14 a0 1))) <|
    lt (putI h14 (qR h14 a0 1) (Int32.toNatClampNeg (i6 + (iN 5))) (iN 1)) fun h17 =>
    chk (okr h17 (qR h17 a0 1) 20) <|
    chk (vp_in (i6 + (iN 6)) (qW h17 (qR h17 a0 1))) <|
    lt (putI h17 (qR h17 a0 1) (Int32.toNatClampNeg (i6 + (iN 6))) (iN 1)) fun h20 =>
    chk (okr h20 (qR h20 a0 1) 20) <|
    chk (vp_in (iN 5) (qW h20 (qR h20 a0 1))) <|
    lt (putI h20 (qR h20 a0 1) (Int32.toNatClampNeg (iN 5)) ((qI h20 (qR h20 a0 1) (Int32.toNatClampNeg (iN 5))) + (iN 1))) fun h23 =>
    some (h23, .inr i5)
  ) else (
    chk (okr h a0 9) <|
    chk (okr h (qR h a0 1) 20) <|
    chk (vp_in (i6 + i7) (qW h (qR h a0 1))) <|
    lt (putI h (qR h a0 1) (Int32.toNatClampNeg (i6 + i7)) (iN 0)) fun h27 =>
    k21 h27 a0 i1 i2 i3 i4 i5 i6 (i7 + iN 1)
  )
theorem p_X9_adds_B21 {l : Launch} {K : Ctx} (hl : l.stackTraces = false) {k21 : Hp → Nat → Int32 → Int32 → Int32 → Int32 → Int32 → Int32 → Int32 → Option (Rs Int32)} (hk21 : ∀ (h : Hp) (a0 : Nat) (i1 : Int32) (i2 : Int32) (i3 : Int32) (i4 : Int32) (i5 : Int32) (i6 : Int32) (i7 : Int32) (t : Rs Int32), k21 h a0 i1 i2 i3 i4 i5 i6 i7 = some t → X l K mM_X9_adds (tgI t) 21 [(0, .ref a0), (1, .int i1), (2, .int i2), (3, .int i3), (4, .int i4), (5, .int i5), (6, .int i6), (7, .int i7)] [] h) {h : Hp} {a0 : Nat} {i1 : Int32} {i2 : Int32} {i3 : Int32} {i4 : Int32} {i5 : Int32} {i6 : Int32} {i7 : Int32} {t : Rs Int32} (e : f_X9_adds_B21 k21 h a0 i1 i2 i3 i4 i5 i6 i7 = some t) : X l K mM_X9_adds (tgI t) 21 [(0, .ref a0), (1, .int i1), (2, .int i2), (3, .int i3), (4, .int i4), (5, .int i5), (6, .int i6), (7, .int i7)] [] h := by
  unfold f_X9_adds_B21 at e
  refine x_iload (pc := 21) 7 dX9_adds_21 rfl ?_
  refine x_bipush (pc := 23) (v := iN 31) dX9_adds_23 rfl ?_
  rcases ite_some e with ⟨q1, e⟩ | ⟨q1, e⟩
  · refine x_icmp_ge_t (pc := 25) (t := 45) dX9_adds_25 (by decide) q1 ?_
    refine x_aload_n (pc := 45) 0 dX9_adds_45 rfl ?_
    obtain ⟨q2, e⟩ := chk_some e
    obtain ⟨q3, e⟩ := chk_some e
    refine x_getR (pc := 46) gf_X9_9 rfl dX9_adds_46 q2 q3.1 ?_
    refine x_iload (pc := 49) 6 dX9_adds_49 rfl ?_
    refine x_iconst (pc := 51) dX9_adds_51 ?_
    refine x_iadd (pc := 52) dX9_adds_52 ?_
    refine x_iload_n (pc := 53) 1 dX9_adds_53 rfl ?_
    obtain ⟨q4, e⟩ := chk_some e
    replace e := lt_go e
    refine x_iast (pc := 54) dX9_adds_54 q3 q4 ?_
    refine x_aload_n (pc := 55) 0 dX9_adds_55 rfl ?_
    obtain ⟨q6, e⟩ := chk_some e
    refine x_getR (pc := 56) gf_X9_9 rfl dX9_adds_56 (okr_pI q2) q6.1 ?_
    refine x_iload (pc := 59) 6 dX9_adds_59 rfl ?_
    refine x_iconst (pc := 61) dX9_adds_61 ?_
    refine x_iadd (pc := 62) dX9_adds_62 ?_
    refine x_iload_n (pc := 63) 2 dX9_adds_63 rfl ?_
    obtain ⟨q7, e⟩ := chk_some e
    replace e := lt_go e
    refine x_iast (pc := 64) dX9_adds_64 q6 q7 ?_
    refine x_aload_n (pc := 65) 0 dX9_adds_65 rfl ?_
    obtain ⟨q9, e⟩ := chk_some e
    refine x_getR (pc := 66) gf_X9_9 rfl dX9_adds_66 (okr_pI (okr_pI q2)) q9.1 ?_
    refine x_iload (pc := 69) 6 dX9_adds_69 rfl ?_
    refine x_iconst (pc := 71) dX9_adds_71 ?_
    refine x_iadd (pc := 72) dX9_adds_72 ?_
    refine x_iload_n (pc := 73) 3 dX9_adds_73 rfl ?_
    obtain ⟨q10, e⟩ := chk_some e
    replace e := lt_go e
    refine x_iast (pc := 74) dX9_adds_74 q9 q10 ?_
    refine x_aload_n (pc := 75) 0 dX9_adds_75 rfl ?_
    obtain ⟨q12, e⟩ := chk_some e
    refine x_getR (pc := 76) gf_X9_9 rfl dX9_adds_76 (okr_pI (okr_pI (okr_pI q2))) q12.1 ?_
    refine x_iload (pc := 79) 6 dX9_adds_79 rfl ?_
    refine x_iconst (pc := 81) dX9_adds_81 ?_
    refine x_iadd (pc := 82) dX9_adds_82 ?_
    refine x_iload (pc := 83) 4 dX9_adds_83 rfl ?_
    obtain ⟨q13, e⟩ := chk_some e
    replace e := lt_go e
    refine x_iast (pc := 85) dX9_adds_85 q12 q13 ?_
    refine x_aload_n (pc := 86) 0 dX9_adds_86 rfl ?_
    obtain ⟨q15, e⟩ := chk_some e
    refine x_getR (pc := 87) gf_X9_9 rfl dX9_adds_87 (okr_pI (okr_pI (okr_pI (okr_pI q2)))) q15.1 ?_
    refine x_iload (pc := 90) 6 dX9_adds_90 rfl ?_
    refine x_iconst (pc := 92) dX9_adds_92 ?_
    refine x_iadd (pc := 93) dX9_adds_93 ?_
    refine x_iconst (pc := 94) dX9_adds_94 ?_
    obtain ⟨q16, e⟩ := chk_some e
    replace e := lt_go e
    refine x_iast (pc := 95) dX9_adds_95 q15 q16 ?_
    refine x_aload_n (pc := 96) 0 dX9_adds_96 rfl ?_
    obtain ⟨q18, e⟩ := chk_some e
    refine x_getR (pc := 97) gf_X9_9 rfl dX9_adds_97 (okr_pI (okr_pI (okr_pI (okr_pI (okr_pI q2))))) q18.1 ?_
    refine x_iload (pc := 100) 6 dX9_adds_100 rfl ?_
    refine x_bipush (pc := 102) (v := iN 6) dX9_adds_102 rfl ?_
    refine x_iadd (pc := 104) dX9_adds_104 ?_
    refine x_iconst (pc := 105) dX9_adds_105 ?_
    obtain ⟨q19, e⟩ := chk_some e
    replace e := lt_go e
    refine x_iast (pc := 106) dX9_adds_106 q18 q19 ?_
    refine x_aload_n (pc := 107) 0 dX9_adds_107 rfl ?_
    obtain ⟨q21, e⟩ := chk_some e
    refine x_getR (pc := 108) gf_X9_9 rfl dX9_adds_108 (okr_pI (okr_pI (okr_pI (okr_pI (okr_pI (okr_pI q2)))))) q21.1 ?_
    refine x_iconst (pc := 111) dX9_adds_111 ?_
    refine x_dup2 (pc := 112) dX9_adds_112 rfl rfl ?_
    obtain ⟨q22, e⟩ := chk_some e
    refine x_iald (pc := 113) dX9_adds_113 q21 q22 ?_
    refine x_iconst (pc := 114) dX9_adds_114 ?_
    refine x_iadd (pc := 115) dX9_adds_115 ?_
    replace e := lt_go e
    refine x_iast (pc := 116) dX9_adds_116 q21 q22 ?_
    refine x_iload (pc := 117) 5 dX9_adds_117 rfl ?_
    cases Option.some.inj e
    exact x_iret (pc := 119) rfl dX9_adds_119
  · refine x_icmp_ge_f (pc := 25) (t := 45) dX9_adds_25 (by decide) q1 ?_
    refine x_aload_n (pc := 28) 0 dX9_adds_28 rfl ?_
    obtain ⟨q24, e⟩ := chk_some e
    obtain ⟨q25, e⟩ := chk_some e
    refine x_getR (pc := 29) gf_X9_9 rfl dX9_adds_29 q24 q25.1 ?_
    refine x_iload (pc := 32) 6 dX9_adds_32 rfl ?_
    refine x_iload (pc := 34) 7 dX9_adds_34 rfl ?_
    refine x_iadd (pc := 36) dX9_adds_36 ?_
    refine x_iconst (pc := 37) dX9_adds_37 ?_
    obtain ⟨q26, e⟩ := chk_some e
    replace e := lt_go e
    refine x_iast (pc := 38) dX9_adds_38 q25 q26 ?_
    refine x_iinc (pc := 39) 7 dX9_adds_39 rfl (by decide) rfl ?_
    refine x_goto (pc := 42) (t := 21) dX9_adds_42 (by decide) ?_
    exact x_sub1 (hk21 _ _ _ _ _ _ _ _ _ _ e) [1, 2, 3, 4, 5, 6, 7, 0] rfl
noncomputable def f_X9_adds_L21 (n : Nat) : Hp → Nat → Int32 → Int32 → Int32 → Int32 → Int32 → Int32 → Int32 → Option (Rs Int32) := Nat.rec (motive := fun _ => Hp → Nat → Int32 → Int32 → Int32 → Int32 → Int32 → Int32 → Int32 → Option (Rs Int32)) (fun _ _ _ _ _ _ _ _ _ => none) (fun _ r => f_X9_adds_B21 r) n
theorem p_X9_adds_L21 {l : Launch} {K : Ctx} (hl : l.stackTraces = false) : ∀ (n : Nat) (h : Hp) (a0 : Nat) (i1 : Int32) (i2 : Int32) (i3 : Int32) (i4 : Int32) (i5 : Int32) (i6 : Int32) (i7 : Int32) (t : Rs Int32) (e : f_X9_adds_L21 n h a0 i1 i2 i3 i4 i5 i6 i7 = some t), X l K mM_X9_adds (tgI t) 21 [(0, .ref a0), (1, .int i1), (2, .int i2), (3, .int i3), (4, .int i4), (5, .int i5), (6, .int i6), (7, .int i7)] [] h := by
  intro n
  induction n with
  | zero => exact fun _ _ _ _ _ _ _ _ _ _ e => nomatch (show (none : Option (Rs Int32)) = some _ from e)
  | succ n ih => exact fun h a0 i1 i2 i3 i4 i5 i6 i7 t e => p_X9_adds_B21 hl (fun h a0 i1 i2 i3 i4 i5 i6 i7 t e => ih h a0 i1 i2 i3 i4 i5 i6 i7 t e) e
noncomputable def f_X9_adds (h : Hp) (a0 : Nat) (i1 : Int32) (i2 : Int32) (i3 : Int32) (i4 : Int32) : Option (Rs Int32) :=
  chk (okr h a0 9) <|
  chk (okr h (qR h a0 1) 20) <|
  chk (vp_in (iN 5) (qW h (qR h a0 1))) <|
  f_X9_adds_L21 2000 h a0 i1 i2 i3 i4 (qI h (qR h a0 1) (Int32.toNatClampNeg (iN 5))) ((iN 10) + ((iN 31) * (qI h (qR h a0 1) (Int32.toNatClampNeg (iN 5))))) (iN 0)
theorem p_X9_adds {l : Launch} {K : Ctx} (hl : l.stackTraces = false) {h : Hp} {a0 : Nat} {i1 : Int32} {i2 : Int32} {i3 : Int32} {i4 : Int32} {t : Rs Int32} (e : f_X9_adds h a0 i1 i2 i3 i4 = some t) : X l K mM_X9_adds (tgI t) 0 [(0, .ref a0), (1, .int i1), (2, .int i2), (3, .int i3), (4, .int i4)] [] h := by
  unfold f_X9_adds at e
  refine x_aload_n (pc := 0) 0 dX9_adds_0 rfl ?_
  obtain ⟨q1, e⟩ := chk_some e
  obtain ⟨q2, e⟩ := chk_some e
  refine x_getR (pc := 1) gf_X9_9 rfl dX9_adds_1 q1 q2.1 ?_
  refine x_iconst (pc := 4) dX9_adds_4 ?_
  obtain ⟨q3, e⟩ := chk_some e
  refine x_iald (pc := 5) dX9_adds_5 q2 q3 ?_
  refine x_istore (pc := 6) dX9_adds_6 (by decide) rfl ?_
  refine x_bipush (pc := 8) (v := iN 10) dX9_adds_8 rfl ?_
  refine x_bipush (pc := 10) (v := iN 31) dX9_adds_10 rfl ?_
  refine x_iload (pc := 12) 0 dX9_adds_12 rfl ?_
  refine x_imul (pc := 14) dX9_adds_14 ?_
  refine x_iadd (pc := 15) dX9_adds_15 ?_
  refine x_istore (pc := 16) dX9_adds_16 (by decide) rfl ?_
  refine x_iconst (pc := 18) dX9_adds_18 ?_
  refine x_istore (pc := 19) dX9_adds_19 (by decide) rfl ?_
  exact x_sub1 (p_X9_adds_L21 hl 2000 _ _ _ _ _ _ _ _ _ _ e) [3, 4, 5, 6, 7, 2, 1, 0] rfl
abbrev w_X9_adds : Cond := (Cond.code yX9_adds cX9_adds 8 (Option.some Jvm.ClassFile.FieldType.int))
theorem mf_X9_adds : MF yX9_adds w_X9_adds cX9_adds 8 (Option.some Jvm.ClassFile.FieldType.int) 4 := ⟨⟨rfl, tw_7_68, by decide⟩, tw_1_11, ⟨by decide, by decide⟩, by decide +kernel⟩
theorem c_X9_adds {l : Launch} {K : Ctx} (hl : l.stackTraces = false) {h : Hp} {a0 : Nat} {i1 : Int32} {i2 : Int32} {i3 : Int32} {i4 : Int32} {t : Rs Int32} (e : f_X9_adds h a0 i1 i2 i3 i4 = some t) : Ctr l K 8 yX9_adds w_X9_adds [.ref a0, .int i1, .int i2, .int i3, .int i4] h (tgI t) :=
  Ctr.of hl mf_X9_adds false (fun q => nomatch q) rfl (leb rfl) (p_X9_adds hl e)
/-! ## TableColumnBalancerModel.addCell -/
abbrev mM_X9_addCell : Mi := (11, yX9_addCell.cls, cX9_addCell, 5, (Option.some Jvm.ClassFile.FieldType.int), [], false)
noncomputable def f_X9_addCell_L21 (h : Hp) (a0 : Nat) : Option (Rs Int32) :=
  chk (okr h a0 9) <|
  bnd (f_X9_fails h a0 (iN 1)) fun h2 r3 =>
  some (h2, .inr r3)
theorem p_X9_addCell_L21 {l : Launch} {K : Ctx} (hl : l.stackTraces = false) {h : Hp} {a0 : Nat} {t : Rs Int32} (e : f_X9_addCell_L21 h a0 = some t) : X l K mM_X9_addCell (tgI t) 21 [(0, .ref a0)] [] h := by
  unfold f_X9_addCell_L21 at e
  refine x_aload_n (pc := 21) 0 dX9_addCell_21 rfl ?_
  refine x_iconst (pc := 22) dX9_addCell_22 ?_
  obtain ⟨q1, e⟩ := chk_some e
  rcases bnd_some e with ⟨h2, r3, ec, rfl⟩ | ⟨h2, r3, ec, e⟩
  · exact y_callV_x (pc := 23) (c_X9_fails hl ec) q1 mf_X9_fails tw_7_24 ts_6_7 lf_X9_95 rfl rfl dX9_addCell_23 (by decide) rfl rfl (leb rfl) (xx_out0 rfl)
  refine y_callV_i (pc := 23) (c_X9_fails hl ec) q1 mf_X9_fails tw_7_24 ts_6_7 lf_X9_95 rfl rfl dX9_addCell_23 (by decide) rfl rfl (leb rfl) ?_
  cases Option.some.inj e
  exact x_iret (pc := 26) rfl dX9_addCell_26
noncomputable def f_X9_addCell_L54 (h : Hp) (a0 : Nat) : Option (Rs Int32) :=
  chk (okr h a0 9) <|
  bnd (f_X9_fails h a0 (iN 2)) fun h2 r3 =>
  some (h2, .inr r3)
theorem p_X9_addCell_L54 {l : Launch} {K : Ctx} (hl : l.stackTraces = false) {h : Hp} {a0 : Nat} {t : Rs Int32} (e : f_X9_addCell_L54 h a0 = some t) : X l K mM_X9_addCell (tgI t) 54 [(0, .ref a0)] [] h := by
  unfold f_X9_addCell_L54 at e
  refine x_aload_n (pc := 54) 0 dX9_addCell_54 rfl ?_
  refine x_iconst (pc := 55) dX9_addCell_55 ?_
  obtain ⟨q1, e⟩ := chk_some e
  rcases bnd_some e with ⟨h2, r3, ec, rfl⟩ | ⟨h2, r3, ec, e⟩
  · exact y_callV_x (pc := 56) (c_X9_fails hl ec) q1 mf_X9_fails tw_7_24 ts_6_7 lf_X9_95 rfl rfl dX9_addCell_56 (by decide) rfl rfl (leb rfl) (xx_out0 rfl)
  refine y_callV_i (pc := 56) (c_X9_fails hl ec) q1 mf_X9_fails tw_7_24 ts_6_7 lf_X9_95 rfl rfl dX9_addCell_56 (by decide) rfl rfl (leb rfl) ?_
  cases Option.some.inj e
  exact x_iret (pc := 59) rfl dX9_addCell_59
noncomputable def f_X9_addCell_L81 (h : Hp) (a0 : Nat) : Option (Rs Int32) :=
  chk (okr h a0 9) <|
  bnd (f_X9_fails h a0 (iN 3)) fun h2 r3 =>
  some (h2, .inr r3)
theorem p_X9_addCell_L81 {l : Launch} {K : Ctx} (hl : l.stackTraces = false) {h : Hp} {a0 : Nat} {t : Rs Int32} (e : f_X9_addCell_L81 h a0 = some t) : X l K mM_X9_addCell (tgI t) 81 [(0, .ref a0)] [] h := by
  unfold f_X9_addCell_L81 at e
  refine x_aload_n (pc := 81) 0 dX9_addCell_81 rfl ?_
  refine x_iconst (pc := 82) dX9_addCell_82 ?_
  obtain ⟨q1, e⟩ := chk_some e
  rcases bnd_some e with ⟨h2, r3, ec, rfl⟩ | ⟨h2, r3, ec, e⟩
  · exact y_callV_x (pc := 83) (c_X9_fails hl ec) q1 mf_X9_fails tw_7_24 ts_6_7 lf_X9_95 rfl rfl dX9_addCell_83 (by decide) rfl rfl (leb rfl) (xx_out0 rfl)
  refine y_callV_i (pc := 83) (c_X9_fails hl ec) q1 mf_X9_fails tw_7_24 ts_6_7 lf_X9_95 rfl rfl dX9_addCell_83 (by decide) rfl rfl (leb rfl) ?_
  cases Option.some.inj e
  exact x_iret (pc := 86) rfl dX9_addCell_86
noncomputable def f_X9_addCell (h : Hp) (a0 : Nat) (i1 : Int32) (i2 : Int32) (i3 : Int32) (i4 : Int32) : Option (Rs Int32) :=
  chk (okr h a0 9) <|
  lt (putI h a0 0 (iN 0)) fun h2 =>
  bnd (f_X9_isRow h2 a0 i1) fun h3 r4 =>
  if r4 = 0 then (
    f_X9_addCell_L21 h3 a0
  ) else (
    chk (okr h3 a0 9) <|
    bnd (f_X9_isColumn h3 a0 i2) fun h7 r8 =>
    if r8 = 0 then (
      f_X9_addCell_L21 h7 a0
    ) else (
      bnd (f_X9_in h7 i4 (iN 0) (iN 5)) fun h10 r11 =>
      if r11 = 0 then (
        f_X9_addCell_L54 h10 a0
      ) else (
        if i3 < (iN 1) then (
          f_X9_addCell_L54 h10 a0
        ) else (
          chk (okr h10 a0 9) <|
          chk (okr h10 (qR h10 a0 1) 20) <|
          chk (vp_in (iN 0) (qW h10 (qR h10 a0 1))) <|
          if i3 ≤ ((qI h10 (qR h10 a0 1) (Int32.toNatClampNeg (iN 0))) - i2) then (
            chk (vp_in (iN 5) (qW h10 (qR h10 a0 1))) <|
            if (qI h10 (qR h10 a0 1) (Int32.toNatClampNeg (iN 5))) = (iN 16) then (
              f_X9_addCell_L81 h10 a0
            ) else (
              bnd (f_X9_isFree h10 a0 i1 i2 i3) fun h20 r21 =>
              if r21 = 0 then (
                f_X9_addCell_L81 h20 a0
              ) else (
                chk (okr h20 a0 9) <|
                bnd (f_X9_adds h20 a0 i1 i2 i3 i4) fun h24 r25 =>
                some (h24, .inr r25)
              )
            )
          ) else (
            f_X9_addCell_L54 h10 a0
          )
        )
      )
    )
  )
theorem p_X9_addCell {l : Launch} {K : Ctx} (hl : l.stackTraces = false) {h : Hp} {a0 : Nat} {i1 : Int32} {i2 : Int32} {i3 : Int32} {i4 : Int32} {t : Rs Int32} (e : f_X9_addCell h a0 i1 i2 i3 i4 = some t) : X l K mM_X9_addCell (tgI t) 0 [(0, .ref a0), (1, .int i1), (2, .int i2), (3, .int i3), (4, .int i4)] [] h := by
  unfold f_X9_addCell at e
  refine x_aload_n (pc := 0) 0 dX9_addCell_0 rfl ?_
  refine x_iconst (pc := 1) dX9_addCell_1 ?_
  obtain ⟨q1, e⟩ := chk_some e
  replace e := lt_go e
  refine x_putI (pc := 2) pf_X9_84 rfl rfl rfl dX9_addCell_2 q1 ?_
  refine x_aload_n (pc := 5) 0 dX9_addCell_5 rfl ?_
  refine x_iload_n (pc := 6) 1 dX9_addCell_6 rfl ?_
  rcases bnd_some e with ⟨h3, r4, ec, rfl⟩ | ⟨h3, r4, ec, e⟩
  · exact y_callV_x (pc := 7) (c_X9_isRow hl ec) (okr_pI q1) mf_X9_isRow tw_7_51 ts_6_9 lf_X9_110 rfl rfl dX9_addCell_7 (by decide) rfl rfl (leb rfl) (xx_out0 rfl)
  refine y_callV_i (pc := 7) (c_X9_isRow hl ec) (okr_pI q1) mf_X9_isRow tw_7_51 ts_6_9 lf_X9_110 rfl rfl dX9_addCell_7 (by decide) rfl rfl (leb rfl) ?_
  rcases ite_some e with ⟨q5, e⟩ | ⟨q5, e⟩
  · refine x_if_eq_t (pc := 10) (t := 21) dX9_addCell_10 (by decide) q5 ?_
    exact x_sub1 (p_X9_addCell_L21 hl e) [0] rfl
  · refine x_if_eq_f (pc := 10) (t := 21) dX9_addCell_10 (by decide) q5 ?_
    refine x_aload_n (pc := 13) 0 dX9_addCell_13 rfl ?_
    refine x_iload_n (pc := 14) 2 dX9_addCell_14 rfl ?_
    obtain ⟨q6, e⟩ := chk_some e
    rcases bnd_some e with ⟨h7, r8, ec, rfl⟩ | ⟨h7, r8, ec, e⟩
    · exact y_callV_x (pc := 15) (c_X9_isColumn hl ec) q6 mf_X9_isColumn tw_7_39 ts_6_8 lf_X9_103 rfl rfl dX9_addCell_15 (by decide) rfl rfl (leb rfl) (xx_out0 rfl)
    refine y_callV_i (pc := 15) (c_X9_isColumn hl ec) q6 mf_X9_isColumn tw_7_39 ts_6_8 lf_X9_103 rfl rfl dX9_addCell_15 (by decide) rfl rfl (leb rfl) ?_
    rcases ite_some e with ⟨q9, e⟩ | ⟨q9, e⟩
    · refine x_if_ne_f (pc := 18) (t := 27) dX9_addCell_18 (by decide) q9 ?_
      exact x_sub1 (p_X9_addCell_L21 hl e) [0] rfl
    · refine x_if_ne_t (pc := 18) (t := 27) dX9_addCell_18 (by decide) q9 ?_
      refine x_iload (pc := 27) 4 dX9_addCell_27 rfl ?_
      refine x_iconst (pc := 29) dX9_addCell_29 ?_
      refine x_iconst (pc := 30) dX9_addCell_30 ?_
      rcases bnd_some e with ⟨h10, r11, ec, rfl⟩ | ⟨h10, r11, ec, e⟩
      · exact y_callS_x (pc := 31) (c_X9_in hl ec) mf_X9_in tw_7_20 lf_X9_87 dX9_addCell_31 (by decide) rfl rfl (leb rfl) (xx_out0 rfl)
      refine y_callS_i (pc := 31) (c_X9_in hl ec) mf_X9_in tw_7_20 lf_X9_87 dX9_addCell_31 (by decide) rfl rfl (leb rfl) ?_
      rcases ite_some e with ⟨q12, e⟩ | ⟨q12, e⟩
      · refine x_if_eq_t (pc := 34) (t := 54) dX9_addCell_34 (by decide) q12 ?_
        exact x_sub1 (p_X9_addCell_L54 hl e) [0] rfl
      · refine x_if_eq_f (pc := 34) (t := 54) dX9_addCell_34 (by decide) q12 ?_
        refine x_iload_n (pc := 37) 3 dX9_addCell_37 rfl ?_
        refine x_iconst (pc := 38) dX9_addCell_38 ?_
        rcases ite_some e with ⟨q13, e⟩ | ⟨q13, e⟩
        · refine x_icmp_lt_t (pc := 39) (t := 54) dX9_addCell_39 (by decide) q13 ?_
          exact x_sub1 (p_X9_addCell_L54 hl e) [0] rfl
        · refine x_icmp_lt_f (pc := 39) (t := 54) dX9_addCell_39 (by decide) q13 ?_
          refine x_iload_n (pc := 42) 3 dX9_addCell_42 rfl ?_
          refine x_aload_n (pc := 43) 0 dX9_addCell_43 rfl ?_
          obtain ⟨q14, e⟩ := chk_some e
          obtain ⟨q15, e⟩ := chk_some e
          refine x_getR (pc := 44) gf_X9_9 rfl dX9_addCell_44 q14 q15.1 ?_
          refine x_iconst (pc := 47) dX9_addCell_47 ?_
          obtain ⟨q16, e⟩ := chk_some e
          refine x_iald (pc := 48) dX9_addCell_48 q15 q16 ?_
          refine x_iload_n (pc := 49) 2 dX9_addCell_49 rfl ?_
          refine x_isub (pc := 50) dX9_addCell_50 ?_
          rcases ite_some e with ⟨q17, e⟩ | ⟨q17, e⟩
          · refine x_icmp_le_t (pc := 51) (t := 60) dX9_addCell_51 (by decide) q17 ?_
            refine x_aload_n (pc := 60) 0 dX9_addCell_60 rfl ?_
            refine x_getR (pc := 61) gf_X9_9 rfl dX9_addCell_61 q14 q15.1 ?_
            refine x_iconst (pc := 64) dX9_addCell_64 ?_
            obtain ⟨q18, e⟩ := chk_some e
            refine x_iald (pc := 65) dX9_addCell_65 q15 q18 ?_
            refine x_bipush (pc := 66) (v := iN 16) dX9_addCell_66 rfl ?_
            rcases ite_some e with ⟨q19, e⟩ | ⟨q19, e⟩
            · refine x_icmp_eq_t (pc := 68) (t := 81) dX9_addCell_68 (by decide) q19 ?_
              exact x_sub1 (p_X9_addCell_L81 hl e) [0] rfl
            · refine x_icmp_eq_f (pc := 68) (t := 81) dX9_addCell_68 (by decide) q19 ?_
              refine x_aload_n (pc := 71) 0 dX9_addCell_71 rfl ?_
              refine x_iload_n (pc := 72) 1 dX9_addCell_72 rfl ?_
              refine x_iload_n (pc := 73) 2 dX9_addCell_73 rfl ?_
              refine x_iload_n (pc := 74) 3 dX9_addCell_74 rfl ?_
              rcases bnd_some e with ⟨h20, r21, ec, rfl⟩ | ⟨h20, r21, ec, e⟩
              · exact y_callV_x (pc := 75) (c_X9_isFree hl ec) q14 mf_X9_isFree tw_7_55 ts_6_10 lf_X9_113 rfl rfl dX9_addCell_75 (by decide) rfl rfl (leb rfl) (xx_out0 rfl)
              refine y_callV_i (pc := 75) (c_X9_isFree hl ec) q14 mf_X9_isFree tw_7_55 ts_6_10 lf_X9_113 rfl rfl dX9_addCell_75 (by decide) rfl rfl (leb rfl) ?_
              rcases ite_some e with ⟨q22, e⟩ | ⟨q22, e⟩
              · refine x_if_ne_f (pc := 78) (t := 87) dX9_addCell_78 (by decide) q22 ?_
                exact x_sub1 (p_X9_addCell_L81 hl e) [0] rfl
              · refine x_if_ne_t (pc := 78) (t := 87) dX9_addCell_78 (by decide) q22 ?_
                refine x_aload_n (pc := 87) 0 dX9_addCell_87 rfl ?_
                refine x_iload_n (pc := 88) 1 dX9_addCell_88 rfl ?_
                refine x_iload_n (pc := 89) 2 dX9_addCell_89 rfl ?_
                refine x_iload_n (pc := 90) 3 dX9_addCell_90 rfl ?_
                refine x_iload (pc := 91) 4 dX9_addCell_91 rfl ?_
                obtain ⟨q23, e⟩ := chk_some e
                rcases bnd_some e with ⟨h24, r25, ec, rfl⟩ | ⟨h24, r25, ec, e⟩
                · exact y_callV_x (pc := 93) (c_X9_adds hl ec) q23 mf_X9_adds tw_7_67 ts_6_13 lf_X9_116 rfl rfl dX9_addCell_93 (by decide) rfl rfl (leb rfl) (xx_out0 rfl)
                refine y_callV_i (pc := 93) (c_X9_adds hl ec) q23 mf_X9_adds tw_7_67 ts_6_13 lf_X9_116 rfl rfl dX9_addCell_93 (by decide) rfl rfl (leb rfl) ?_
                cases Option.some.inj e
                exact x_iret (pc := 96) rfl dX9_addCell_96
          · refine x_icmp_le_f (pc := 51) (t := 60) dX9_addCell_51 (by decide) q17 ?_
            exact x_sub1 (p_X9_addCell_L54 hl e) [0] rfl
abbrev w_X9_addCell : Cond := (Cond.code yX9_addCell cX9_addCell 5 (Option.some Jvm.ClassFile.FieldType.int))
theorem mf_X9_addCell : MF yX9_addCell w_X9_addCell cX9_addCell 5 (Option.some Jvm.ClassFile.FieldType.int) 4 := ⟨⟨rfl, tw_7_48, by decide⟩, tw_1_11, ⟨by decide, by decide⟩, by decide +kernel⟩
theorem c_X9_addCell {l : Launch} {K : Ctx} (hl : l.stackTraces = false) {h : Hp} {a0 : Nat} {i1 : Int32} {i2 : Int32} {i3 : Int32} {i4 : Int32} {t : Rs Int32} (e : f_X9_addCell h a0 i1 i2 i3 i4 = some t) : Ctr l K 11 yX9_addCell w_X9_addCell [.ref a0, .int i1, .int i2, .int i3, .int i4] h (tgI t) :=
  Ctr.of hl mf_X9_addCell false (fun q => nomatch q) rfl (leb rfl) (p_X9_addCell hl e)
/-! ## TableColumnBalancer.requireCell -/
abbrev mM_X8_requireCell : Mi := (9, yX8_requireCell.cls, cX8_requireCell, 2, (Option.none : Option Jvm.ClassFile.FieldType), [], false)
noncomputable def f_X8_requireCell (h : Hp) (a0 : Nat) (i1 : Int32) : Option (Rs Unit) :=
  chk (okr h a0 8) <|
  chk (okr h (qR h a0 0) 7) <|
  bnd (f_X8_isWithin h i1 (iN 0) ((qI h (qR h a0 0) 5) - (iN 1))) fun h3 r4 =>
  bnd (f_X8_requireIndex h3 r4) fun h5 _ =>
  some (h5, .inr ())
theorem p_X8_requireCell {l : Launch} {K : Ctx} (hl : l.stackTraces = false) {h : Hp} {a0 : Nat} {i1 : Int32} {t : Rs Unit} (e : f_X8_requireCell h a0 i1 = some t) : X l K mM_X8_requireCell (tgV t) 0 [(0, .ref a0), (1, .int i1)] [] h := by
  unfold f_X8_requireCell at e
  refine x_iload_n (pc := 0) 1 dX8_requireCell_0 rfl ?_
  refine x_iconst (pc := 1) dX8_requireCell_1 ?_
  refine x_aload_n (pc := 2) 0 dX8_requireCell_2 rfl ?_
  obtain ⟨q1, e⟩ := chk_some e
  obtain ⟨q2, e⟩ := chk_some e
  refine x_getR (pc := 3) gf_X8_10 rfl dX8_requireCell_3 q1 q2.1 ?_
  refine x_getI (pc := 6) gf_X8_80 rfl dX8_requireCell_6 q2 ?_
  refine x_iconst (pc := 9) dX8_requireCell_9 ?_
  refine x_isub (pc := 10) dX8_requireCell_10 ?_
  rcases bnd_some e with ⟨h3, r4, ec, rfl⟩ | ⟨h3, r4, ec, e⟩
  · exact y_callS_x (pc := 11) (c_X8_isWithin hl ec) mf_X8_isWithin tw_3_26 lf_X8_72 dX8_requireCell_11 (by decide) rfl rfl (leb rfl) (xx_out0 rfl)
  refine y_callS_i (pc := 11) (c_X8_isWithin hl ec) mf_X8_isWithin tw_3_26 lf_X8_72 dX8_requireCell_11 (by decide) rfl rfl (leb rfl) ?_
  rcases bnd_some e with ⟨h5, r6, ec, rfl⟩ | ⟨h5, r6, ec, e⟩
  · exact y_callS_x (pc := 14) (c_X8_requireIndex hl ec) mf_X8_requireIndex tw_3_225 lf_X8_96 dX8_requireCell_14 (by decide) rfl rfl (leb rfl) (xx_out0 rfl)
  refine y_callS_v (pc := 14) (c_X8_requireIndex hl ec) mf_X8_requireIndex tw_3_225 lf_X8_96 dX8_requireCell_14 (by decide) rfl rfl (leb rfl) ?_
  cases Option.some.inj e
  exact x_vret (pc := 17) rfl dX8_requireCell_17
abbrev w_X8_requireCell : Cond := (Cond.code yX8_requireCell cX8_requireCell 2 (Option.none : Option Jvm.ClassFile.FieldType))
theorem mf_X8_requireCell : MF yX8_requireCell w_X8_requireCell cX8_requireCell 2 (Option.none : Option Jvm.ClassFile.FieldType) 1 := ⟨⟨rfl, tw_4_68, by decide⟩, tw_1_1, ⟨by decide, by decide⟩, by decide +kernel⟩
theorem c_X8_requireCell {l : Launch} {K : Ctx} (hl : l.stackTraces = false) {h : Hp} {a0 : Nat} {i1 : Int32} {t : Rs Unit} (e : f_X8_requireCell h a0 i1 = some t) : Ctr l K 9 yX8_requireCell w_X8_requireCell [.ref a0, .int i1] h (tgV t) :=
  Ctr.of hl mf_X8_requireCell false (fun q => nomatch q) rfl (leb rfl) (p_X8_requireCell hl e)
/-! ## TableColumnBalancer$Table.takeOut -/
abbrev mM_X7_takeOut : Mi := (8, yX7_takeOut.cls, cX7_takeOut, 4, (Option.none : Option Jvm.ClassFile.FieldType), [], false)
noncomputable def f_X7_takeOut_B11 (k11 : Hp → Nat → Nat → Int32 → Option (Rs Unit)) (h : Hp) (a0 : Nat) (a2 : Nat) (i3 : Int32) : Option (Rs Unit) :=
  chk (okr h a0 7) <|
  if (qI h a0 5) ≤ i3 then (
    lt (putI h a0 5 ((qI h a0 5) - (iN 1))) fun h3 =>
    chk (okr h3 (qR h3 a0 8) 25) <|
    chk (vp_in (qI h3 a0 5) (qW h3 (qR h3 a0 8))) <|
    chk (okr h3 a2 1) <|
    lt (putR h3 (qR h3 a0 8) (Int32.toNatClampNeg (qI h3 a0 5)) a2) fun h7 =>
    some (h7, .inr ())
  ) else (
    chk (okr h (qR h a0 8) 25) <|
    chk (vp_in i3 (qW h (qR h a0 8))) <|
    chk (okr h (qR h (qR h a0 8) (Int32.toNatClampNeg i3)) 1) <|
    chk (vp_in (i3 - (iN 1)) (qW h (qR h a0 8))) <|
    lt (putR h (qR h a0 8) (Int32.toNatClampNeg (i3 - (iN 1))) (qR h (qR h a0 8) (Int32.toNatClampNeg i3))) fun h12 =>
    k11 h12 a0 a2 (i3 + iN 1)
  )
theorem p_X7_takeOut_B11 {l : Launch} {K : Ctx} (hl : l.stackTraces = false) {k11 : Hp → Nat → Nat → Int32 → Option (Rs Unit)} (hk11 : ∀ (h : Hp) (a0 : Nat) (a2 : Nat) (i3 : Int32) (t : Rs Unit), k11 h a0 a2 i3 = some t → X l K mM_X7_takeOut (tgV t) 11 [(0, .ref a0), (2, .ref a2), (3, .int i3)] [] h) {h : Hp} {a0 : Nat} {a2 : Nat} {i3 : Int32} {t : Rs Unit} (e : f_X7_takeOut_B11 k11 h a0 a2 i3 = some t) : X l K mM_X7_takeOut (tgV t) 11 [(0, .ref a0), (2, .ref a2), (3, .int i3)] [] h := by
  unfold f_X7_takeOut_B11 at e
  refine x_iload_n (pc := 11) 2 dX7_takeOut_11 rfl ?_
  refine x_aload_n (pc := 12) 0 dX7_takeOut_12 rfl ?_
  obtain ⟨q1, e⟩ := chk_some e
  refine x_getI (pc := 13) gf_X7_41 rfl dX7_takeOut_13 q1 ?_
  rcases ite_some e with ⟨q2, e⟩ | ⟨q2, e⟩
  · refine x_icmp_ge_t (pc := 16) (t := 39) dX7_takeOut_16 (by decide) q2 ?_
    refine x_aload_n (pc := 39) 0 dX7_takeOut_39 rfl ?_
    refine x_dup (pc := 40) dX7_takeOut_40 rfl ?_
    refine x_getI (pc := 41) gf_X7_41 rfl dX7_takeOut_41 q1 ?_
    refine x_iconst (pc := 44) dX7_takeOut_44 ?_
    refine x_isub (pc := 45) dX7_takeOut_45 ?_
    replace e := lt_go e
    refine x_putI (pc := 46) pf_X7_41 rfl rfl rfl dX7_takeOut_46 q1 ?_
    refine x_aload_n (pc := 49) 0 dX7_takeOut_49 rfl ?_
    obtain ⟨q4, e⟩ := chk_some e
    refine x_getR (pc := 50) gf_X7_30 rfl dX7_takeOut_50 (okr_pI q1) q4.1 ?_
    refine x_aload_n (pc := 53) 0 dX7_takeOut_53 rfl ?_
    refine x_getI (pc := 54) gf_X7_41 rfl dX7_takeOut_54 (okr_pI q1) ?_
    refine x_aload_n (pc := 57) 1 dX7_takeOut_57 rfl ?_
    obtain ⟨q5, e⟩ := chk_some e
    obtain ⟨q6, e⟩ := chk_some e
    replace e := lt_go e
    refine x_aast (pc := 58) (t := 1) (by decide) dX7_takeOut_58 q4 q5 q6 ?_
    cases Option.some.inj e
    exact x_vret (pc := 59) rfl dX7_takeOut_59
  · refine x_icmp_ge_f (pc := 16) (t := 39) dX7_takeOut_16 (by decide) q2 ?_
    refine x_aload_n (pc := 19) 0 dX7_takeOut_19 rfl ?_
    obtain ⟨q8, e⟩ := chk_some e
    refine x_getR (pc := 20) gf_X7_30 rfl dX7_takeOut_20 q1 q8.1 ?_
    refine x_iload_n (pc := 23) 2 dX7_takeOut_23 rfl ?_
    refine x_iconst (pc := 24) dX7_takeOut_24 ?_
    refine x_isub (pc := 25) dX7_takeOut_25 ?_
    refine x_aload_n (pc := 26) 0 dX7_takeOut_26 rfl ?_
    refine x_getR (pc := 27) gf_X7_30 rfl dX7_takeOut_27 q1 q8.1 ?_
    refine x_iload_n (pc := 30) 2 dX7_takeOut_30 rfl ?_
    obtain ⟨q9, e⟩ := chk_some e
    obtain ⟨q10, e⟩ := chk_some e
    refine x_aald (pc := 31) (t := 1) (by decide) dX7_takeOut_31 q8 q9 q10.1 ?_
    obtain ⟨q11, e⟩ := chk_some e
    replace e := lt_go e
    refine x_aast (pc := 32) (t := 1) (by decide) dX7_takeOut_32 q8 q11 q10 ?_
    refine x_iinc (pc := 33) 2 dX7_takeOut_33 rfl (by decide) rfl ?_
    refine x_goto (pc := 36) (t := 11) dX7_takeOut_36 (by decide) ?_
    exact x_sub1 (hk11 _ _ _ _ _ e) [1, 2, 0] rfl
noncomputable def f_X7_takeOut_L11 (n : Nat) : Hp → Nat → Nat → Int32 → Option (Rs Unit) := Nat.rec (motive := fun _ => Hp → Nat → Nat → Int32 → Option (Rs Unit)) (fun _ _ _ _ => none) (fun _ r => f_X7_takeOut_B11 r) n
theorem p_X7_takeOut_L11 {l : Launch} {K : Ctx} (hl : l.stackTraces = false) : ∀ (n : Nat) (h : Hp) (a0 : Nat) (a2 : Nat) (i3 : Int32) (t : Rs Unit) (e : f_X7_takeOut_L11 n h a0 a2 i3 = some t), X l K mM_X7_takeOut (tgV t) 11 [(0, .ref a0), (2, .ref a2), (3, .int i3)] [] h := by
  intro n
  induction n with
  | zero => exact fun _ _ _ _ _ e => nomatch (show (none : Option (Rs Unit)) = some _ from e)
  | succ n ih => exact fun h a0 a2 i3 t e => p_X7_takeOut_B11 hl (fun h a0 a2 i3 t e => ih h a0 a2 i3 t e) e
noncomputable def f_X7_takeOut (h : Hp) (a0 : Nat) (i1 : Int32) : Option (Rs Unit) :=
  chk (okr h a0 7) <|
  chk (okr h (qR h a0 8) 25) <|
  chk (vp_in i1 (qW h (qR h a0 8))) <|
  chk (okr h (qR h (qR h a0 8) (Int32.toNatClampNeg i1)) 1) <|
  f_X7_takeOut_L11 2000 h a0 (qR h (qR h a0 8) (Int32.toNatClampNeg i1)) (i1 + (iN 1))
theorem p_X7_takeOut {l : Launch} {K : Ctx} (hl : l.stackTraces = false) {h : Hp} {a0 : Nat} {i1 : Int32} {t : Rs Unit} (e : f_X7_takeOut h a0 i1 = some t) : X l K mM_X7_takeOut (tgV t) 0 [(0, .ref a0), (1, .int i1)] [] h := by
  unfold f_X7_takeOut at e
  refine x_aload_n (pc := 0) 0 dX7_takeOut_0 rfl ?_
  obtain ⟨q1, e⟩ := chk_some e
  obtain ⟨q2, e⟩ := chk_some e
  refine x_getR (pc := 1) gf_X7_30 rfl dX7_takeOut_1 q1 q2.1 ?_
  refine x_iload_n (pc := 4) 1 dX7_takeOut_4 rfl ?_
  obtain ⟨q3, e⟩ := chk_some e
  obtain ⟨q4, e⟩ := chk_some e
  refine x_aald (pc := 5) (t := 1) (by decide) dX7_takeOut_5 q2 q3 q4.1 ?_
  refine x_astore_n (pc := 6) dX7_takeOut_6 (by decide) rfl ?_
  refine x_iload_n (pc := 7) 2 dX7_takeOut_7 rfl ?_
  refine x_iconst (pc := 8) dX7_takeOut_8 ?_
  refine x_iadd (pc := 9) dX7_takeOut_9 ?_
  refine x_istore_n (pc := 10) dX7_takeOut_10 (by decide) rfl ?_
  exact x_sub1 (p_X7_takeOut_L11 hl 2000 _ _ _ _ _ e) [2, 1, 0] rfl
abbrev w_X7_takeOut : Cond := (Cond.code yX7_takeOut cX7_takeOut 4 (Option.none : Option Jvm.ClassFile.FieldType))
theorem mf_X7_takeOut : MF yX7_takeOut w_X7_takeOut cX7_takeOut 4 (Option.none : Option Jvm.ClassFile.FieldType) 1 := ⟨⟨rfl, tw_4_72, by decide⟩, tw_1_2, ⟨by decide, by decide⟩, by decide +kernel⟩
theorem c_X7_takeOut {l : Launch} {K : Ctx} (hl : l.stackTraces = false) {h : Hp} {a0 : Nat} {i1 : Int32} {t : Rs Unit} (e : f_X7_takeOut h a0 i1 = some t) : Ctr l K 8 yX7_takeOut w_X7_takeOut [.ref a0, .int i1] h (tgV t) :=
  Ctr.of hl mf_X7_takeOut false (fun q => nomatch q) rfl (leb rfl) (p_X7_takeOut hl e)
/-! ## TableColumnBalancer.removeCell -/
abbrev mM_X8_removeCell : Mi := (14, yX8_removeCell.cls, cX8_removeCell, 2, (Option.some Jvm.ClassFile.FieldType.int), [], false)
noncomputable def f_X8_removeCell (h : Hp) (a0 : Nat) (i1 : Int32) : Option (Rs Int32) :=
  chk (okr h a0 8) <|
  bnd (f_X8_requireCell h a0 i1) fun h2 _ =>
  chk (okr h2 a0 8) <|
  chk (okr h2 (qR h2 a0 0) 7) <|
  bnd (f_X7_takeOut h2 (qR h2 a0 0) i1) fun h6 _ =>
  chk (okr h6 a0 8) <|
  bnd (f_X8_changed h6 a0) fun h9 _ =>
  chk (okr h9 a0 8) <|
  chk (okr h9 (qR h9 a0 0) 7) <|
  some (h9, .inr (qI h9 (qR h9 a0 0) 5))
theorem p_X8_removeCell {l : Launch} {K : Ctx} (hl : l.stackTraces = false) {h : Hp} {a0 : Nat} {i1 : Int32} {t : Rs Int32} (e : f_X8_removeCell h a0 i1 = some t) : X l K mM_X8_removeCell (tgI t) 0 [(0, .ref a0), (1, .int i1)] [] h := by
  unfold f_X8_removeCell at e
  refine x_aload_n (pc := 0) 0 dX8_removeCell_0 rfl ?_
  refine x_iload_n (pc := 1) 1 dX8_removeCell_1 rfl ?_
  obtain ⟨q1, e⟩ := chk_some e
  rcases bnd_some e with ⟨h2, r3, ec, rfl⟩ | ⟨h2, r3, ec, e⟩
  · exact y_callV_x (pc := 2) (c_X8_requireCell hl ec) q1 mf_X8_requireCell tw_4_67 ts_3_14 lf_X8_139 rfl rfl dX8_removeCell_2 (by decide) rfl rfl (leb rfl) (xx_out0 rfl)
  refine y_callV_v (pc := 2) (c_X8_requireCell hl ec) q1 mf_X8_requireCell tw_4_67 ts_3_14 lf_X8_139 rfl rfl dX8_removeCell_2 (by decide) rfl rfl (leb rfl) ?_
  refine x_aload_n (pc := 5) 0 dX8_removeCell_5 rfl ?_
  obtain ⟨q4, e⟩ := chk_some e
  obtain ⟨q5, e⟩ := chk_some e
  refine x_getR (pc := 6) gf_X8_10 rfl dX8_removeCell_6 q4 q5.1 ?_
  refine x_iload_n (pc := 9) 1 dX8_removeCell_9 rfl ?_
  rcases bnd_some e with ⟨h6, r7, ec, rfl⟩ | ⟨h6, r7, ec, e⟩
  · exact y_callV_x (pc := 10) (c_X7_takeOut hl ec) q5 mf_X7_takeOut tw_4_71 ts_3_15 lf_X8_142 rfl rfl dX8_removeCell_10 (by decide) rfl rfl (leb rfl) (xx_out0 rfl)
  refine y_callV_v (pc := 10) (c_X7_takeOut hl ec) q5 mf_X7_takeOut tw_4_71 ts_3_15 lf_X8_142 rfl rfl dX8_removeCell_10 (by decide) rfl rfl (leb rfl) ?_
  refine x_aload_n (pc := 13) 0 dX8_removeCell_13 rfl ?_
  obtain ⟨q8, e⟩ := chk_some e
  rcases bnd_some e with ⟨h9, r10, ec, rfl⟩ | ⟨h9, r10, ec, e⟩
  · exact y_callV_x (pc := 14) (c_X8_changed hl ec) q8 mf_X8_changed tw_3_182 ts_3_5 lf_X8_93 rfl rfl dX8_removeCell_14 (by decide) rfl rfl (leb rfl) (xx_out0 rfl)
  refine y_callV_v (pc := 14) (c_X8_changed hl ec) q8 mf_X8_changed tw_3_182 ts_3_5 lf_X8_93 rfl rfl dX8_removeCell_14 (by decide) rfl rfl (leb rfl) ?_
  refine x_aload_n (pc := 17) 0 dX8_removeCell_17 rfl ?_
  obtain ⟨q11, e⟩ := chk_some e
  obtain ⟨q12, e⟩ := chk_some e
  refine x_getR (pc := 18) gf_X8_10 rfl dX8_removeCell_18 q11 q12.1 ?_
  refine x_getI (pc := 21) gf_X8_80 rfl dX8_removeCell_21 q12 ?_
  cases Option.some.inj e
  exact x_iret (pc := 24) rfl dX8_removeCell_24
abbrev w_X8_removeCell : Cond := (Cond.code yX8_removeCell cX8_removeCell 2 (Option.some Jvm.ClassFile.FieldType.int))
theorem mf_X8_removeCell : MF yX8_removeCell w_X8_removeCell cX8_removeCell 2 (Option.some Jvm.ClassFile.FieldType.int) 1 := ⟨⟨rfl, tw_4_64, by decide⟩, tw_1_1, ⟨by decide, by decide⟩, by decide +kernel⟩
theorem c_X8_removeCell {l : Launch} {K : Ctx} (hl : l.stackTraces = false) {h : Hp} {a0 : Nat} {i1 : Int32} {t : Rs Int32} (e : f_X8_removeCell h a0 i1 = some t) : Ctr l K 14 yX8_removeCell w_X8_removeCell [.ref a0, .int i1] h (tgI t) :=
  Ctr.of hl mf_X8_removeCell false (fun q => nomatch q) rfl (leb rfl) (p_X8_removeCell hl e)
/-! ## TableColumnBalancerLaw.removeCell -/
abbrev mM_L_removeCell : Mi := (15, yL_removeCell.cls, cL_removeCell, 4, (Option.some Jvm.ClassFile.FieldType.int), [((0 : Nat), (9 : Nat), (12 : Nat), (21 : Nat))], false)
noncomputable def f_L_removeCell (h : Hp) (a0 : Nat) (i1 : Int32) (a2 : Nat) : Option (Rs Int32) :=
  chk (okr h a0 8) <|
  bndX (f_X8_removeCell h a0 i1) (fun h2 r3 => (
    chk (okr h2 a2 21) <|
    chk (vp_in (iN 0) (qW h2 a2)) <|
    lt (putL h2 a2 (Int32.toNatClampNeg (iN 0)) (Int32.toInt64 r3)) fun h6 =>
    some (h6, .inr (iN 0))
  )) fun h2 k =>
  if k = 2 then (
    some (h2, .inr (iN 1))
  ) else
  none
theorem p_L_removeCell {l : Launch} {K : Ctx} (hl : l.stackTraces = false) {h : Hp} {a0 : Nat} {i1 : Int32} {a2 : Nat} {t : Rs Int32} (e : f_L_removeCell h a0 i1 a2 = some t) : X l K mM_L_removeCell (tgI t) 0 [(0, .ref a0), (1, .int i1), (2, .ref a2)] [] h := by
  unfold f_L_removeCell at e
  refine x_aload_n (pc := 0) 2 dL_removeCell_0 rfl ?_
  refine x_iconst (pc := 1) dL_removeCell_1 ?_
  refine x_aload_n (pc := 2) 0 dL_removeCell_2 rfl ?_
  refine x_iload_n (pc := 3) 1 dL_removeCell_3 rfl ?_
  obtain ⟨q1, e⟩ := chk_some e
  rcases bndX_some e with ⟨h2, k, ec, e⟩ | ⟨h2, r3, ec, e⟩
  · rcases ite_some e with ⟨q7, e⟩ | ⟨q7, e⟩
    · subst q7
      refine y_callV_x (pc := 4) (c_X8_removeCell hl ec) q1 mf_X8_removeCell tw_4_62 tw_4_63 lf_L_35 rfl rfl dL_removeCell_4 (by decide) rfl rfl (leb rfl) (xx_catch (pc := 4) [] [] (0, 9, 12, 21) rfl (by decide) (fun _ hz => absurd hz List.not_mem_nil) (by decide) (by decide) tw_3_187 tw_3_229 dL_removeCell_12 (by decide) rfl ?_)
      refine x_iconst (pc := 13) dL_removeCell_13 ?_
      cases Option.some.inj e
      exact x_iret (pc := 14) rfl dL_removeCell_14
    cases e
  refine y_callV_i (pc := 4) (c_X8_removeCell hl ec) q1 mf_X8_removeCell tw_4_62 tw_4_63 lf_L_35 rfl rfl dL_removeCell_4 (by decide) rfl rfl (leb rfl) ?_
  refine x_i2l (pc := 7) dL_removeCell_7 ?_
  obtain ⟨q4, e⟩ := chk_some e
  obtain ⟨q5, e⟩ := chk_some e
  replace e := lt_go e
  refine x_last (pc := 8) dL_removeCell_8 q4 q5 ?_
  refine x_goto (pc := 9) (t := 15) dL_removeCell_9 (by decide) ?_
  refine x_iconst (pc := 15) dL_removeCell_15 ?_
  cases Option.some.inj e
  exact x_iret (pc := 16) rfl dL_removeCell_16
abbrev w_L_removeCell : Cond := (Cond.codeWith yL_removeCell cL_removeCell 4 (Option.some Jvm.ClassFile.FieldType.int) [((0 : Nat), (9 : Nat), (12 : Nat), (21 : Nat))])
theorem mf_L_removeCell : MFX yL_removeCell w_L_removeCell cL_removeCell 4 (Option.some Jvm.ClassFile.FieldType.int) 3 [((0 : Nat), (9 : Nat), (12 : Nat), (21 : Nat))] := ⟨⟨rfl, tw_4_60, by decide⟩, tw_1_0, ⟨by decide, by decide⟩, by decide +kernel⟩
theorem c_L_removeCell {l : Launch} {K : Ctx} (hl : l.stackTraces = false) {h : Hp} {a0 : Nat} {i1 : Int32} {a2 : Nat} {t : Rs Int32} (e : f_L_removeCell h a0 i1 a2 = some t) : Ctr l K 15 yL_removeCell w_L_removeCell [.ref a0, .int i1, .ref a2] h (tgI t) :=
  Ctr.ofX hl mf_L_removeCell rfl (leb rfl) (p_L_removeCell hl e)
/-! ## TableColumnBalancerModel.isCell -/
abbrev mM_X9_isCell : Mi := (9, yX9_isCell.cls, cX9_isCell, 2, (Option.some Jvm.ClassFile.FieldType.boolean), [], false)
noncomputable def f_X9_isCell (h : Hp) (a0 : Nat) (i1 : Int32) : Option (Rs Int32) :=
  chk (okr h a0 9) <|
  chk (okr h (qR h a0 1) 20) <|
  chk (vp_in (iN 5) (qW h (qR h a0 1))) <|
  bnd (f_X9_in h i1 (iN 0) ((qI h (qR h a0 1) (Int32.toNatClampNeg (iN 5))) - (iN 1))) fun h4 r5 =>
  chk (r5 = 0 ∨ r5 = 1) <|
  some (h4, .inr r5)
theorem p_X9_isCell {l : Launch} {K : Ctx} (hl : l.stackTraces = false) {h : Hp} {a0 : Nat} {i1 : Int32} {t : Rs Int32} (e : f_X9_isCell h a0 i1 = some t) : X l K mM_X9_isCell (tgI t) 0 [(0, .ref a0), (1, .int i1)] [] h := by
  unfold f_X9_isCell at e
  refine x_iload_n (pc := 0) 1 dX9_isCell_0 rfl ?_
  refine x_iconst (pc := 1) dX9_isCell_1 ?_
  refine x_aload_n (pc := 2) 0 dX9_isCell_2 rfl ?_
  obtain ⟨q1, e⟩ := chk_some e
  obtain ⟨q2, e⟩ := chk_some e
  refine x_getR (pc := 3) gf_X9_9 rfl dX9_isCell_3 q1 q2.1 ?_
  refine x_iconst (pc := 6) dX9_isCell_6 ?_
  obtain ⟨q3, e⟩ := chk_some e
  refine x_iald (pc := 7) dX9_isCell_7 q2 q3 ?_
  refine x_iconst (pc := 8) dX9_isCell_8 ?_
  refine x_isub (pc := 9) dX9_isCell_9 ?_
  rcases bnd_some e with ⟨h4, r5, ec, rfl⟩ | ⟨h4, r5, ec, e⟩
  · exact y_callS_x (pc := 10) (c_X9_in hl ec) mf_X9_in tw_7_20 lf_X9_87 dX9_isCell_10 (by decide) rfl rfl (leb rfl) (xx_out0 rfl)
  refine y_callS_i (pc := 10) (c_X9_in hl ec) mf_X9_in tw_7_20 lf_X9_87 dX9_isCell_10 (by decide) rfl rfl (leb rfl) ?_
  obtain ⟨q6, e⟩ := chk_some e
  cases Option.some.inj e
  exact x_zret (pc := 13) rfl q6 dX9_isCell_13
abbrev w_X9_isCell : Cond := (Cond.code yX9_isCell cX9_isCell 2 (Option.some Jvm.ClassFile.FieldType.boolean))
theorem mf_X9_isCell : MF yX9_isCell w_X9_isCell cX9_isCell 2 (Option.some Jvm.ClassFile.FieldType.boolean) 1 := ⟨⟨rfl, tw_7_76, by decide⟩, tw_1_11, ⟨by decide, by decide⟩, by decide +kernel⟩
theorem c_X9_isCell {l : Launch} {K : Ctx} (hl : l.stackTraces = false) {h : Hp} {a0 : Nat} {i1 : Int32} {t : Rs Int32} (e : f_X9_isCell h a0 i1 = some t) : Ctr l K 9 yX9_isCell w_X9_isCell [.ref a0, .int i1] h (tgI t) :=
  Ctr.of hl mf_X9_isCell false (fun q => nomatch q) rfl (leb rfl) (p_X9_isCell hl e)
/-! ## TableColumnBalancerModel.removes -/
abbrev mM_X9_removes : Mi := (8, yX9_removes.cls, cX9_removes, 3, (Option.none : Option Jvm.ClassFile.FieldType), [], false)
noncomputable def f_X9_removes_B8 (k8 : Hp → Nat → Int32 → Option (Rs Unit)) (h : Hp) (a0 : Nat) (i2 : Int32) : Option (Rs Unit) :=
  if (iN 475) ≤ i2 then (
    chk (okr h a0 9) <|
    chk (okr h (qR h a0 1) 20) <|
    chk (vp_in (iN 5) (qW h (qR h a0 1))) <|
    lt (putI h (qR h a0 1) (Int32.toNatClampNeg (iN 5)) ((qI h (qR h a0 1) (Int32.toNatClampNeg (iN 5))) - (iN 1))) fun h5 =>
    some (h5, .inr ())
  ) else (
    chk (okr h a0 9) <|
    chk (okr h (qR h a0 1) 20) <|
    chk (vp_in (i2 + (iN 31)) (qW h (qR h a0 1))) <|
    chk (vp_in i2 (qW h (qR h a0 1))) <|
    lt (putI h (qR h a0 1) (Int32.toNatClampNeg i2) (qI h (qR h a0 1) (Int32.toNatClampNeg (i2 + (iN 31))))) fun h10 =>
    k8 h10 a0 (i2 + iN 1)
  )
theorem p_X9_removes_B8 {l : Launch} {K : Ctx} (hl : l.stackTraces = false) {k8 : Hp → Nat → Int32 → Option (Rs Unit)} (hk8 : ∀ (h : Hp) (a0 : Nat) (i2 : Int32) (t : Rs Unit), k8 h a0 i2 = some t → X l K mM_X9_removes (tgV t) 8 [(0, .ref a0), (2, .int i2)] [] h) {h : Hp} {a0 : Nat} {i2 : Int32} {t : Rs Unit} (e : f_X9_removes_B8 k8 h a0 i2 = some t) : X l K mM_X9_removes (tgV t) 8 [(0, .ref a0), (2, .int i2)] [] h := by
  unfold f_X9_removes_B8 at e
  refine x_iload_n (pc := 8) 1 dX9_removes_8 rfl ?_
  refine x_sipush (pc := 9) (v := iN 475) dX9_removes_9 rfl ?_
  rcases ite_some e with ⟨q1, e⟩ | ⟨q1, e⟩
  · refine x_icmp_ge_t (pc := 12) (t := 36) dX9_removes_12 (by decide) q1 ?_
    refine x_aload_n (pc := 36) 0 dX9_removes_36 rfl ?_
    obtain ⟨q2, e⟩ := chk_some e
    obtain ⟨q3, e⟩ := chk_some e
    refine x_getR (pc := 37) gf_X9_9 rfl dX9_removes_37 q2 q3.1 ?_
    refine x_iconst (pc := 40) dX9_removes_40 ?_
    refine x_dup2 (pc := 41) dX9_removes_41 rfl rfl ?_
    obtain ⟨q4, e⟩ := chk_some e
    refine x_iald (pc := 42) dX9_removes_42 q3 q4 ?_
    refine x_iconst (pc := 43) dX9_removes_43 ?_
    refine x_isub (pc := 44) dX9_removes_44 ?_
    replace e := lt_go e
    refine x_iast (pc := 45) dX9_removes_45 q3 q4 ?_
    cases Option.some.inj e
    exact x_vret (pc := 46) rfl dX9_removes_46
  · refine x_icmp_ge_f (pc := 12) (t := 36) dX9_removes_12 (by decide) q1 ?_
    refine x_aload_n (pc := 15) 0 dX9_removes_15 rfl ?_
    obtain ⟨q6, e⟩ := chk_some e
    obtain ⟨q7, e⟩ := chk_some e
    refine x_getR (pc := 16) gf_X9_9 rfl dX9_removes_16 q6 q7.1 ?_
    refine x_iload_n (pc := 19) 1 dX9_removes_19 rfl ?_
    refine x_aload_n (pc := 20) 0 dX9_removes_20 rfl ?_
    refine x_getR (pc := 21) gf_X9_9 rfl dX9_removes_21 q6 q7.1 ?_
    refine x_iload_n (pc := 24) 1 dX9_removes_24 rfl ?_
    refine x_bipush (pc := 25) (v := iN 31) dX9_removes_25 rfl ?_
    refine x_iadd (pc := 27) dX9_removes_27 ?_
    obtain ⟨q8, e⟩ := chk_some e
    refine x_iald (pc := 28) dX9_removes_28 q7 q8 ?_
    obtain ⟨q9, e⟩ := chk_some e
    replace e := lt_go e
    refine x_iast (pc := 29) dX9_removes_29 q7 q9 ?_
    refine x_iinc (pc := 30) 1 dX9_removes_30 rfl (by decide) rfl ?_
    refine x_goto (pc := 33) (t := 8) dX9_removes_33 (by decide) ?_
    exact x_sub1 (hk8 _ _ _ _ e) [1, 0] rfl
noncomputable def f_X9_removes_L8 (n : Nat) : Hp → Nat → Int32 → Option (Rs Unit) := Nat.rec (motive := fun _ => Hp → Nat → Int32 → Option (Rs Unit)) (fun _ _ _ => none) (fun _ r => f_X9_removes_B8 r) n
theorem p_X9_removes_L8 {l : Launch} {K : Ctx} (hl : l.stackTraces = false) : ∀ (n : Nat) (h : Hp) (a0 : Nat) (i2 : Int32) (t : Rs Unit) (e : f_X9_removes_L8 n h a0 i2 = some t), X l K mM_X9_removes (tgV t) 8 [(0, .ref a0), (2, .int i2)] [] h := by
  intro n
  induction n with
  | zero => exact fun _ _ _ _ e => nomatch (show (none : Option (Rs Unit)) = some _ from e)
  | succ n ih => exact fun h a0 i2 t e => p_X9_removes_B8 hl (fun h a0 i2 t e => ih h a0 i2 t e) e
noncomputable def f_X9_removes (h : Hp) (a0 : Nat) (i1 : Int32) : Option (Rs Unit) :=
  f_X9_removes_L8 2000 h a0 ((iN 10) + ((iN 31) * i1))
theorem p_X9_removes {l : Launch} {K : Ctx} (hl : l.stackTraces = false) {h : Hp} {a0 : Nat} {i1 : Int32} {t : Rs Unit} (e : f_X9_removes h a0 i1 = some t) : X l K mM_X9_removes (tgV t) 0 [(0, .ref a0), (1, .int i1)] [] h := by
  unfold f_X9_removes at e
  refine x_bipush (pc := 0) (v := iN 10) dX9_removes_0 rfl ?_
  refine x_bipush (pc := 2) (v := iN 31) dX9_removes_2 rfl ?_
  refine x_iload_n (pc := 4) 1 dX9_removes_4 rfl ?_
  refine x_imul (pc := 5) dX9_removes_5 ?_
  refine x_iadd (pc := 6) dX9_removes_6 ?_
  refine x_istore_n (pc := 7) dX9_removes_7 (by decide) rfl ?_
  exact x_sub1 (p_X9_removes_L8 hl 2000 _ _ _ _ e) [1, 0] rfl
abbrev w_X9_removes : Cond := (Cond.code yX9_removes cX9_removes 3 (Option.none : Option Jvm.ClassFile.FieldType))
theorem mf_X9_removes : MF yX9_removes w_X9_removes cX9_removes 3 (Option.none : Option Jvm.ClassFile.FieldType) 1 := ⟨⟨rfl, tw_7_80, by decide⟩, tw_1_11, ⟨by decide, by decide⟩, by decide +kernel⟩
theorem c_X9_removes {l : Launch} {K : Ctx} (hl : l.stackTraces = false) {h : Hp} {a0 : Nat} {i1 : Int32} {t : Rs Unit} (e : f_X9_removes h a0 i1 = some t) : Ctr l K 8 yX9_removes w_X9_removes [.ref a0, .int i1] h (tgV t) :=
  Ctr.of hl mf_X9_removes false (fun q => nomatch q) rfl (leb rfl) (p_X9_removes hl e)
/-! ## TableColumnBalancerModel.removeCell -/
abbrev mM_X9_removeCell : Mi := (10, yX9_removeCell.cls, cX9_removeCell, 2, (Option.some Jvm.ClassFile.FieldType.int), [], false)
noncomputable def f_X9_removeCell (h : Hp) (a0 : Nat) (i1 : Int32) : Option (Rs Int32) :=
  chk (okr h a0 9) <|
  lt (putI h a0 0 (iN 0)) fun h2 =>
  bnd (f_X9_isCell h2 a0 i1) fun h3 r4 =>
  if r4 = 0 then (
    chk (okr h3 a0 9) <|
    bnd (f_X9_fails h3 a0 (iN 1)) fun h7 r8 =>
    some (h7, .inr r8)
  ) else (
    chk (okr h3 a0 9) <|
    bnd (f_X9_removes h3 a0 i1) fun h10 _ =>
    chk (okr h10 a0 9) <|
    chk (okr h10 (qR h10 a0 1) 20) <|
    chk (vp_in (iN 5) (qW h10 (qR h10 a0 1))) <|
    some (h10, .inr (qI h10 (qR h10 a0 1) (Int32.toNatClampNeg (iN 5))))
  )
theorem p_X9_removeCell {l : Launch} {K : Ctx} (hl : l.stackTraces = false) {h : Hp} {a0 : Nat} {i1 : Int32} {t : Rs Int32} (e : f_X9_removeCell h a0 i1 = some t) : X l K mM_X9_removeCell (tgI t) 0 [(0, .ref a0), (1, .int i1)] [] h := by
  unfold f_X9_removeCell at e
  refine x_aload_n (pc := 0) 0 dX9_removeCell_0 rfl ?_
  refine x_iconst (pc := 1) dX9_removeCell_1 ?_
  obtain ⟨q1, e⟩ := chk_some e
  replace e := lt_go e
  refine x_putI (pc := 2) pf_X9_84 rfl rfl rfl dX9_removeCell_2 q1 ?_
  refine x_aload_n (pc := 5) 0 dX9_removeCell_5 rfl ?_
  refine x_iload_n (pc := 6) 1 dX9_removeCell_6 rfl ?_
  rcases bnd_some e with ⟨h3, r4, ec, rfl⟩ | ⟨h3, r4, ec, e⟩
  · exact y_callV_x (pc := 7) (c_X9_isCell hl ec) (okr_pI q1) mf_X9_isCell tw_7_75 ts_6_14 lf_X9_120 rfl rfl dX9_removeCell_7 (by decide) rfl rfl (leb rfl) (xx_out0 rfl)
  refine y_callV_i (pc := 7) (c_X9_isCell hl ec) (okr_pI q1) mf_X9_isCell tw_7_75 ts_6_14 lf_X9_120 rfl rfl dX9_removeCell_7 (by decide) rfl rfl (leb rfl) ?_
  rcases ite_some e with ⟨q5, e⟩ | ⟨q5, e⟩
  · refine x_if_ne_f (pc := 10) (t := 19) dX9_removeCell_10 (by decide) q5 ?_
    refine x_aload_n (pc := 13) 0 dX9_removeCell_13 rfl ?_
    refine x_iconst (pc := 14) dX9_removeCell_14 ?_
    obtain ⟨q6, e⟩ := chk_some e
    rcases bnd_some e with ⟨h7, r8, ec, rfl⟩ | ⟨h7, r8, ec, e⟩
    · exact y_callV_x (pc := 15) (c_X9_fails hl ec) q6 mf_X9_fails tw_7_24 ts_6_7 lf_X9_95 rfl rfl dX9_removeCell_15 (by decide) rfl rfl (leb rfl) (xx_out0 rfl)
    refine y_callV_i (pc := 15) (c_X9_fails hl ec) q6 mf_X9_fails tw_7_24 ts_6_7 lf_X9_95 rfl rfl dX9_removeCell_15 (by decide) rfl rfl (leb rfl) ?_
    cases Option.some.inj e
    exact x_iret (pc := 18) rfl dX9_removeCell_18
  · refine x_if_ne_t (pc := 10) (t := 19) dX9_removeCell_10 (by decide) q5 ?_
    refine x_aload_n (pc := 19) 0 dX9_removeCell_19 rfl ?_
    refine x_iload_n (pc := 20) 1 dX9_removeCell_20 rfl ?_
    obtain ⟨q9, e⟩ := chk_some e
    rcases bnd_some e with ⟨h10, r11, ec, rfl⟩ | ⟨h10, r11, ec, e⟩
    · exact y_callV_x (pc := 21) (c_X9_removes hl ec) q9 mf_X9_removes tw_7_79 ts_6_15 lf_X9_123 rfl rfl dX9_removeCell_21 (by decide) rfl rfl (leb rfl) (xx_out0 rfl)
    refine y_callV_v (pc := 21) (c_X9_removes hl ec) q9 mf_X9_removes tw_7_79 ts_6_15 lf_X9_123 rfl rfl dX9_removeCell_21 (by decide) rfl rfl (leb rfl) ?_
    refine x_aload_n (pc := 24) 0 dX9_removeCell_24 rfl ?_
    obtain ⟨q12, e⟩ := chk_some e
    obtain ⟨q13, e⟩ := chk_some e
    refine x_getR (pc := 25) gf_X9_9 rfl dX9_removeCell_25 q12 q13.1 ?_
    refine x_iconst (pc := 28) dX9_removeCell_28 ?_
    obtain ⟨q14, e⟩ := chk_some e
    refine x_iald (pc := 29) dX9_removeCell_29 q13 q14 ?_
    cases Option.some.inj e
    exact x_iret (pc := 30) rfl dX9_removeCell_30
abbrev w_X9_removeCell : Cond := (Cond.code yX9_removeCell cX9_removeCell 2 (Option.some Jvm.ClassFile.FieldType.int))
theorem mf_X9_removeCell : MF yX9_removeCell w_X9_removeCell cX9_removeCell 2 (Option.some Jvm.ClassFile.FieldType.int) 1 := ⟨⟨rfl, tw_7_72, by decide⟩, tw_1_11, ⟨by decide, by decide⟩, by decide +kernel⟩
theorem c_X9_removeCell {l : Launch} {K : Ctx} (hl : l.stackTraces = false) {h : Hp} {a0 : Nat} {i1 : Int32} {t : Rs Int32} (e : f_X9_removeCell h a0 i1 = some t) : Ctr l K 10 yX9_removeCell w_X9_removeCell [.ref a0, .int i1] h (tgI t) :=
  Ctr.of hl mf_X9_removeCell false (fun q => nomatch q) rfl (leb rfl) (p_X9_removeCell hl e)
