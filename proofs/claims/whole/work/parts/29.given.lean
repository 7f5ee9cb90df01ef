/-! ===== what the Statement gives at the start ===== -/
abbrev tmS : Nat → Term := fun i => match i with
  | 0 => .string RX5 107 | 1 => .string RX5 109 | 2 => .string RX5 111 | 3 => .string RX5 49 | 4 => .string RX5 63 | 5 => .string RX5 67
  | 6 => .string RX5 72 | 7 => .string RX5 77 | 8 => .string RX5 83 | 9 => .string RX5 88 | 10 => .string RX9 206 | _ => .string RX9 218
abbrev gvF : List Cond := flatC (Jvm.Cond.and given_1 narrow_1)
theorem gq_187 : (Jvm.Cond.exactly (Jvm.Term.string "TableColumnBalancer$Script" (107 : Nat)) "java/lang/String") ∈ gvF := List.mem_of_getElem? (i := 187) (by decide +kernel)
theorem gq_198 : (Jvm.Cond.exactly (Jvm.Term.string "TableColumnBalancer$Script" (109 : Nat)) "java/lang/String") ∈ gvF := List.mem_of_getElem? (i := 198) (by decide +kernel)
theorem gq_210 : (Jvm.Cond.exactly (Jvm.Term.string "TableColumnBalancer$Script" (111 : Nat)) "java/lang/String") ∈ gvF := List.mem_of_getElem? (i := 210) (by decide +kernel)
theorem gq_151 : (Jvm.Cond.exactly (Jvm.Term.string "TableColumnBalancer$Script" (49 : Nat)) "java/lang/String") ∈ gvF := List.mem_of_getElem? (i := 151) (by decide +kernel)
theorem gq_160 : (Jvm.Cond.exactly (Jvm.Term.string "TableColumnBalancer$Script" (63 : Nat)) "java/lang/String") ∈ gvF := List.mem_of_getElem? (i := 160) (by decide +kernel)
theorem gq_168 : (Jvm.Cond.exactly (Jvm.Term.string "TableColumnBalancer$Script" (67 : Nat)) "java/lang/String") ∈ gvF := List.mem_of_getElem? (i := 168) (by decide +kernel)
theorem gq_177 : (Jvm.Cond.exactly (Jvm.Term.string "TableColumnBalancer$Script" (72 : Nat)) "java/lang/String") ∈ gvF := List.mem_of_getElem? (i := 177) (by decide +kernel)
theorem gq_224 : (Jvm.Cond.exactly (Jvm.Term.string "TableColumnBalancer$Script" (77 : Nat)) "java/lang/String") ∈ gvF := List.mem_of_getElem? (i := 224) (by decide +kernel)
theorem gq_238 : (Jvm.Cond.exactly (Jvm.Term.string "TableColumnBalancer$Script" (83 : Nat)) "java/lang/String") ∈ gvF := List.mem_of_getElem? (i := 238) (by decide +kernel)
theorem gq_254 : (Jvm.Cond.exactly (Jvm.Term.string "TableColumnBalancer$Script" (88 : Nat)) "java/lang/String") ∈ gvF := List.mem_of_getElem? (i := 254) (by decide +kernel)
theorem gq_463 : (Jvm.Cond.exactly (Jvm.Term.string "TableColumnBalancerModel" (206 : Nat)) "java/lang/String") ∈ gvF := List.mem_of_getElem? (i := 463) (by decide +kernel)
theorem gq_490 : (Jvm.Cond.exactly (Jvm.Term.string "TableColumnBalancerModel" (218 : Nat)) "java/lang/String") ∈ gvF := List.mem_of_getElem? (i := 490) (by decide +kernel)
theorem gv_ex : ∀ i, i < strN → Cond.exactly (tmS i) "java/lang/String" ∈ gvF := fun i hi => match i, hi with
  | 0, _ => gq_187
  | 1, _ => gq_198
  | 2, _ => gq_210
  | 3, _ => gq_151
  | 4, _ => gq_160
  | 5, _ => gq_168
  | 6, _ => gq_177
  | 7, _ => gq_224
  | 8, _ => gq_238
  | 9, _ => gq_254
  | 10, _ => gq_463
  | 11, _ => gq_490
  | n + 12, h => absurd h (by unfold strN; omega)
theorem gq_188 : (Jvm.Cond.eq (Jvm.Term.field (Jvm.Term.string "TableColumnBalancer$Script" (107 : Nat)) "java/lang/String" "coder" "B") (Jvm.Term.int (0 : Int32))) ∈ gvF := List.mem_of_getElem? (i := 188) (by decide +kernel)
theorem gq_199 : (Jvm.Cond.eq (Jvm.Term.field (Jvm.Term.string "TableColumnBalancer$Script" (109 : Nat)) "java/lang/String" "coder" "B") (Jvm.Term.int (0 : Int32))) ∈ gvF := List.mem_of_getElem? (i := 199) (by decide +kernel)
theorem gq_211 : (Jvm.Cond.eq (Jvm.Term.field (Jvm.Term.string "TableColumnBalancer$Script" (111 : Nat)) "java/lang/String" "coder" "B") (Jvm.Term.int (0 : Int32))) ∈ gvF := List.mem_of_getElem? (i := 211) (by decide +kernel)
theorem gq_152 : (Jvm.Cond.eq (Jvm.Term.field (Jvm.Term.string "TableColumnBalancer$Script" (49 : Nat)) "java/lang/String" "coder" "B") (Jvm.Term.int (0 : Int32))) ∈ gvF := List.mem_of_getElem? (i := 152) (by decide +kernel)
theorem gq_161 : (Jvm.Cond.eq (Jvm.Term.field (Jvm.Term.string "TableColumnBalancer$Script" (63 : Nat)) "java/lang/String" "coder" "B") (Jvm.Term.int (0 : Int32))) ∈ gvF := List.mem_of_getElem? (i := 161) (by decide +kernel)
theorem gq_169 : (Jvm.Cond.eq (Jvm.Term.field (Jvm.Term.string "TableColumnBalancer$Script" (67 : Nat)) "java/lang/String" "coder" "B") (Jvm.Term.int (0 : Int32))) ∈ gvF := List.mem_of_getElem? (i := 169) (by decide +kernel)
theorem gq_178 : (Jvm.Cond.eq (Jvm.Term.field (Jvm.Term.string "TableColumnBalancer$Script" (72 : Nat)) "java/lang/String" "coder" "B") (Jvm.Term.int (0 : Int32))) ∈ gvF := List.mem_of_getElem? (i := 178) (by decide +kernel)
theorem gq_225 : (Jvm.Cond.eq (Jvm.Term.field (Jvm.Term.string "TableColumnBalancer$Script" (77 : Nat)) "java/lang/String" "coder" "B") (Jvm.Term.int (0 : Int32))) ∈ gvF := List.mem_of_getElem? (i := 225) (by decide +kernel)
theorem gq_239 : (Jvm.Cond.eq (Jvm.Term.field (Jvm.Term.string "TableColumnBalancer$Script" (83 : Nat)) "java/lang/String" "coder" "B") (Jvm.Term.int (0 : Int32))) ∈ gvF := List.mem_of_getElem? (i := 239) (by decide +kernel)
theorem gq_255 : (Jvm.Cond.eq (Jvm.Term.field (Jvm.Term.string "TableColumnBalancer$Script" (88 : Nat)) "java/lang/String" "coder" "B") (Jvm.Term.int (0 : Int32))) ∈ gvF := List.mem_of_getElem? (i := 255) (by decide +kernel)
theorem gq_464 : (Jvm.Cond.eq (Jvm.Term.field (Jvm.Term.string "TableColumnBalancerModel" (206 : Nat)) "java/lang/String" "coder" "B") (Jvm.Term.int (0 : Int32))) ∈ gvF := List.mem_of_getElem? (i := 464) (by decide +kernel)
theorem gq_491 : (Jvm.Cond.eq (Jvm.Term.field (Jvm.Term.string "TableColumnBalancerModel" (218 : Nat)) "java/lang/String" "coder" "B") (Jvm.Term.int (0 : Int32))) ∈ gvF := List.mem_of_getElem? (i := 491) (by decide +kernel)
theorem gv_co : ∀ i, i < strN → Cond.eq (.field (tmS i) "java/lang/String" "coder" "B") (.int 0) ∈ gvF := fun i hi => match i, hi with
  | 0, _ => gq_188
  | 1, _ => gq_199
  | 2, _ => gq_211
  | 3, _ => gq_152
  | 4, _ => gq_161
  | 5, _ => gq_169
  | 6, _ => gq_178
  | 7, _ => gq_225
  | 8, _ => gq_239
  | 9, _ => gq_255
  | 10, _ => gq_464
  | 11, _ => gq_491
  | n + 12, h => absurd h (by unfold strN; omega)
theorem gq_189 : (Jvm.Cond.arrayOf (Jvm.Term.field (Jvm.Term.string "TableColumnBalancer$Script" (107 : Nat)) "java/lang/String" "value" "[B") Jvm.ClassFile.FieldType.byte) ∈ gvF := List.mem_of_getElem? (i := 189) (by decide +kernel)
theorem gq_200 : (Jvm.Cond.arrayOf (Jvm.Term.field (Jvm.Term.string "TableColumnBalancer$Script" (109 : Nat)) "java/lang/String" "value" "[B") Jvm.ClassFile.FieldType.byte) ∈ gvF := List.mem_of_getElem? (i := 200) (by decide +kernel)
theorem gq_212 : (Jvm.Cond.arrayOf (Jvm.Term.field (Jvm.Term.string "TableColumnBalancer$Script" (111 : Nat)) "java/lang/String" "value" "[B") Jvm.ClassFile.FieldType.byte) ∈ gvF := List.mem_of_getElem? (i := 212) (by decide +kernel)
theorem gq_153 : (Jvm.Cond.arrayOf (Jvm.Term.field (Jvm.Term.string "TableColumnBalancer$Script" (49 : Nat)) "java/lang/String" "value" "[B") Jvm.ClassFile.FieldType.byte) ∈ gvF := List.mem_of_getElem? (i := 153) (by decide +kernel)
theorem gq_162 : (Jvm.Cond.arrayOf (Jvm.Term.field (Jvm.Term.string "TableColumnBalancer$Script" (63 : Nat)) "java/lang/String" "value" "[B") Jvm.ClassFile.FieldType.byte) ∈ gvF := List.mem_of_getElem? (i := 162) (by decide +kernel)
theorem gq_170 : (Jvm.Cond.arrayOf (Jvm.Term.field (Jvm.Term.string "TableColumnBalancer$Script" (67 : Nat)) "java/lang/String" "value" "[B") Jvm.ClassFile.FieldType.byte) ∈ gvF := List.mem_of_getElem? (i := 170) (by decide +kernel)
theorem gq_179 : (Jvm.Cond.arrayOf (Jvm.Term.field (Jvm.Term.string "TableColumnBalancer$Script" (72 : Nat)) "java/lang/String" "value" "[B") Jvm.ClassFile.FieldType.byte) ∈ gvF := List.mem_of_getElem? (i := 179) (by decide +kernel)
theorem gq_226 : (Jvm.Cond.arrayOf (Jvm.Term.field (Jvm.Term.string "TableColumnBalancer$Script" (77 : Nat)) "java/lang/String" "value" "[B") Jvm.ClassFile.FieldType.byte) ∈ gvF := List.mem_of_getElem? (i := 226) (by decide +kernel)
theorem gq_240 : (Jvm.Cond.arrayOf (Jvm.Term.field (Jvm.Term.string "TableColumnBalancer$Script" (83 : Nat)) "java/lang/String" "value" "[B") Jvm.ClassFile.FieldType.byte) ∈ gvF := List.mem_of_getElem? (i := 240) (by decide +kernel)
theorem gq_256 : (Jvm.Cond.arrayOf (Jvm.Term.field (Jvm.Term.string "TableColumnBalancer$Script" (88 : Nat)) "java/lang/String" "value" "[B") Jvm.ClassFile.FieldType.byte) ∈ gvF := List.mem_of_getElem? (i := 256) (by decide +kernel)
theorem gq_465 : (Jvm.Cond.arrayOf (Jvm.Term.field (Jvm.Term.string "TableColumnBalancerModel" (206 : Nat)) "java/lang/String" "value" "[B") Jvm.ClassFile.FieldType.byte) ∈ gvF := List.mem_of_getElem? (i := 465) (by decide +kernel)
theorem gq_492 : (Jvm.Cond.arrayOf (Jvm.Term.field (Jvm.Term.string "TableColumnBalancerModel" (218 : Nat)) "java/lang/String" "value" "[B") Jvm.ClassFile.FieldType.byte) ∈ gvF := List.mem_of_getElem? (i := 492) (by decide +kernel)
theorem gv_ar : ∀ i, i < strN → Cond.arrayOf (.field (tmS i) "java/lang/String" "value" "[B") .byte ∈ gvF := fun i hi => match i, hi with
  | 0, _ => gq_189
  | 1, _ => gq_200
  | 2, _ => gq_212
  | 3, _ => gq_153
  | 4, _ => gq_162
  | 5, _ => gq_170
  | 6, _ => gq_179
  | 7, _ => gq_226
  | 8, _ => gq_240
  | 9, _ => gq_256
  | 10, _ => gq_465
  | 11, _ => gq_492
  | n + 12, h => absurd h (by unfold strN; omega)
theorem gq_190 : (Jvm.Cond.eq (Jvm.Term.length (Jvm.Term.field (Jvm.Term.string "TableColumnBalancer$Script" (107 : Nat)) "java/lang/String" "value" "[B")) (Jvm.Term.int (3 : Int32))) ∈ gvF := List.mem_of_getElem? (i := 190) (by decide +kernel)
theorem gq_201 : (Jvm.Cond.eq (Jvm.Term.length (Jvm.Term.field (Jvm.Term.string "TableColumnBalancer$Script" (109 : Nat)) "java/lang/String" "value" "[B")) (Jvm.Term.int (3 : Int32))) ∈ gvF := List.mem_of_getElem? (i := 201) (by decide +kernel)
theorem gq_213 : (Jvm.Cond.eq (Jvm.Term.length (Jvm.Term.field (Jvm.Term.string "TableColumnBalancer$Script" (111 : Nat)) "java/lang/String" "value" "[B")) (Jvm.Term.int (4 : Int32))) ∈ gvF := List.mem_of_getElem? (i := 213) (by decide +kernel)
theorem gq_154 : (Jvm.Cond.eq (Jvm.Term.length (Jvm.Term.field (Jvm.Term.string "TableColumnBalancer$Script" (49 : Nat)) "java/lang/String" "value" "[B")) (Jvm.Term.int (5 : Int32))) ∈ gvF := List.mem_of_getElem? (i := 154) (by decide +kernel)
theorem gq_163 : (Jvm.Cond.eq (Jvm.Term.length (Jvm.Term.field (Jvm.Term.string "TableColumnBalancer$Script" (63 : Nat)) "java/lang/String" "value" "[B")) (Jvm.Term.int (3 : Int32))) ∈ gvF := List.mem_of_getElem? (i := 163) (by decide +kernel)
theorem gq_171 : (Jvm.Cond.eq (Jvm.Term.length (Jvm.Term.field (Jvm.Term.string "TableColumnBalancer$Script" (67 : Nat)) "java/lang/String" "value" "[B")) (Jvm.Term.int (3 : Int32))) ∈ gvF := List.mem_of_getElem? (i := 171) (by decide +kernel)
theorem gq_180 : (Jvm.Cond.eq (Jvm.Term.length (Jvm.Term.field (Jvm.Term.string "TableColumnBalancer$Script" (72 : Nat)) "java/lang/String" "value" "[B")) (Jvm.Term.int (3 : Int32))) ∈ gvF := List.mem_of_getElem? (i := 180) (by decide +kernel)
theorem gq_227 : (Jvm.Cond.eq (Jvm.Term.length (Jvm.Term.field (Jvm.Term.string "TableColumnBalancer$Script" (77 : Nat)) "java/lang/String" "value" "[B")) (Jvm.Term.int (3 : Int32))) ∈ gvF := List.mem_of_getElem? (i := 227) (by decide +kernel)
theorem gq_241 : (Jvm.Cond.eq (Jvm.Term.length (Jvm.Term.field (Jvm.Term.string "TableColumnBalancer$Script" (83 : Nat)) "java/lang/String" "value" "[B")) (Jvm.Term.int (4 : Int32))) ∈ gvF := List.mem_of_getElem? (i := 241) (by decide +kernel)
theorem gq_257 : (Jvm.Cond.eq (Jvm.Term.length (Jvm.Term.field (Jvm.Term.string "TableColumnBalancer$Script" (88 : Nat)) "java/lang/String" "value" "[B")) (Jvm.Term.int (3 : Int32))) ∈ gvF := List.mem_of_getElem? (i := 257) (by decide +kernel)
theorem gq_466 : (Jvm.Cond.eq (Jvm.Term.length (Jvm.Term.field (Jvm.Term.string "TableColumnBalancerModel" (206 : Nat)) "java/lang/String" "value" "[B")) (Jvm.Term.int (4 : Int32))) ∈ gvF := List.mem_of_getElem? (i := 466) (by decide +kernel)
theorem gq_493 : (Jvm.Cond.eq (Jvm.Term.length (Jvm.Term.field (Jvm.Term.string "TableColumnBalancerModel" (218 : Nat)) "java/lang/String" "value" "[B")) (Jvm.Term.int (4 : Int32))) ∈ gvF := List.mem_of_getElem? (i := 493) (by decide +kernel)
theorem gv_le : ∀ i, i < strN → Cond.eq (.length (.field (tmS i) "java/lang/String" "value" "[B")) (.int (Int32.ofNat (strL.getD i 0))) ∈ gvF := fun i hi => match i, hi with
  | 0, _ => gq_190
  | 1, _ => gq_201
  | 2, _ => gq_213
  | 3, _ => gq_154
  | 4, _ => gq_163
  | 5, _ => gq_171
  | 6, _ => gq_180
  | 7, _ => gq_227
  | 8, _ => gq_241
  | 9, _ => gq_257
  | 10, _ => gq_466
  | 11, _ => gq_493
  | n + 12, h => absurd h (by unfold strN; omega)
theorem gq_191 : (Jvm.Cond.eq (Jvm.Term.elem (Jvm.Term.field (Jvm.Term.string "TableColumnBalancer$Script" (107 : Nat)) "java/lang/String" "value" "[B") (Jvm.Term.int (0 : Int32))) (Jvm.Term.int (102 : Int32))) ∈ gvF := List.mem_of_getElem? (i := 191) (by decide +kernel)
theorem gq_192 : (Jvm.Cond.eq (Jvm.Term.elem (Jvm.Term.field (Jvm.Term.string "TableColumnBalancer$Script" (107 : Nat)) "java/lang/String" "value" "[B") (Jvm.Term.int (1 : Int32))) (Jvm.Term.int (105 : Int32))) ∈ gvF := List.mem_of_getElem? (i := 192) (by decide +kernel)
theorem gq_193 : (Jvm.Cond.eq (Jvm.Term.elem (Jvm.Term.field (Jvm.Term.string "TableColumnBalancer$Script" (107 : Nat)) "java/lang/String" "value" "[B") (Jvm.Term.int (2 : Int32))) (Jvm.Term.int (120 : Int32))) ∈ gvF := List.mem_of_getElem? (i := 193) (by decide +kernel)
theorem gv_el0 : ∀ j, j < strL.getD 0 0 → Cond.eq (.elem (.field (tmS 0) "java/lang/String" "value" "[B") (.int (Int32.ofNat j))) (.int ((strB.getD 0 []).getD j 0)) ∈ gvF := fun j hj => match j, hj with
  | 0, _ => gq_191
  | 1, _ => gq_192
  | 2, _ => gq_193
  | n + 3, h => absurd h (by show ¬ n + 3 < 3; omega)
theorem gq_202 : (Jvm.Cond.eq (Jvm.Term.elem (Jvm.Term.field (Jvm.Term.string "TableColumnBalancer$Script" (109 : Nat)) "java/lang/String" "value" "[B") (Jvm.Term.int (0 : Int32))) (Jvm.Term.int (112 : Int32))) ∈ gvF := List.mem_of_getElem? (i := 202) (by decide +kernel)
theorem gq_203 : (Jvm.Cond.eq (Jvm.Term.elem (Jvm.Term.field (Jvm.Term.string "TableColumnBalancer$Script" (109 : Nat)) "java/lang/String" "value" "[B") (Jvm.Term.int (1 : Int32))) (Jvm.Term.int (99 : Int32))) ∈ gvF := List.mem_of_getElem? (i := 203) (by decide +kernel)
theorem gq_204 : (Jvm.Cond.eq (Jvm.Term.elem (Jvm.Term.field (Jvm.Term.string "TableColumnBalancer$Script" (109 : Nat)) "java/lang/String" "value" "[B") (Jvm.Term.int (2 : Int32))) (Jvm.Term.int (116 : Int32))) ∈ gvF := List.mem_of_getElem? (i := 204) (by decide +kernel)
theorem gv_el1 : ∀ j, j < strL.getD 1 0 → Cond.eq (.elem (.field (tmS 1) "java/lang/String" "value" "[B") (.int (Int32.ofNat j))) (.int ((strB.getD 1 []).getD j 0)) ∈ gvF := fun j hj => match j, hj with
  | 0, _ => gq_202
  | 1, _ => gq_203
  | 2, _ => gq_204
  | n + 3, h => absurd h (by show ¬ n + 3 < 3; omega)
theorem gq_214 : (Jvm.Cond.eq (Jvm.Term.elem (Jvm.Term.field (Jvm.Term.string "TableColumnBalancer$Script" (111 : Nat)) "java/lang/String" "value" "[B") (Jvm.Term.int (0 : Int32))) (Jvm.Term.int (97 : Int32))) ∈ gvF := List.mem_of_getElem? (i := 214) (by decide +kernel)
theorem gq_215 : (Jvm.Cond.eq (Jvm.Term.elem (Jvm.Term.field (Jvm.Term.string "TableColumnBalancer$Script" (111 : Nat)) "java/lang/String" "value" "[B") (Jvm.Term.int (1 : Int32))) (Jvm.Term.int (117 : Int32))) ∈ gvF := List.mem_of_getElem? (i := 215) (by decide +kernel)
theorem gq_216 : (Jvm.Cond.eq (Jvm.Term.elem (Jvm.Term.field (Jvm.Term.string "TableColumnBalancer$Script" (111 : Nat)) "java/lang/String" "value" "[B") (Jvm.Term.int (2 : Int32))) (Jvm.Term.int (116 : Int32))) ∈ gvF := List.mem_of_getElem? (i := 216) (by decide +kernel)
theorem gq_217 : (Jvm.Cond.eq (Jvm.Term.elem (Jvm.Term.field (Jvm.Term.string "TableColumnBalancer$Script" (111 : Nat)) "java/lang/String" "value" "[B") (Jvm.Term.int (3 : Int32))) (Jvm.Term.int (111 : Int32))) ∈ gvF := List.mem_of_getElem? (i := 217) (by decide +kernel)
theorem gv_el2 : ∀ j, j < strL.getD 2 0 → Cond.eq (.elem (.field (tmS 2) "java/lang/String" "value" "[B") (.int (Int32.ofNat j))) (.int ((strB.getD 2 []).getD j 0)) ∈ gvF := fun j hj => match j, hj with
  | 0, _ => gq_214
  | 1, _ => gq_215
  | 2, _ => gq_216
  | 3, _ => gq_217
  | n + 4, h => absurd h (by show ¬ n + 4 < 4; omega)
theorem gq_155 : (Jvm.Cond.eq (Jvm.Term.elem (Jvm.Term.field (Jvm.Term.string "TableColumnBalancer$Script" (49 : Nat)) "java/lang/String" "value" "[B") (Jvm.Term.int (0 : Int32))) (Jvm.Term.int (119 : Int32))) ∈ gvF := List.mem_of_getElem? (i := 155) (by decide +kernel)
theorem gq_156 : (Jvm.Cond.eq (Jvm.Term.elem (Jvm.Term.field (Jvm.Term.string "TableColumnBalancer$Script" (49 : Nat)) "java/lang/String" "value" "[B") (Jvm.Term.int (1 : Int32))) (Jvm.Term.int (105 : Int32))) ∈ gvF := List.mem_of_getElem? (i := 156) (by decide +kernel)
theorem gq_157 : (Jvm.Cond.eq (Jvm.Term.elem (Jvm.Term.field (Jvm.Term.string "TableColumnBalancer$Script" (49 : Nat)) "java/lang/String" "value" "[B") (Jvm.Term.int (2 : Int32))) (Jvm.Term.int (100 : Int32))) ∈ gvF := List.mem_of_getElem? (i := 157) (by decide +kernel)
theorem gq_158 : (Jvm.Cond.eq (Jvm.Term.elem (Jvm.Term.field (Jvm.Term.string "TableColumnBalancer$Script" (49 : Nat)) "java/lang/String" "value" "[B") (Jvm.Term.int (3 : Int32))) (Jvm.Term.int (116 : Int32))) ∈ gvF := List.mem_of_getElem? (i := 158) (by decide +kernel)
theorem gq_159 : (Jvm.Cond.eq (Jvm.Term.elem (Jvm.Term.field (Jvm.Term.string "TableColumnBalancer$Script" (49 : Nat)) "java/lang/String" "value" "[B") (Jvm.Term.int (4 : Int32))) (Jvm.Term.int (104 : Int32))) ∈ gvF := List.mem_of_getElem? (i := 159) (by decide +kernel)
theorem gv_el3 : ∀ j, j < strL.getD 3 0 → Cond.eq (.elem (.field (tmS 3) "java/lang/String" "value" "[B") (.int (Int32.ofNat j))) (.int ((strB.getD 3 []).getD j 0)) ∈ gvF := fun j hj => match j, hj with
  | 0, _ => gq_155
  | 1, _ => gq_156
  | 2, _ => gq_157
  | 3, _ => gq_158
  | 4, _ => gq_159
  | n + 5, h => absurd h (by show ¬ n + 5 < 5; omega)
theorem gq_164 : (Jvm.Cond.eq (Jvm.Term.elem (Jvm.Term.field (Jvm.Term.string "TableColumnBalancer$Script" (63 : Nat)) "java/lang/String" "value" "[B") (Jvm.Term.int (0 : Int32))) (Jvm.Term.int (103 : Int32))) ∈ gvF := List.mem_of_getElem? (i := 164) (by decide +kernel)
theorem gq_165 : (Jvm.Cond.eq (Jvm.Term.elem (Jvm.Term.field (Jvm.Term.string "TableColumnBalancer$Script" (63 : Nat)) "java/lang/String" "value" "[B") (Jvm.Term.int (1 : Int32))) (Jvm.Term.int (97 : Int32))) ∈ gvF := List.mem_of_getElem? (i := 165) (by decide +kernel)
theorem gq_166 : (Jvm.Cond.eq (Jvm.Term.elem (Jvm.Term.field (Jvm.Term.string "TableColumnBalancer$Script" (63 : Nat)) "java/lang/String" "value" "[B") (Jvm.Term.int (2 : Int32))) (Jvm.Term.int (112 : Int32))) ∈ gvF := List.mem_of_getElem? (i := 166) (by decide +kernel)
theorem gv_el4 : ∀ j, j < strL.getD 4 0 → Cond.eq (.elem (.field (tmS 4) "java/lang/String" "value" "[B") (.int (Int32.ofNat j))) (.int ((strB.getD 4 []).getD j 0)) ∈ gvF := fun j hj => match j, hj with
  | 0, _ => gq_164
  | 1, _ => gq_165
  | 2, _ => gq_166
  | n + 3, h => absurd h (by show ¬ n + 3 < 3; omega)
theorem gq_172 : (Jvm.Cond.eq (Jvm.Term.elem (Jvm.Term.field (Jvm.Term.string "TableColumnBalancer$Script" (67 : Nat)) "java/lang/String" "value" "[B") (Jvm.Term.int (0 : Int32))) (Jvm.Term.int (112 : Int32))) ∈ gvF := List.mem_of_getElem? (i := 172) (by decide +kernel)
theorem gq_173 : (Jvm.Cond.eq (Jvm.Term.elem (Jvm.Term.field (Jvm.Term.string "TableColumnBalancer$Script" (67 : Nat)) "java/lang/String" "value" "[B") (Jvm.Term.int (1 : Int32))) (Jvm.Term.int (97 : Int32))) ∈ gvF := List.mem_of_getElem? (i := 173) (by decide +kernel)
theorem gq_174 : (Jvm.Cond.eq (Jvm.Term.elem (Jvm.Term.field (Jvm.Term.string "TableColumnBalancer$Script" (67 : Nat)) "java/lang/String" "value" "[B") (Jvm.Term.int (2 : Int32))) (Jvm.Term.int (100 : Int32))) ∈ gvF := List.mem_of_getElem? (i := 174) (by decide +kernel)
theorem gv_el5 : ∀ j, j < strL.getD 5 0 → Cond.eq (.elem (.field (tmS 5) "java/lang/String" "value" "[B") (.int (Int32.ofNat j))) (.int ((strB.getD 5 []).getD j 0)) ∈ gvF := fun j hj => match j, hj with
  | 0, _ => gq_172
  | 1, _ => gq_173
  | 2, _ => gq_174
  | n + 3, h => absurd h (by show ¬ n + 3 < 3; omega)
theorem gq_181 : (Jvm.Cond.eq (Jvm.Term.elem (Jvm.Term.field (Jvm.Term.string "TableColumnBalancer$Script" (72 : Nat)) "java/lang/String" "value" "[B") (Jvm.Term.int (0 : Int32))) (Jvm.Term.int (99 : Int32))) ∈ gvF := List.mem_of_getElem? (i := 181) (by decide +kernel)
theorem gq_182 : (Jvm.Cond.eq (Jvm.Term.elem (Jvm.Term.field (Jvm.Term.string "TableColumnBalancer$Script" (72 : Nat)) "java/lang/String" "value" "[B") (Jvm.Term.int (1 : Int32))) (Jvm.Term.int (111 : Int32))) ∈ gvF := List.mem_of_getElem? (i := 182) (by decide +kernel)
theorem gq_183 : (Jvm.Cond.eq (Jvm.Term.elem (Jvm.Term.field (Jvm.Term.string "TableColumnBalancer$Script" (72 : Nat)) "java/lang/String" "value" "[B") (Jvm.Term.int (2 : Int32))) (Jvm.Term.int (108 : Int32))) ∈ gvF := List.mem_of_getElem? (i := 183) (by decide +kernel)
theorem gv_el6 : ∀ j, j < strL.getD 6 0 → Cond.eq (.elem (.field (tmS 6) "java/lang/String" "value" "[B") (.int (Int32.ofNat j))) (.int ((strB.getD 6 []).getD j 0)) ∈ gvF := fun j hj => match j, hj with
  | 0, _ => gq_181
  | 1, _ => gq_182
  | 2, _ => gq_183
  | n + 3, h => absurd h (by show ¬ n + 3 < 3; omega)
theorem gq_228 : (Jvm.Cond.eq (Jvm.Term.elem (Jvm.Term.field (Jvm.Term.string "TableColumnBalancer$Script" (77 : Nat)) "java/lang/String" "value" "[B") (Jvm.Term.int (0 : Int32))) (Jvm.Term.int (114 : Int32))) ∈ gvF := List.mem_of_getElem? (i := 228) (by decide +kernel)
theorem gq_229 : (Jvm.Cond.eq (Jvm.Term.elem (Jvm.Term.field (Jvm.Term.string "TableColumnBalancer$Script" (77 : Nat)) "java/lang/String" "value" "[B") (Jvm.Term.int (1 : Int32))) (Jvm.Term.int (111 : Int32))) ∈ gvF := List.mem_of_getElem? (i := 229) (by decide +kernel)
theorem gq_230 : (Jvm.Cond.eq (Jvm.Term.elem (Jvm.Term.field (Jvm.Term.string "TableColumnBalancer$Script" (77 : Nat)) "java/lang/String" "value" "[B") (Jvm.Term.int (2 : Int32))) (Jvm.Term.int (119 : Int32))) ∈ gvF := List.mem_of_getElem? (i := 230) (by decide +kernel)
theorem gv_el7 : ∀ j, j < strL.getD 7 0 → Cond.eq (.elem (.field (tmS 7) "java/lang/String" "value" "[B") (.int (Int32.ofNat j))) (.int ((strB.getD 7 []).getD j 0)) ∈ gvF := fun j hj => match j, hj with
  | 0, _ => gq_228
  | 1, _ => gq_229
  | 2, _ => gq_230
  | n + 3, h => absurd h (by show ¬ n + 3 < 3; omega)
theorem gq_242 : (Jvm.Cond.eq (Jvm.Term.elem (Jvm.Term.field (Jvm.Term.string "TableColumnBalancer$Script" (83 : Nat)) "java/lang/String" "value" "[B") (Jvm.Term.int (0 : Int32))) (Jvm.Term.int (99 : Int32))) ∈ gvF := List.mem_of_getElem? (i := 242) (by decide +kernel)
theorem gq_243 : (Jvm.Cond.eq (Jvm.Term.elem (Jvm.Term.field (Jvm.Term.string "TableColumnBalancer$Script" (83 : Nat)) "java/lang/String" "value" "[B") (Jvm.Term.int (1 : Int32))) (Jvm.Term.int (101 : Int32))) ∈ gvF := List.mem_of_getElem? (i := 243) (by decide +kernel)
theorem gq_244 : (Jvm.Cond.eq (Jvm.Term.elem (Jvm.Term.field (Jvm.Term.string "TableColumnBalancer$Script" (83 : Nat)) "java/lang/String" "value" "[B") (Jvm.Term.int (2 : Int32))) (Jvm.Term.int (108 : Int32))) ∈ gvF := List.mem_of_getElem? (i := 244) (by decide +kernel)
theorem gq_245 : (Jvm.Cond.eq (Jvm.Term.elem (Jvm.Term.field (Jvm.Term.string "TableColumnBalancer$Script" (83 : Nat)) "java/lang/String" "value" "[B") (Jvm.Term.int (3 : Int32))) (Jvm.Term.int (108 : Int32))) ∈ gvF := List.mem_of_getElem? (i := 245) (by decide +kernel)
theorem gv_el8 : ∀ j, j < strL.getD 8 0 → Cond.eq (.elem (.field (tmS 8) "java/lang/String" "value" "[B") (.int (Int32.ofNat j))) (.int ((strB.getD 8 []).getD j 0)) ∈ gvF := fun j hj => match j, hj with
  | 0, _ => gq_242
  | 1, _ => gq_243
  | 2, _ => gq_244
  | 3, _ => gq_245
  | n + 4, h => absurd h (by show ¬ n + 4 < 4; omega)
theorem gq_258 : (Jvm.Cond.eq (Jvm.Term.elem (Jvm.Term.field (Jvm.Term.string "TableColumnBalancer$Script" (88 : Nat)) "java/lang/String" "value" "[B") (Jvm.Term.int (0 : Int32))) (Jvm.Term.int (112 : Int32))) ∈ gvF := List.mem_of_getElem? (i := 258) (by decide +kernel)
theorem gq_259 : (Jvm.Cond.eq (Jvm.Term.elem (Jvm.Term.field (Jvm.Term.string "TableColumnBalancer$Script" (88 : Nat)) "java/lang/String" "value" "[B") (Jvm.Term.int (1 : Int32))) (Jvm.Term.int (105 : Int32))) ∈ gvF := List.mem_of_getElem? (i := 259) (by decide +kernel)
theorem gq_260 : (Jvm.Cond.eq (Jvm.Term.elem (Jvm.Term.field (Jvm.Term.string "TableColumnBalancer$Script" (88 : Nat)) "java/lang/String" "value" "[B") (Jvm.Term.int (2 : Int32))) (Jvm.Term.int (99 : Int32))) ∈ gvF := List.mem_of_getElem? (i := 260) (by decide +kernel)
theorem gv_el9 : ∀ j, j < strL.getD 9 0 → Cond.eq (.elem (.field (tmS 9) "java/lang/String" "value" "[B") (.int (Int32.ofNat j))) (.int ((strB.getD 9 []).getD j 0)) ∈ gvF := fun j hj => match j, hj with
  | 0, _ => gq_258
  | 1, _ => gq_259
  | 2, _ => gq_260
  | n + 3, h => absurd h (by show ¬ n + 3 < 3; omega)
theorem gq_467 : (Jvm.Cond.eq (Jvm.Term.elem (Jvm.Term.field (Jvm.Term.string "TableColumnBalancerModel" (206 : Nat)) "java/lang/String" "value" "[B") (Jvm.Term.int (0 : Int32))) (Jvm.Term.int (112 : Int32))) ∈ gvF := List.mem_of_getElem? (i := 467) (by decide +kernel)
theorem gq_468 : (Jvm.Cond.eq (Jvm.Term.elem (Jvm.Term.field (Jvm.Term.string "TableColumnBalancerModel" (206 : Nat)) "java/lang/String" "value" "[B") (Jvm.Term.int (1 : Int32))) (Jvm.Term.int (104 : Int32))) ∈ gvF := List.mem_of_getElem? (i := 468) (by decide +kernel)
theorem gq_469 : (Jvm.Cond.eq (Jvm.Term.elem (Jvm.Term.field (Jvm.Term.string "TableColumnBalancerModel" (206 : Nat)) "java/lang/String" "value" "[B") (Jvm.Term.int (2 : Int32))) (Jvm.Term.int (113 : Int32))) ∈ gvF := List.mem_of_getElem? (i := 469) (by decide +kernel)
theorem gq_470 : (Jvm.Cond.eq (Jvm.Term.elem (Jvm.Term.field (Jvm.Term.string "TableColumnBalancerModel" (206 : Nat)) "java/lang/String" "value" "[B") (Jvm.Term.int (3 : Int32))) (Jvm.Term.int (99 : Int32))) ∈ gvF := List.mem_of_getElem? (i := 470) (by decide +kernel)
theorem gv_el10 : ∀ j, j < strL.getD 10 0 → Cond.eq (.elem (.field (tmS 10) "java/lang/String" "value" "[B") (.int (Int32.ofNat j))) (.int ((strB.getD 10 []).getD j 0)) ∈ gvF := fun j hj => match j, hj with
  | 0, _ => gq_467
  | 1, _ => gq_468
  | 2, _ => gq_469
  | 3, _ => gq_470
  | n + 4, h => absurd h (by show ¬ n + 4 < 4; omega)
theorem gq_494 : (Jvm.Cond.eq (Jvm.Term.elem (Jvm.Term.field (Jvm.Term.string "TableColumnBalancerModel" (218 : Nat)) "java/lang/String" "value" "[B") (Jvm.Term.int (0 : Int32))) (Jvm.Term.int (95 : Int32))) ∈ gvF := List.mem_of_getElem? (i := 494) (by decide +kernel)
theorem gq_495 : (Jvm.Cond.eq (Jvm.Term.elem (Jvm.Term.field (Jvm.Term.string "TableColumnBalancerModel" (218 : Nat)) "java/lang/String" "value" "[B") (Jvm.Term.int (1 : Int32))) (Jvm.Term.int (47 : Int32))) ∈ gvF := List.mem_of_getElem? (i := 495) (by decide +kernel)
theorem gq_496 : (Jvm.Cond.eq (Jvm.Term.elem (Jvm.Term.field (Jvm.Term.string "TableColumnBalancerModel" (218 : Nat)) "java/lang/String" "value" "[B") (Jvm.Term.int (2 : Int32))) (Jvm.Term.int (126 : Int32))) ∈ gvF := List.mem_of_getElem? (i := 496) (by decide +kernel)
theorem gq_497 : (Jvm.Cond.eq (Jvm.Term.elem (Jvm.Term.field (Jvm.Term.string "TableColumnBalancerModel" (218 : Nat)) "java/lang/String" "value" "[B") (Jvm.Term.int (3 : Int32))) (Jvm.Term.int (45 : Int32))) ∈ gvF := List.mem_of_getElem? (i := 497) (by decide +kernel)
theorem gv_el11 : ∀ j, j < strL.getD 11 0 → Cond.eq (.elem (.field (tmS 11) "java/lang/String" "value" "[B") (.int (Int32.ofNat j))) (.int ((strB.getD 11 []).getD j 0)) ∈ gvF := fun j hj => match j, hj with
  | 0, _ => gq_494
  | 1, _ => gq_495
  | 2, _ => gq_496
  | 3, _ => gq_497
  | n + 4, h => absurd h (by show ¬ n + 4 < 4; omega)
theorem gv_el : ∀ i, i < strN → ∀ j, j < strL.getD i 0 → Cond.eq (.elem (.field (tmS i) "java/lang/String" "value" "[B") (.int (Int32.ofNat j))) (.int ((strB.getD i []).getD j 0)) ∈ gvF := fun i hi => match i, hi with
  | 0, _ => gv_el0
  | 1, _ => gv_el1
  | 2, _ => gv_el2
  | 3, _ => gv_el3
  | 4, _ => gv_el4
  | 5, _ => gv_el5
  | 6, _ => gv_el6
  | 7, _ => gv_el7
  | 8, _ => gv_el8
  | 9, _ => gv_el9
  | 10, _ => gv_el10
  | 11, _ => gv_el11
  | n + 12, h => absurd h (by unfold strN; omega)
theorem gq_209 : (Jvm.Cond.not (Jvm.Cond.eq (Jvm.Term.string "TableColumnBalancer$Script" (107 : Nat)) (Jvm.Term.string "TableColumnBalancer$Script" (109 : Nat)))) ∈ gvF := List.mem_of_getElem? (i := 209) (by decide +kernel)
theorem gq_222 : (Jvm.Cond.not (Jvm.Cond.eq (Jvm.Term.string "TableColumnBalancer$Script" (107 : Nat)) (Jvm.Term.string "TableColumnBalancer$Script" (111 : Nat)))) ∈ gvF := List.mem_of_getElem? (i := 222) (by decide +kernel)
theorem gq_194 : (Jvm.Cond.not (Jvm.Cond.eq (Jvm.Term.string "TableColumnBalancer$Script" (49 : Nat)) (Jvm.Term.string "TableColumnBalancer$Script" (107 : Nat)))) ∈ gvF := List.mem_of_getElem? (i := 194) (by decide +kernel)
theorem gq_195 : (Jvm.Cond.not (Jvm.Cond.eq (Jvm.Term.string "TableColumnBalancer$Script" (63 : Nat)) (Jvm.Term.string "TableColumnBalancer$Script" (107 : Nat)))) ∈ gvF := List.mem_of_getElem? (i := 195) (by decide +kernel)
theorem gq_196 : (Jvm.Cond.not (Jvm.Cond.eq (Jvm.Term.string "TableColumnBalancer$Script" (67 : Nat)) (Jvm.Term.string "TableColumnBalancer$Script" (107 : Nat)))) ∈ gvF := List.mem_of_getElem? (i := 196) (by decide +kernel)
theorem gq_197 : (Jvm.Cond.not (Jvm.Cond.eq (Jvm.Term.string "TableColumnBalancer$Script" (72 : Nat)) (Jvm.Term.string "TableColumnBalancer$Script" (107 : Nat)))) ∈ gvF := List.mem_of_getElem? (i := 197) (by decide +kernel)
theorem gq_235 : (Jvm.Cond.not (Jvm.Cond.eq (Jvm.Term.string "TableColumnBalancer$Script" (107 : Nat)) (Jvm.Term.string "TableColumnBalancer$Script" (77 : Nat)))) ∈ gvF := List.mem_of_getElem? (i := 235) (by decide +kernel)
theorem gq_250 : (Jvm.Cond.not (Jvm.Cond.eq (Jvm.Term.string "TableColumnBalancer$Script" (107 : Nat)) (Jvm.Term.string "TableColumnBalancer$Script" (83 : Nat)))) ∈ gvF := List.mem_of_getElem? (i := 250) (by decide +kernel)
theorem gq_265 : (Jvm.Cond.not (Jvm.Cond.eq (Jvm.Term.string "TableColumnBalancer$Script" (107 : Nat)) (Jvm.Term.string "TableColumnBalancer$Script" (88 : Nat)))) ∈ gvF := List.mem_of_getElem? (i := 265) (by decide +kernel)
theorem gq_475 : (Jvm.Cond.not (Jvm.Cond.eq (Jvm.Term.string "TableColumnBalancer$Script" (107 : Nat)) (Jvm.Term.string "TableColumnBalancerModel" (206 : Nat)))) ∈ gvF := List.mem_of_getElem? (i := 475) (by decide +kernel)
theorem gq_502 : (Jvm.Cond.not (Jvm.Cond.eq (Jvm.Term.string "TableColumnBalancer$Script" (107 : Nat)) (Jvm.Term.string "TableColumnBalancerModel" (218 : Nat)))) ∈ gvF := List.mem_of_getElem? (i := 502) (by decide +kernel)
theorem gv_ne0 : ∀ i, i < strN → 0 ≠ i → Cond.not (Cond.eq (tmS 0) (tmS i)) ∈ gvF ∨ Cond.not (Cond.eq (tmS i) (tmS 0)) ∈ gvF := fun i hi => match i, hi with
  | 0, _ => fun h => absurd rfl h
  | 1, _ => fun _ => Or.inl gq_209
  | 2, _ => fun _ => Or.inl gq_222
  | 3, _ => fun _ => Or.inr gq_194
  | 4, _ => fun _ => Or.inr gq_195
  | 5, _ => fun _ => Or.inr gq_196
  | 6, _ => fun _ => Or.inr gq_197
  | 7, _ => fun _ => Or.inl gq_235
  | 8, _ => fun _ => Or.inl gq_250
  | 9, _ => fun _ => Or.inl gq_265
  | 10, _ => fun _ => Or.inl gq_475
  | 11, _ => fun _ => Or.inl gq_502
  | n + 12, h => absurd h (by unfold strN; omega)
theorem gq_223 : (Jvm.Cond.not (Jvm.Cond.eq (Jvm.Term.string "TableColumnBalancer$Script" (109 : Nat)) (Jvm.Term.string "TableColumnBalancer$Script" (111 : Nat)))) ∈ gvF := List.mem_of_getElem? (i := 223) (by decide +kernel)
theorem gq_205 : (Jvm.Cond.not (Jvm.Cond.eq (Jvm.Term.string "TableColumnBalancer$Script" (49 : Nat)) (Jvm.Term.string "TableColumnBalancer$Script" (109 : Nat)))) ∈ gvF := List.mem_of_getElem? (i := 205) (by decide +kernel)
theorem gq_206 : (Jvm.Cond.not (Jvm.Cond.eq (Jvm.Term.string "TableColumnBalancer$Script" (63 : Nat)) (Jvm.Term.string "TableColumnBalancer$Script" (109 : Nat)))) ∈ gvF := List.mem_of_getElem? (i := 206) (by decide +kernel)
theorem gq_207 : (Jvm.Cond.not (Jvm.Cond.eq (Jvm.Term.string "TableColumnBalancer$Script" (67 : Nat)) (Jvm.Term.string "TableColumnBalancer$Script" (109 : Nat)))) ∈ gvF := List.mem_of_getElem? (i := 207) (by decide +kernel)
theorem gq_208 : (Jvm.Cond.not (Jvm.Cond.eq (Jvm.Term.string "TableColumnBalancer$Script" (72 : Nat)) (Jvm.Term.string "TableColumnBalancer$Script" (109 : Nat)))) ∈ gvF := List.mem_of_getElem? (i := 208) (by decide +kernel)
theorem gq_236 : (Jvm.Cond.not (Jvm.Cond.eq (Jvm.Term.string "TableColumnBalancer$Script" (109 : Nat)) (Jvm.Term.string "TableColumnBalancer$Script" (77 : Nat)))) ∈ gvF := List.mem_of_getElem? (i := 236) (by decide +kernel)
theorem gq_251 : (Jvm.Cond.not (Jvm.Cond.eq (Jvm.Term.string "TableColumnBalancer$Script" (109 : Nat)) (Jvm.Term.string "TableColumnBalancer$Script" (83 : Nat)))) ∈ gvF := List.mem_of_getElem? (i := 251) (by decide +kernel)
theorem gq_266 : (Jvm.Cond.not (Jvm.Cond.eq (Jvm.Term.string "TableColumnBalancer$Script" (109 : Nat)) (Jvm.Term.string "TableColumnBalancer$Script" (88 : Nat)))) ∈ gvF := List.mem_of_getElem? (i := 266) (by decide +kernel)
theorem gq_476 : (Jvm.Cond.not (Jvm.Cond.eq (Jvm.Term.string "TableColumnBalancer$Script" (109 : Nat)) (Jvm.Term.string "TableColumnBalancerModel" (206 : Nat)))) ∈ gvF := List.mem_of_getElem? (i := 476) (by decide +kernel)
theorem gq_503 : (Jvm.Cond.not (Jvm.Cond.eq (Jvm.Term.string "TableColumnBalancer$Script" (109 : Nat)) (Jvm.Term.string "TableColumnBalancerModel" (218 : Nat)))) ∈ gvF := List.mem_of_getElem? (i := 503) (by decide +kernel)
theorem gv_ne1 : ∀ i, i < strN → 1 ≠ i → Cond.not (Cond.eq (tmS 1) (tmS i)) ∈ gvF ∨ Cond.not (Cond.eq (tmS i) (tmS 1)) ∈ gvF := fun i hi => match i, hi with
  | 0, _ => fun _ => Or.inr gq_209
  | 1, _ => fun h => absurd rfl h
  | 2, _ => fun _ => Or.inl gq_223
  | 3, _ => fun _ => Or.inr gq_205
  | 4, _ => fun _ => Or.inr gq_206
  | 5, _ => fun _ => Or.inr gq_207
  | 6, _ => fun _ => Or.inr gq_208
  | 7, _ => fun _ => Or.inl gq_236
  | 8, _ => fun _ => Or.inl gq_251
  | 9, _ => fun _ => Or.inl gq_266
  | 10, _ => fun _ => Or.inl gq_476
  | 11, _ => fun _ => Or.inl gq_503
  | n + 12, h => absurd h (by unfold strN; omega)
theorem gq_218 : (Jvm.Cond.not (Jvm.Cond.eq (Jvm.Term.string "TableColumnBalancer$Script" (49 : Nat)) (Jvm.Term.string "TableColumnBalancer$Script" (111 : Nat)))) ∈ gvF := List.mem_of_getElem? (i := 218) (by decide +kernel)
theorem gq_219 : (Jvm.Cond.not (Jvm.Cond.eq (Jvm.Term.string "TableColumnBalancer$Script" (63 : Nat)) (Jvm.Term.string "TableColumnBalancer$Script" (111 : Nat)))) ∈ gvF := List.mem_of_getElem? (i := 219) (by decide +kernel)
theorem gq_220 : (Jvm.Cond.not (Jvm.Cond.eq (Jvm.Term.string "TableColumnBalancer$Script" (67 : Nat)) (Jvm.Term.string "TableColumnBalancer$Script" (111 : Nat)))) ∈ gvF := List.mem_of_getElem? (i := 220) (by decide +kernel)
theorem gq_221 : (Jvm.Cond.not (Jvm.Cond.eq (Jvm.Term.string "TableColumnBalancer$Script" (72 : Nat)) (Jvm.Term.string "TableColumnBalancer$Script" (111 : Nat)))) ∈ gvF := List.mem_of_getElem? (i := 221) (by decide +kernel)
theorem gq_237 : (Jvm.Cond.not (Jvm.Cond.eq (Jvm.Term.string "TableColumnBalancer$Script" (111 : Nat)) (Jvm.Term.string "TableColumnBalancer$Script" (77 : Nat)))) ∈ gvF := List.mem_of_getElem? (i := 237) (by decide +kernel)
theorem gq_252 : (Jvm.Cond.not (Jvm.Cond.eq (Jvm.Term.string "TableColumnBalancer$Script" (111 : Nat)) (Jvm.Term.string "TableColumnBalancer$Script" (83 : Nat)))) ∈ gvF := List.mem_of_getElem? (i := 252) (by decide +kernel)
theorem gq_267 : (Jvm.Cond.not (Jvm.Cond.eq (Jvm.Term.string "TableColumnBalancer$Script" (111 : Nat)) (Jvm.Term.string "TableColumnBalancer$Script" (88 : Nat)))) ∈ gvF := List.mem_of_getElem? (i := 267) (by decide +kernel)
theorem gq_477 : (Jvm.Cond.not (Jvm.Cond.eq (Jvm.Term.string "TableColumnBalancer$Script" (111 : Nat)) (Jvm.Term.string "TableColumnBalancerModel" (206 : Nat)))) ∈ gvF := List.mem_of_getElem? (i := 477) (by decide +kernel)
theorem gq_504 : (Jvm.Cond.not (Jvm.Cond.eq (Jvm.Term.string "TableColumnBalancer$Script" (111 : Nat)) (Jvm.Term.string "TableColumnBalancerModel" (218 : Nat)))) ∈ gvF := List.mem_of_getElem? (i := 504) (by decide +kernel)
theorem gv_ne2 : ∀ i, i < strN → 2 ≠ i → Cond.not (Cond.eq (tmS 2) (tmS i)) ∈ gvF ∨ Cond.not (Cond.eq (tmS i) (tmS 2)) ∈ gvF := fun i hi => match i, hi with
  | 0, _ => fun _ => Or.inr gq_222
  | 1, _ => fun _ => Or.inr gq_223
  | 2, _ => fun h => absurd rfl h
  | 3, _ => fun _ => Or.inr gq_218
  | 4, _ => fun _ => Or.inr gq_219
  | 5, _ => fun _ => Or.inr gq_220
  | 6, _ => fun _ => Or.inr gq_221
  | 7, _ => fun _ => Or.inl gq_237
  | 8, _ => fun _ => Or.inl gq_252
  | 9, _ => fun _ => Or.inl gq_267
  | 10, _ => fun _ => Or.inl gq_477
  | 11, _ => fun _ => Or.inl gq_504
  | n + 12, h => absurd h (by unfold strN; omega)
theorem gq_167 : (Jvm.Cond.not (Jvm.Cond.eq (Jvm.Term.string "TableColumnBalancer$Script" (49 : Nat)) (Jvm.Term.string "TableColumnBalancer$Script" (63 : Nat)))) ∈ gvF := List.mem_of_getElem? (i := 167) (by decide +kernel)
theorem gq_175 : (Jvm.Cond.not (Jvm.Cond.eq (Jvm.Term.string "TableColumnBalancer$Script" (49 : Nat)) (Jvm.Term.string "TableColumnBalancer$Script" (67 : Nat)))) ∈ gvF := List.mem_of_getElem? (i := 175) (by decide +kernel)
theorem gq_184 : (Jvm.Cond.not (Jvm.Cond.eq (Jvm.Term.string "TableColumnBalancer$Script" (49 : Nat)) (Jvm.Term.string "TableColumnBalancer$Script" (72 : Nat)))) ∈ gvF := List.mem_of_getElem? (i := 184) (by decide +kernel)
theorem gq_231 : (Jvm.Cond.not (Jvm.Cond.eq (Jvm.Term.string "TableColumnBalancer$Script" (49 : Nat)) (Jvm.Term.string "TableColumnBalancer$Script" (77 : Nat)))) ∈ gvF := List.mem_of_getElem? (i := 231) (by decide +kernel)
theorem gq_246 : (Jvm.Cond.not (Jvm.Cond.eq (Jvm.Term.string "TableColumnBalancer$Script" (49 : Nat)) (Jvm.Term.string "TableColumnBalancer$Script" (83 : Nat)))) ∈ gvF := List.mem_of_getElem? (i := 246) (by decide +kernel)
theorem gq_261 : (Jvm.Cond.not (Jvm.Cond.eq (Jvm.Term.string "TableColumnBalancer$Script" (49 : Nat)) (Jvm.Term.string "TableColumnBalancer$Script" (88 : Nat)))) ∈ gvF := List.mem_of_getElem? (i := 261) (by decide +kernel)
theorem gq_471 : (Jvm.Cond.not (Jvm.Cond.eq (Jvm.Term.string "TableColumnBalancer$Script" (49 : Nat)) (Jvm.Term.string "TableColumnBalancerModel" (206 : Nat)))) ∈ gvF := List.mem_of_getElem? (i := 471) (by decide +kernel)
theorem gq_498 : (Jvm.Cond.not (Jvm.Cond.eq (Jvm.Term.string "TableColumnBalancer$Script" (49 : Nat)) (Jvm.Term.string "TableColumnBalancerModel" (218 : Nat)))) ∈ gvF := List.mem_of_getElem? (i := 498) (by decide +kernel)
theorem gv_ne3 : ∀ i, i < strN → 3 ≠ i → Cond.not (Cond.eq (tmS 3) (tmS i)) ∈ gvF ∨ Cond.not (Cond.eq (tmS i) (tmS 3)) ∈ gvF := fun i hi => match i, hi with
  | 0, _ => fun _ => Or.inl gq_194
  | 1, _ => fun _ => Or.inl gq_205
  | 2, _ => fun _ => Or.inl gq_218
  | 3, _ => fun h => absurd rfl h
  | 4, _ => fun _ => Or.inl gq_167
  | 5, _ => fun _ => Or.inl gq_175
  | 6, _ => fun _ => Or.inl gq_184
  | 7, _ => fun _ => Or.inl gq_231
  | 8, _ => fun _ => Or.inl gq_246
  | 9, _ => fun _ => Or.inl gq_261
  | 10, _ => fun _ => Or.inl gq_471
  | 11, _ => fun _ => Or.inl gq_498
  | n + 12, h => absurd h (by unfold strN; omega)
theorem gq_176 : (Jvm.Cond.not (Jvm.Cond.eq (Jvm.Term.string "TableColumnBalancer$Script" (63 : Nat)) (Jvm.Term.string "TableColumnBalancer$Script" (67 : Nat)))) ∈ gvF := List.mem_of_getElem? (i := 176) (by decide +kernel)
theorem gq_185 : (Jvm.Cond.not (Jvm.Cond.eq (Jvm.Term.string "TableColumnBalancer$Script" (63 : Nat)) (Jvm.Term.string "TableColumnBalancer$Script" (72 : Nat)))) ∈ gvF := List.mem_of_getElem? (i := 185) (by decide +kernel)
theorem gq_232 : (Jvm.Cond.not (Jvm.Cond.eq (Jvm.Term.string "TableColumnBalancer$Script" (63 : Nat)) (Jvm.Term.string "TableColumnBalancer$Script" (77 : Nat)))) ∈ gvF := List.mem_of_getElem? (i := 232) (by decide +kernel)
theorem gq_247 : (Jvm.Cond.not (Jvm.Cond.eq (Jvm.Term.string "TableColumnBalancer$Script" (63 : Nat)) (Jvm.Term.string "TableColumnBalancer$Script" (83 : Nat)))) ∈ gvF := List.mem_of_getElem? (i := 247) (by decide +kernel)
theorem gq_262 : (Jvm.Cond.not (Jvm.Cond.eq (Jvm.Term.string "TableColumnBalancer$Script" (63 : Nat)) (Jvm.Term.string "TableColumnBalancer$Script" (88 : Nat)))) ∈ gvF := List.mem_of_getElem? (i := 262) (by decide +kernel)
theorem gq_472 : (Jvm.Cond.not (Jvm.Cond.eq (Jvm.Term.string "TableColumnBalancer$Script" (63 : Nat)) (Jvm.Term.string "TableColumnBalancerModel" (206 : Nat)))) ∈ gvF := List.mem_of_getElem? (i := 472) (by decide +kernel)
theorem gq_499 : (Jvm.Cond.not (Jvm.Cond.eq (Jvm.Term.string "TableColumnBalancer$Script" (63 : Nat)) (Jvm.Term.string "TableColumnBalancerModel" (218 : Nat)))) ∈ gvF := List.mem_of_getElem? (i := 499) (by decide +kernel)
theorem gv_ne4 : ∀ i, i < strN → 4 ≠ i → Cond.not (Cond.eq (tmS 4) (tmS i)) ∈ gvF ∨ Cond.not (Cond.eq (tmS i) (tmS 4)) ∈ gvF := fun i hi => match i, hi with
  | 0, _ => fun _ => Or.inl gq_195
  | 1, _ => fun _ => Or.inl gq_206
  | 2, _ => fun _ => Or.inl gq_219
  | 3, _ => fun _ => Or.inr gq_167
  | 4, _ => fun h => absurd rfl h
  | 5, _ => fun _ => Or.inl gq_176
  | 6, _ => fun _ => Or.inl gq_185
  | 7, _ => fun _ => Or.inl gq_232
  | 8, _ => fun _ => Or.inl gq_247
  | 9, _ => fun _ => Or.inl gq_262
  | 10, _ => fun _ => Or.inl gq_472
  | 11, _ => fun _ => Or.inl gq_499
  | n + 12, h => absurd h (by unfold strN; omega)
theorem gq_186 : (Jvm.Cond.not (Jvm.Cond.eq (Jvm.Term.string "TableColumnBalancer$Script" (67 : Nat)) (Jvm.Term.string "TableColumnBalancer$Script" (72 : Nat)))) ∈ gvF := List.mem_of_getElem? (i := 186) (by decide +kernel)
theorem gq_233 : (Jvm.Cond.not (Jvm.Cond.eq (Jvm.Term.string "TableColumnBalancer$Script" (67 : Nat)) (Jvm.Term.string "TableColumnBalancer$Script" (77 : Nat)))) ∈ gvF := List.mem_of_getElem? (i := 233) (by decide +kernel)
theorem gq_248 : (Jvm.Cond.not (Jvm.Cond.eq (Jvm.Term.string "TableColumnBalancer$Script" (67 : Nat)) (Jvm.Term.string "TableColumnBalancer$Script" (83 : Nat)))) ∈ gvF := List.mem_of_getElem? (i := 248) (by decide +kernel)
theorem gq_263 : (Jvm.Cond.not (Jvm.Cond.eq (Jvm.Term.string "TableColumnBalancer$Script" (67 : Nat)) (Jvm.Term.string "TableColumnBalancer$Script" (88 : Nat)))) ∈ gvF := List.mem_of_getElem? (i := 263) (by decide +kernel)
theorem gq_473 : (Jvm.Cond.not (Jvm.Cond.eq (Jvm.Term.string "TableColumnBalancer$Script" (67 : Nat)) (Jvm.Term.string "TableColumnBalancerModel" (206 : Nat)))) ∈ gvF := List.mem_of_getElem? (i := 473) (by decide +kernel)
theorem gq_500 : (Jvm.Cond.not (Jvm.Cond.eq (Jvm.Term.string "TableColumnBalancer$Script" (67 : Nat)) (Jvm.Term.string "TableColumnBalancerModel" (218 : Nat)))) ∈ gvF := List.mem_of_getElem? (i := 500) (by decide +kernel)
theorem gv_ne5 : ∀ i, i < strN → 5 ≠ i → Cond.not (Cond.eq (tmS 5) (tmS i)) ∈ gvF ∨ Cond.not (Cond.eq (tmS i) (tmS 5)) ∈ gvF := fun i hi => match i, hi with
  | 0, _ => fun _ => Or.inl gq_196
  | 1, _ => fun _ => Or.inl gq_207
  | 2, _ => fun _ => Or.inl gq_220
  | 3, _ => fun _ => Or.inr gq_175
  | 4, _ => fun _ => Or.inr gq_176
  | 5, _ => fun h => absurd rfl h
  | 6, _ => fun _ => Or.inl gq_186
  | 7, _ => fun _ => Or.inl gq_233
  | 8, _ => fun _ => Or.inl gq_248
  | 9, _ => fun _ => Or.inl gq_263
  | 10, _ => fun _ => Or.inl gq_473
  | 11, _ => fun _ => Or.inl gq_500
  | n + 12, h => absurd h (by unfold strN; omega)
theorem gq_234 : (Jvm.Cond.not (Jvm.Cond.eq (Jvm.Term.string "TableColumnBalancer$Script" (72 : Nat)) (Jvm.Term.string "TableColumnBalancer$Script" (77 : Nat)))) ∈ gvF := List.mem_of_getElem? (i := 234) (by decide +kernel)
theorem gq_249 : (Jvm.Cond.not (Jvm.Cond.eq (Jvm.Term.string "TableColumnBalancer$Script" (72 : Nat)) (Jvm.Term.string "TableColumnBalancer$Script" (83 : Nat)))) ∈ gvF := List.mem_of_getElem? (i := 249) (by decide +kernel)
theorem gq_264 : (Jvm.Cond.not (Jvm.Cond.eq (Jvm.Term.string "TableColumnBalancer$Script" (72 : Nat)) (Jvm.Term.string "TableColumnBalancer$Script" (88 : Nat)))) ∈ gvF := List.mem_of_getElem? (i := 264) (by decide +kernel)
theorem gq_474 : (Jvm.Cond.not (Jvm.Cond.eq (Jvm.Term.string "TableColumnBalancer$Script" (72 : Nat)) (Jvm.Term.string "TableColumnBalancerModel" (206 : Nat)))) ∈ gvF := List.mem_of_getElem? (i := 474) (by decide +kernel)
theorem gq_501 : (Jvm.Cond.not (Jvm.Cond.eq (Jvm.Term.string "TableColumnBalancer$Script" (72 : Nat)) (Jvm.Term.string "TableColumnBalancerModel" (218 : Nat)))) ∈ gvF := List.mem_of_getElem? (i := 501) (by decide +kernel)
theorem gv_ne6 : ∀ i, i < strN → 6 ≠ i → Cond.not (Cond.eq (tmS 6) (tmS i)) ∈ gvF ∨ Cond.not (Cond.eq (tmS i) (tmS 6)) ∈ gvF := fun i hi => match i, hi with
  | 0, _ => fun _ => Or.inl gq_197
  | 1, _ => fun _ => Or.inl gq_208
  | 2, _ => fun _ => Or.inl gq_221
  | 3, _ => fun _ => Or.inr gq_184
  | 4, _ => fun _ => Or.inr gq_185
  | 5, _ => fun _ => Or.inr gq_186
  | 6, _ => fun h => absurd rfl h
  | 7, _ => fun _ => Or.inl gq_234
  | 8, _ => fun _ => Or.inl gq_249
  | 9, _ => fun _ => Or.inl gq_264
  | 10, _ => fun _ => Or.inl gq_474
  | 11, _ => fun _ => Or.inl gq_501
  | n + 12, h => absurd h (by unfold strN; omega)
theorem gq_253 : (Jvm.Cond.not (Jvm.Cond.eq (Jvm.Term.string "TableColumnBalancer$Script" (77 : Nat)) (Jvm.Term.string "TableColumnBalancer$Script" (83 : Nat)))) ∈ gvF := List.mem_of_getElem? (i := 253) (by decide +kernel)
theorem gq_268 : (Jvm.Cond.not (Jvm.Cond.eq (Jvm.Term.string "TableColumnBalancer$Script" (77 : Nat)) (Jvm.Term.string "TableColumnBalancer$Script" (88 : Nat)))) ∈ gvF := List.mem_of_getElem? (i := 268) (by decide +kernel)
theorem gq_478 : (Jvm.Cond.not (Jvm.Cond.eq (Jvm.Term.string "TableColumnBalancer$Script" (77 : Nat)) (Jvm.Term.string "TableColumnBalancerModel" (206 : Nat)))) ∈ gvF := List.mem_of_getElem? (i := 478) (by decide +kernel)
theorem gq_505 : (Jvm.Cond.not (Jvm.Cond.eq (Jvm.Term.string "TableColumnBalancer$Script" (77 : Nat)) (Jvm.Term.string "TableColumnBalancerModel" (218 : Nat)))) ∈ gvF := List.mem_of_getElem? (i := 505) (by decide +kernel)
theorem gv_ne7 : ∀ i, i < strN → 7 ≠ i → Cond.not (Cond.eq (tmS 7) (tmS i)) ∈ gvF ∨ Cond.not (Cond.eq (tmS i) (tmS 7)) ∈ gvF := fun i hi => match i, hi with
  | 0, _ => fun _ => Or.inr gq_235
  | 1, _ => fun _ => Or.inr gq_236
  | 2, _ => fun _ => Or.inr gq_237
  | 3, _ => fun _ => Or.inr gq_231
  | 4, _ => fun _ => Or.inr gq_232
  | 5, _ => fun _ => Or.inr gq_233
  | 6, _ => fun _ => Or.inr gq_234
  | 7, _ => fun h => absurd rfl h
  | 8, _ => fun _ => Or.inl gq_253
  | 9, _ => fun _ => Or.inl gq_268
  | 10, _ => fun _ => Or.inl gq_478
  | 11, _ => fun _ => Or.inl gq_505
  | n + 12, h => absurd h (by unfold strN; omega)
theorem gq_269 : (Jvm.Cond.not (Jvm.Cond.eq (Jvm.Term.string "TableColumnBalancer$Script" (83 : Nat)) (Jvm.Term.string "TableColumnBalancer$Script" (88 : Nat)))) ∈ gvF := List.mem_of_getElem? (i := 269) (by decide +kernel)
theorem gq_479 : (Jvm.Cond.not (Jvm.Cond.eq (Jvm.Term.string "TableColumnBalancer$Script" (83 : Nat)) (Jvm.Term.string "TableColumnBalancerModel" (206 : Nat)))) ∈ gvF := List.mem_of_getElem? (i := 479) (by decide +kernel)
theorem gq_506 : (Jvm.Cond.not (Jvm.Cond.eq (Jvm.Term.string "TableColumnBalancer$Script" (83 : Nat)) (Jvm.Term.string "TableColumnBalancerModel" (218 : Nat)))) ∈ gvF := List.mem_of_getElem? (i := 506) (by decide +kernel)
theorem gv_ne8 : ∀ i, i < strN → 8 ≠ i → Cond.not (Cond.eq (tmS 8) (tmS i)) ∈ gvF ∨ Cond.not (Cond.eq (tmS i) (tmS 8)) ∈ gvF := fun i hi => match i, hi with
  | 0, _ => fun _ => Or.inr gq_250
  | 1, _ => fun _ => Or.inr gq_251
  | 2, _ => fun _ => Or.inr gq_252
  | 3, _ => fun _ => Or.inr gq_246
  | 4, _ => fun _ => Or.inr gq_247
  | 5, _ => fun _ => Or.inr gq_248
  | 6, _ => fun _ => Or.inr gq_249
  | 7, _ => fun _ => Or.inr gq_253
  | 8, _ => fun h => absurd rfl h
  | 9, _ => fun _ => Or.inl gq_269
  | 10, _ => fun _ => Or.inl gq_479
  | 11, _ => fun _ => Or.inl gq_506
  | n + 12, h => absurd h (by unfold strN; omega)
theorem gq_480 : (Jvm.Cond.not (Jvm.Cond.eq (Jvm.Term.string "TableColumnBalancer$Script" (88 : Nat)) (Jvm.Term.string "TableColumnBalancerModel" (206 : Nat)))) ∈ gvF := List.mem_of_getElem? (i := 480) (by decide +kernel)
theorem gq_507 : (Jvm.Cond.not (Jvm.Cond.eq (Jvm.Term.string "TableColumnBalancer$Script" (88 : Nat)) (Jvm.Term.string "TableColumnBalancerModel" (218 : Nat)))) ∈ gvF := List.mem_of_getElem? (i := 507) (by decide +kernel)
theorem gv_ne9 : ∀ i, i < strN → 9 ≠ i → Cond.not (Cond.eq (tmS 9) (tmS i)) ∈ gvF ∨ Cond.not (Cond.eq (tmS i) (tmS 9)) ∈ gvF := fun i hi => match i, hi with
  | 0, _ => fun _ => Or.inr gq_265
  | 1, _ => fun _ => Or.inr gq_266
  | 2, _ => fun _ => Or.inr gq_267
  | 3, _ => fun _ => Or.inr gq_261
  | 4, _ => fun _ => Or.inr gq_262
  | 5, _ => fun _ => Or.inr gq_263
  | 6, _ => fun _ => Or.inr gq_264
  | 7, _ => fun _ => Or.inr gq_268
  | 8, _ => fun _ => Or.inr gq_269
  | 9, _ => fun h => absurd rfl h
  | 10, _ => fun _ => Or.inl gq_480
  | 11, _ => fun _ => Or.inl gq_507
  | n + 12, h => absurd h (by unfold strN; omega)
theorem gq_517 : (Jvm.Cond.not (Jvm.Cond.eq (Jvm.Term.string "TableColumnBalancerModel" (206 : Nat)) (Jvm.Term.string "TableColumnBalancerModel" (218 : Nat)))) ∈ gvF := List.mem_of_getElem? (i := 517) (by decide +kernel)
theorem gv_ne10 : ∀ i, i < strN → 10 ≠ i → Cond.not (Cond.eq (tmS 10) (tmS i)) ∈ gvF ∨ Cond.not (Cond.eq (tmS i) (tmS 10)) ∈ gvF := fun i hi => match i, hi with
  | 0, _ => fun _ => Or.inr gq_475
  | 1, _ => fun _ => Or.inr gq_476
  | 2, _ => fun _ => Or.inr gq_477
  | 3, _ => fun _ => Or.inr gq_471
  | 4, _ => fun _ => Or.inr gq_472
  | 5, _ => fun _ => Or.inr gq_473
  | 6, _ => fun _ => Or.inr gq_474
  | 7, _ => fun _ => Or.inr gq_478
  | 8, _ => fun _ => Or.inr gq_479
  | 9, _ => fun _ => Or.inr gq_480
  | 10, _ => fun h => absurd rfl h
  | 11, _ => fun _ => Or.inl gq_517
  | n + 12, h => absurd h (by unfold strN; omega)
theorem gv_ne11 : ∀ i, i < strN → 11 ≠ i → Cond.not (Cond.eq (tmS 11) (tmS i)) ∈ gvF ∨ Cond.not (Cond.eq (tmS i) (tmS 11)) ∈ gvF := fun i hi => match i, hi with
  | 0, _ => fun _ => Or.inr gq_502
  | 1, _ => fun _ => Or.inr gq_503
  | 2, _ => fun _ => Or.inr gq_504
  | 3, _ => fun _ => Or.inr gq_498
  | 4, _ => fun _ => Or.inr gq_499
  | 5, _ => fun _ => Or.inr gq_500
  | 6, _ => fun _ => Or.inr gq_501
  | 7, _ => fun _ => Or.inr gq_505
  | 8, _ => fun _ => Or.inr gq_506
  | 9, _ => fun _ => Or.inr gq_507
  | 10, _ => fun _ => Or.inr gq_517
  | 11, _ => fun h => absurd rfl h
  | n + 12, h => absurd h (by unfold strN; omega)
theorem gv_ne : ∀ i, i < strN → ∀ j, j < strN → i ≠ j → Cond.not (Cond.eq (tmS i) (tmS j)) ∈ gvF ∨ Cond.not (Cond.eq (tmS j) (tmS i)) ∈ gvF := fun i hi => match i, hi with
  | 0, _ => gv_ne0
  | 1, _ => gv_ne1
  | 2, _ => gv_ne2
  | 3, _ => gv_ne3
  | 4, _ => gv_ne4
  | 5, _ => gv_ne5
  | 6, _ => gv_ne6
  | 7, _ => gv_ne7
  | 8, _ => gv_ne8
  | 9, _ => gv_ne9
  | 10, _ => gv_ne10
  | 11, _ => gv_ne11
  | n + 12, h => absurd h (by unfold strN; omega)
theorem gq_68 : (Jvm.Cond.not (Jvm.Cond.castable "java/util/NoSuchElementException" "java/lang/UnsupportedOperationException")) ∈ gvF := List.mem_of_getElem? (i := 68) (by decide +kernel)
theorem gq_99 : (Jvm.Cond.not (Jvm.Cond.castable "java/util/NoSuchElementException" "java/lang/ArithmeticException")) ∈ gvF := List.mem_of_getElem? (i := 99) (by decide +kernel)
theorem gq_53 : (Jvm.Cond.not (Jvm.Cond.castable "java/util/NoSuchElementException" "java/lang/IndexOutOfBoundsException")) ∈ gvF := List.mem_of_getElem? (i := 53) (by decide +kernel)
theorem gq_24 : (Jvm.Cond.not (Jvm.Cond.castable "java/util/NoSuchElementException" "java/lang/IllegalArgumentException")) ∈ gvF := List.mem_of_getElem? (i := 24) (by decide +kernel)
theorem gq_39 : (Jvm.Cond.not (Jvm.Cond.castable "java/util/NoSuchElementException" "java/lang/IllegalStateException")) ∈ gvF := List.mem_of_getElem? (i := 39) (by decide +kernel)
theorem gq_83 : (Jvm.Cond.not (Jvm.Cond.castable "java/lang/UnsupportedOperationException" "java/util/NoSuchElementException")) ∈ gvF := List.mem_of_getElem? (i := 83) (by decide +kernel)
theorem gq_98 : (Jvm.Cond.not (Jvm.Cond.castable "java/lang/UnsupportedOperationException" "java/lang/ArithmeticException")) ∈ gvF := List.mem_of_getElem? (i := 98) (by decide +kernel)
theorem gq_52 : (Jvm.Cond.not (Jvm.Cond.castable "java/lang/UnsupportedOperationException" "java/lang/IndexOutOfBoundsException")) ∈ gvF := List.mem_of_getElem? (i := 52) (by decide +kernel)
theorem gq_23 : (Jvm.Cond.not (Jvm.Cond.castable "java/lang/UnsupportedOperationException" "java/lang/IllegalArgumentException")) ∈ gvF := List.mem_of_getElem? (i := 23) (by decide +kernel)
theorem gq_38 : (Jvm.Cond.not (Jvm.Cond.castable "java/lang/UnsupportedOperationException" "java/lang/IllegalStateException")) ∈ gvF := List.mem_of_getElem? (i := 38) (by decide +kernel)
theorem gq_84 : (Jvm.Cond.not (Jvm.Cond.castable "java/lang/ArithmeticException" "java/util/NoSuchElementException")) ∈ gvF := List.mem_of_getElem? (i := 84) (by decide +kernel)
theorem gq_69 : (Jvm.Cond.not (Jvm.Cond.castable "java/lang/ArithmeticException" "java/lang/UnsupportedOperationException")) ∈ gvF := List.mem_of_getElem? (i := 69) (by decide +kernel)
theorem gq_54 : (Jvm.Cond.not (Jvm.Cond.castable "java/lang/ArithmeticException" "java/lang/IndexOutOfBoundsException")) ∈ gvF := List.mem_of_getElem? (i := 54) (by decide +kernel)
theorem gq_25 : (Jvm.Cond.not (Jvm.Cond.castable "java/lang/ArithmeticException" "java/lang/IllegalArgumentException")) ∈ gvF := List.mem_of_getElem? (i := 25) (by decide +kernel)
theorem gq_40 : (Jvm.Cond.not (Jvm.Cond.castable "java/lang/ArithmeticException" "java/lang/IllegalStateException")) ∈ gvF := List.mem_of_getElem? (i := 40) (by decide +kernel)
theorem gq_82 : (Jvm.Cond.not (Jvm.Cond.castable "java/lang/IndexOutOfBoundsException" "java/util/NoSuchElementException")) ∈ gvF := List.mem_of_getElem? (i := 82) (by decide +kernel)
theorem gq_67 : (Jvm.Cond.not (Jvm.Cond.castable "java/lang/IndexOutOfBoundsException" "java/lang/UnsupportedOperationException")) ∈ gvF := List.mem_of_getElem? (i := 67) (by decide +kernel)
theorem gq_97 : (Jvm.Cond.not (Jvm.Cond.castable "java/lang/IndexOutOfBoundsException" "java/lang/ArithmeticException")) ∈ gvF := List.mem_of_getElem? (i := 97) (by decide +kernel)
theorem gq_22 : (Jvm.Cond.not (Jvm.Cond.castable "java/lang/IndexOutOfBoundsException" "java/lang/IllegalArgumentException")) ∈ gvF := List.mem_of_getElem? (i := 22) (by decide +kernel)
theorem gq_37 : (Jvm.Cond.not (Jvm.Cond.castable "java/lang/IndexOutOfBoundsException" "java/lang/IllegalStateException")) ∈ gvF := List.mem_of_getElem? (i := 37) (by decide +kernel)
theorem gq_79 : (Jvm.Cond.not (Jvm.Cond.castable "java/lang/IllegalArgumentException" "java/util/NoSuchElementException")) ∈ gvF := List.mem_of_getElem? (i := 79) (by decide +kernel)
theorem gq_64 : (Jvm.Cond.not (Jvm.Cond.castable "java/lang/IllegalArgumentException" "java/lang/UnsupportedOperationException")) ∈ gvF := List.mem_of_getElem? (i := 64) (by decide +kernel)
theorem gq_94 : (Jvm.Cond.not (Jvm.Cond.castable "java/lang/IllegalArgumentException" "java/lang/ArithmeticException")) ∈ gvF := List.mem_of_getElem? (i := 94) (by decide +kernel)
theorem gq_50 : (Jvm.Cond.not (Jvm.Cond.castable "java/lang/IllegalArgumentException" "java/lang/IndexOutOfBoundsException")) ∈ gvF := List.mem_of_getElem? (i := 50) (by decide +kernel)
theorem gq_35 : (Jvm.Cond.not (Jvm.Cond.castable "java/lang/IllegalArgumentException" "java/lang/IllegalStateException")) ∈ gvF := List.mem_of_getElem? (i := 35) (by decide +kernel)
theorem gq_80 : (Jvm.Cond.not (Jvm.Cond.castable "java/lang/IllegalStateException" "java/util/NoSuchElementException")) ∈ gvF := List.mem_of_getElem? (i := 80) (by decide +kernel)
theorem gq_65 : (Jvm.Cond.not (Jvm.Cond.castable "java/lang/IllegalStateException" "java/lang/UnsupportedOperationException")) ∈ gvF := List.mem_of_getElem? (i := 65) (by decide +kernel)
theorem gq_95 : (Jvm.Cond.not (Jvm.Cond.castable "java/lang/IllegalStateException" "java/lang/ArithmeticException")) ∈ gvF := List.mem_of_getElem? (i := 95) (by decide +kernel)
theorem gq_51 : (Jvm.Cond.not (Jvm.Cond.castable "java/lang/IllegalStateException" "java/lang/IndexOutOfBoundsException")) ∈ gvF := List.mem_of_getElem? (i := 51) (by decide +kernel)
theorem gq_20 : (Jvm.Cond.not (Jvm.Cond.castable "java/lang/IllegalStateException" "java/lang/IllegalArgumentException")) ∈ gvF := List.mem_of_getElem? (i := 20) (by decide +kernel)
theorem gv_ca : ∀ a ∈ exL, ∀ b ∈ exL, a ≠ b → Cond.not (.castable a b) ∈ gvF := (List.forall_mem_cons.mpr ⟨(List.forall_mem_cons.mpr ⟨(fun h => absurd rfl h), (List.forall_mem_cons.mpr ⟨(fun _ => gq_20), (List.forall_mem_cons.mpr ⟨(fun _ => gq_51), (List.forall_mem_cons.mpr ⟨(fun _ => gq_95), (List.forall_mem_cons.mpr ⟨(fun _ => gq_65), (List.forall_mem_cons.mpr ⟨(fun _ => gq_80), (fun _ h => absurd h List.not_mem_nil)⟩)⟩)⟩)⟩)⟩)⟩), (List.forall_mem_cons.mpr ⟨(List.forall_mem_cons.mpr ⟨(fun _ => gq_35), (List.forall_mem_cons.mpr ⟨(fun h => absurd rfl h), (List.forall_mem_cons.mpr ⟨(fun _ => gq_50), (List.forall_mem_cons.mpr ⟨(fun _ => gq_94), (List.forall_mem_cons.mpr ⟨(fun _ => gq_64), (List.forall_mem_cons.mpr ⟨(fun _ => gq_79), (fun _ h => absurd h List.not_mem_nil)⟩)⟩)⟩)⟩)⟩)⟩), (List.forall_mem_cons.mpr ⟨(List.forall_mem_cons.mpr ⟨(fun _ => gq_37), (List.forall_mem_cons.mpr ⟨(fun _ => gq_22), (List.forall_mem_cons.mpr ⟨(fun h => absurd rfl h), (List.forall_mem_cons.mpr ⟨(fun _ => gq_97), (List.forall_mem_cons.mpr ⟨(fun _ => gq_67), (List.forall_mem_cons.mpr ⟨(fun _ => gq_82), (fun _ h => absurd h List.not_mem_nil)⟩)⟩)⟩)⟩)⟩)⟩), (List.forall_mem_cons.mpr ⟨(List.forall_mem_cons.mpr ⟨(fun _ => gq_40), (List.forall_mem_cons.mpr ⟨(fun _ => gq_25), (List.forall_mem_cons.mpr ⟨(fun _ => gq_54), (List.forall_mem_cons.mpr ⟨(fun h => absurd rfl h), (List.forall_mem_cons.mpr ⟨(fun _ => gq_69), (List.forall_mem_cons.mpr ⟨(fun _ => gq_84), (fun _ h => absurd h List.not_mem_nil)⟩)⟩)⟩)⟩)⟩)⟩), (List.forall_mem_cons.mpr ⟨(List.forall_mem_cons.mpr ⟨(fun _ => gq_38), (List.forall_mem_cons.mpr ⟨(fun _ => gq_23), (List.forall_mem_cons.mpr ⟨(fun _ => gq_52), (List.forall_mem_cons.mpr ⟨(fun _ => gq_98), (List.forall_mem_cons.mpr ⟨(fun h => absurd rfl h), (List.forall_mem_cons.mpr ⟨(fun _ => gq_83), (fun _ h => absurd h List.not_mem_nil)⟩)⟩)⟩)⟩)⟩)⟩), (List.forall_mem_cons.mpr ⟨(List.forall_mem_cons.mpr ⟨(fun _ => gq_39), (List.forall_mem_cons.mpr ⟨(fun _ => gq_24), (List.forall_mem_cons.mpr ⟨(fun _ => gq_53), (List.forall_mem_cons.mpr ⟨(fun _ => gq_99), (List.forall_mem_cons.mpr ⟨(fun _ => gq_68), (List.forall_mem_cons.mpr ⟨(fun h => absurd rfl h), (fun _ h => absurd h List.not_mem_nil)⟩)⟩)⟩)⟩)⟩)⟩), (fun _ h => absurd h List.not_mem_nil)⟩)⟩)⟩)⟩)⟩)⟩)
theorem gq_4 : (Jvm.Cond.isRef (Jvm.Term.static "java/lang/Throwable" "UNASSIGNED_STACK" "[Ljava/lang/StackTraceElement;")) ∈ gvF := List.mem_of_getElem? (i := 4) (by decide +kernel)
theorem gv_s1 : (Jvm.Cond.isRef (Jvm.Term.static "java/lang/Throwable" "UNASSIGNED_STACK" "[Ljava/lang/StackTraceElement;")) ∈ gvF := gq_4
theorem gq_5 : (Jvm.Cond.isRef (Jvm.Term.static "java/lang/Throwable" "SUPPRESSED_SENTINEL" "Ljava/util/List;")) ∈ gvF := List.mem_of_getElem? (i := 5) (by decide +kernel)
theorem gv_s2 : (Jvm.Cond.isRef (Jvm.Term.static "java/lang/Throwable" "SUPPRESSED_SENTINEL" "Ljava/util/List;")) ∈ gvF := gq_5
theorem gq_7 : (Jvm.Cond.isRef (Jvm.Term.static "jdk/internal/util/Preconditions" "SIOOBE_FORMATTER" "Ljava/util/function/BiFunction;")) ∈ gvF := List.mem_of_getElem? (i := 7) (by decide +kernel)
theorem gv_s3 : (Jvm.Cond.isRef (Jvm.Term.static "jdk/internal/util/Preconditions" "SIOOBE_FORMATTER" "Ljava/util/function/BiFunction;")) ∈ gvF := gq_7
theorem gq_6 : (Jvm.Cond.eq (Jvm.Term.static "java/lang/String" "COMPACT_STRINGS" "Z") (Jvm.Term.int (1 : Int32))) ∈ gvF := List.mem_of_getElem? (i := 6) (by decide +kernel)
theorem gv_s4 : (Jvm.Cond.eq (Jvm.Term.static "java/lang/String" "COMPACT_STRINGS" "Z") (Jvm.Term.int (1 : Int32))) ∈ gvF := gq_6
theorem gq_357 : (Jvm.Cond.eq (Jvm.Term.string "TableColumnBalancer$Script" (107 : Nat)) (Jvm.Term.string "TableColumnBalancerModel" (191 : Nat))) ∈ gvF := List.mem_of_getElem? (i := 357) (by decide +kernel)
theorem gv_q0 : (Jvm.Cond.eq (Jvm.Term.string "TableColumnBalancer$Script" (107 : Nat)) (Jvm.Term.string "TableColumnBalancerModel" (191 : Nat))) ∈ gvF := gq_357
theorem gq_379 : (Jvm.Cond.eq (Jvm.Term.string "TableColumnBalancer$Script" (109 : Nat)) (Jvm.Term.string "TableColumnBalancerModel" (197 : Nat))) ∈ gvF := List.mem_of_getElem? (i := 379) (by decide +kernel)
theorem gv_q1 : (Jvm.Cond.eq (Jvm.Term.string "TableColumnBalancer$Script" (109 : Nat)) (Jvm.Term.string "TableColumnBalancerModel" (197 : Nat))) ∈ gvF := gq_379
theorem gq_403 : (Jvm.Cond.eq (Jvm.Term.string "TableColumnBalancer$Script" (111 : Nat)) (Jvm.Term.string "TableColumnBalancerModel" (199 : Nat))) ∈ gvF := List.mem_of_getElem? (i := 403) (by decide +kernel)
theorem gv_q2 : (Jvm.Cond.eq (Jvm.Term.string "TableColumnBalancer$Script" (111 : Nat)) (Jvm.Term.string "TableColumnBalancerModel" (199 : Nat))) ∈ gvF := gq_403
theorem gq_279 : (Jvm.Cond.eq (Jvm.Term.string "TableColumnBalancer$Script" (49 : Nat)) (Jvm.Term.string "TableColumnBalancerModel" (220 : Nat))) ∈ gvF := List.mem_of_getElem? (i := 279) (by decide +kernel)
theorem gv_q3 : (Jvm.Cond.eq (Jvm.Term.string "TableColumnBalancer$Script" (49 : Nat)) (Jvm.Term.string "TableColumnBalancerModel" (220 : Nat))) ∈ gvF := gq_279
theorem gq_297 : (Jvm.Cond.eq (Jvm.Term.string "TableColumnBalancer$Script" (63 : Nat)) (Jvm.Term.string "TableColumnBalancerModel" (225 : Nat))) ∈ gvF := List.mem_of_getElem? (i := 297) (by decide +kernel)
theorem gv_q4 : (Jvm.Cond.eq (Jvm.Term.string "TableColumnBalancer$Script" (63 : Nat)) (Jvm.Term.string "TableColumnBalancerModel" (225 : Nat))) ∈ gvF := gq_297
theorem gq_316 : (Jvm.Cond.eq (Jvm.Term.string "TableColumnBalancer$Script" (67 : Nat)) (Jvm.Term.string "TableColumnBalancerModel" (227 : Nat))) ∈ gvF := List.mem_of_getElem? (i := 316) (by decide +kernel)
theorem gv_q5 : (Jvm.Cond.eq (Jvm.Term.string "TableColumnBalancer$Script" (67 : Nat)) (Jvm.Term.string "TableColumnBalancerModel" (227 : Nat))) ∈ gvF := gq_316
theorem gq_336 : (Jvm.Cond.eq (Jvm.Term.string "TableColumnBalancer$Script" (72 : Nat)) (Jvm.Term.string "TableColumnBalancerModel" (229 : Nat))) ∈ gvF := List.mem_of_getElem? (i := 336) (by decide +kernel)
theorem gv_q6 : (Jvm.Cond.eq (Jvm.Term.string "TableColumnBalancer$Script" (72 : Nat)) (Jvm.Term.string "TableColumnBalancerModel" (229 : Nat))) ∈ gvF := gq_336
theorem gq_427 : (Jvm.Cond.eq (Jvm.Term.string "TableColumnBalancer$Script" (77 : Nat)) (Jvm.Term.string "TableColumnBalancerModel" (234 : Nat))) ∈ gvF := List.mem_of_getElem? (i := 427) (by decide +kernel)
theorem gv_q7 : (Jvm.Cond.eq (Jvm.Term.string "TableColumnBalancer$Script" (77 : Nat)) (Jvm.Term.string "TableColumnBalancerModel" (234 : Nat))) ∈ gvF := gq_427
theorem gq_453 : (Jvm.Cond.eq (Jvm.Term.string "TableColumnBalancer$Script" (83 : Nat)) (Jvm.Term.string "TableColumnBalancerModel" (239 : Nat))) ∈ gvF := List.mem_of_getElem? (i := 453) (by decide +kernel)
theorem gv_q8 : (Jvm.Cond.eq (Jvm.Term.string "TableColumnBalancer$Script" (83 : Nat)) (Jvm.Term.string "TableColumnBalancerModel" (239 : Nat))) ∈ gvF := gq_453
theorem gq_534 : (Jvm.Cond.eq (Jvm.Term.string "TableColumnBalancer$Script" (88 : Nat)) (Jvm.Term.string "TableColumnBalancerModel" (244 : Nat))) ∈ gvF := List.mem_of_getElem? (i := 534) (by decide +kernel)
theorem gv_q9 : (Jvm.Cond.eq (Jvm.Term.string "TableColumnBalancer$Script" (88 : Nat)) (Jvm.Term.string "TableColumnBalancerModel" (244 : Nat))) ∈ gvF := gq_534
