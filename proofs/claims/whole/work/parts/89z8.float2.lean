/-! ===== STAGE B: a float's bits ===== -/
theorem tn_fadd (a b : UInt32) : (FP.fadd a b).toNat = FP.Core.add FP.Core.b32 a.toNat b.toNat := FP.Core.toNat_of32 (FP.Core.round_fits FP.Core.good_b32 _)
theorem tn_fsub (a b : UInt32) : (FP.fsub a b).toNat = FP.Core.sub FP.Core.b32 a.toNat b.toNat := FP.Core.toNat_of32 (FP.Core.round_fits FP.Core.good_b32 _)
theorem tn_fmul (a b : UInt32) : (FP.fmul a b).toNat = FP.Core.mul FP.Core.b32 a.toNat b.toNat := FP.Core.toNat_of32 (FP.Core.round_fits FP.Core.good_b32 _)
theorem tn_fdiv (a b : UInt32) : (FP.fdiv a b).toNat = FP.Core.div FP.Core.b32 a.toNat b.toNat := FP.Core.toNat_of32 (FP.Core.quotient_fits FP.Core.good_b32 _ _)
theorem n32_of {x : UInt32} (h : FP.Core.val32 x ≠ .nan) : vf_n32 x := by
  have h2 := (FP.Core.ne_nan32 x).mp h
  unfold vf_n32
  rw [UInt32.le_iff_toNat_le, FP.Core.mask_toNat32]
  exact h2
theorem nn32 {x : UInt32} (h : x.toNat ≤ 2139095040) : FP.Core.val32 x ≠ .nan := (FP.Core.ne_nan32 x).mpr (by omega)
theorem n32_lt {x : UInt32} (h : x.toNat ≤ 2139095040) : vf_n32 x := n32_of (nn32 h)
theorem fc32 {x y : UInt32} (hx : x.toNat ≤ 2139095040) (hy : y.toNat ≤ 2139095040) : FP.fcmp x y = some (compare (x.toNat : Int) (y.toNat : Int)) := by
  have h := FP.Core.fcmp_key (nn32 hx) (nn32 hy)
  unfold FP.Core.fkey at h
  rw [if_neg (by omega), if_neg (by omega)] at h
  exact h
theorem cv_gt {a b : Int} {g : CmpOp} (h : b < a) : Op.cmpValue (some (compare a b)) g = 1 := by
  rw [(FP.Core.compare_gt_iff a b).mpr h]
  rfl
theorem cv_lt {a b : Int} {g : CmpOp} (h : a < b) : Op.cmpValue (some (compare a b)) g = -1 := by
  rw [(FP.Core.compare_lt_iff a b).mpr h]
  rfl
theorem cv_eq {a b : Int} {g : CmpOp} (h : a = b) : Op.cmpValue (some (compare a b)) g = 0 := by
  rw [(FP.Core.compare_eq_iff a b).mpr h]
  rfl
theorem u2i (x : UInt32) : UInt32.toInt32 x = iN (x.toNat : Int) := by
  show Int32.ofUInt32 x = Int32.ofInt _
  apply Int32.toBitVec_inj.mp
  show x.toBitVec = BitVec.ofInt 32 (x.toNat : Int)
  rw [BitVec.ofInt_natCast]
  exact BitVec.eq_of_toNat_eq (by rw [BitVec.toNat_ofNat]; exact (Nat.mod_eq_of_lt x.toNat_lt).symm)
theorem sh23 : ((List.range 128).all fun E => decide (iN (E : Int) <<< (iN 23 &&& 31) = iN ((E * 8388608 : Nat) : Int))) = true := by decide +kernel
theorem sh23_at {E : Nat} (h : E < 128) : iN (E : Int) <<< (iN 23 &&& 31) = iN ((E * 8388608 : Nat) : Int) := of_decide_eq_true (List.all_eq_true.mp sh23 E (List.mem_range.mpr h))
theorem iN_tI {z : Int} (h : InR z) : (iN z).toInt = z := Int32.toInt_ofInt_of_le h.1 (by have := h.2; omega)
theorem d32_one : FP.Core.decode FP.Core.b32 1065353216 = .fin false FP.Core.b32.tails (1 - (FP.Core.b32.p : Int)) := by decide +kernel
theorem d32_two : FP.Core.decode FP.Core.b32 1073741824 = .fin false FP.Core.b32.tails (2 - (FP.Core.b32.p : Int)) := by decide +kernel
theorem d32_big : FP.Core.decode FP.Core.b32 1258291200 = .fin false FP.Core.b32.tails 0 := by decide +kernel
theorem of32_40 {h : Hp} {E0 M : Nat} {x : UInt32} (hM : M < 8388608) (hE : E0 < 128) (hx : x.toNat = 127 * 8388608 + M) : f_X0_ofFloat_L40 h (iN (E0 : Int)) x = some (h, .inr (iN ((E0 * 8388608 + M : Nat) : Int))) := by
  have fr := fl_frac FP.Core.good_b32 (M := M) hM d32_one d32_big (by decide)
  have ex : FP.Core.b32.emax * FP.Core.b32.tails + M = x.toNat := hx.symm
  rw [ex] at fr
  obtain ⟨⟨c, q, s1⟩, s2⟩ := fr
  have v1 : FP.Core.val32 (FP.fsub x (0x3f800000 : UInt32)) = .fin false c q := by
    show FP.Core.decode FP.Core.b32 (FP.fsub x (0x3f800000 : UInt32)).toNat = _
    rw [tn_fsub]
    exact s1
  have v2 : FP.Core.FInt (M : Int) (FP.fmul (FP.fsub x (0x3f800000 : UInt32)) (1258291200 : UInt32)) := by
    show FP.Core.Whole (M : Int) (FP.Core.decode FP.Core.b32 (FP.fmul (FP.fsub x (0x3f800000 : UInt32)) (1258291200 : UInt32)).toNat)
    rw [tn_fmul, tn_fsub]
    exact s2
  have v3 : FP.f2i (FP.fmul (FP.fsub x (0x3f800000 : UInt32)) (1258291200 : UInt32)) = iN (M : Int) := FP.Core.f2i_int (by rw [iN_tI ⟨by omega, by omega⟩]; exact v2)
  unfold f_X0_ofFloat_L40
  rw [chk_pos (n32_of (by rw [v1]; exact FP.Core.Datum.noConfusion)), chk_pos (n32_of (FP.Core.Whole.ne_nan v2)), v3, sh23_at hE, iN_add]
  rfl
theorem of32_L {E0 M : Nat} (hM : M < 8388608) (h0 : 1 ≤ E0) : ∀ (d E n : Nat) (h : Hp) (x : UInt32), E + d = 127 → E0 ≤ E → d < n → x.toNat = E * 8388608 + M → f_X0_ofFloat_L15 n h (iN ((E0 + d : Nat) : Int)) x (iN ((E - E0 : Nat) : Int)) = some (h, .inr (iN ((E0 * 8388608 + M : Nat) : Int))) := by
  intro d
  induction d with
  | zero =>
    intro E n h x he h1 hn hx
    obtain ⟨n, rfl⟩ : ∃ z, n = z + 1 := ⟨n - 1, by omega⟩
    have e : E = 127 := by omega
    subst e
    have r := of32_40 (h := h) (E0 := E0) hM (by omega) hx
    show f_X0_ofFloat_B15 (f_X0_ofFloat_L15 n) h (iN (E0 : Int)) x (iN ((127 - E0 : Nat) : Int)) = _
    unfold f_X0_ofFloat_B15
    have cv : Op.cmpValue (FP.fcmp x (0x3f800000 : UInt32)) .g = 1 ∨ Op.cmpValue (FP.fcmp x (0x3f800000 : UInt32)) .g = 0 := by
      have h1 : ((0x3f800000 : UInt32).toNat : Int) = 1065353216 := by decide
      rw [fc32 (by omega) (by decide), h1]
      by_cases z : M = 0
      · exact Or.inr (cv_eq (by omega))
      · exact Or.inl (cv_gt (by omega))
    have ge : 0 ≤ Op.cmpValue (FP.fcmp x (0x3f800000 : UInt32)) .g := by
      rcases cv with z | z <;> rw [z] <;> decide
    rw [r, if_pos ge]
    split <;> rfl
  | succ d ih =>
    intro E n h x he h1 hn hx
    obtain ⟨n, rfl⟩ : ∃ z, n = z + 1 := ⟨n - 1, by omega⟩
    have ev : (0x3f800000 : UInt32).toNat = 1065353216 := by decide
    have lt : ¬ 0 ≤ Op.cmpValue (FP.fcmp x (0x3f800000 : UInt32)) .g := by
      rw [fc32 (by omega) (by decide), cv_lt (by rw [ev]; omega)]
      decide
    have hx2 : (FP.fmul x (0x40000000 : UInt32)).toNat = (E + 1) * 8388608 + M := by
      rw [tn_fmul, hx]
      exact fl_dbl FP.Core.good_b32 (E := E) (M := M) (two := 1073741824) hM (by omega) (show E + 2 < 256 by omega) d32_two
    show f_X0_ofFloat_B15 (f_X0_ofFloat_L15 n) h (iN ((E0 + (d + 1) : Nat) : Int)) x (iN ((E - E0 : Nat) : Int)) = _
    unfold f_X0_ofFloat_B15
    rw [if_neg (nleN (by omega) (by omega) (by omega)), if_neg lt, chk_pos (n32_lt (by omega)), iN_add, iN_add, show ((E0 + (d + 1) : Nat) : Int) + -1 = ((E0 + d : Nat) : Int) by omega, show ((E - E0 : Nat) : Int) + 1 = ((E + 1 - E0 : Nat) : Int) by omega]
    exact ih (E + 1) n h _ (by omega) (by omega) (by omega) hx2
theorem of32_z {h : Hp} : f_X0_ofFloat h 0 = some (h, .inr (iN 0)) := by
  unfold f_X0_ofFloat
  rw [fc32 (by decide) (by decide), cv_eq rfl, if_neg (by decide)]
/-- the class's bits of a share -/
theorem of32 {h : Hp} {x : UInt32} (h1 : 8388608 ≤ x.toNat) (h2 : x.toNat < 1073741824) : f_X0_ofFloat h x = some (h, .inr (iN (x.toNat : Int))) := by
  have hm := Nat.div_add_mod x.toNat 8388608
  have hr := Nat.mod_lt x.toNat (show 0 < 8388608 by decide)
  generalize x.toNat / 8388608 = E at hm
  generalize x.toNat % 8388608 = M at hm hr
  have ez : ((0x00000000 : UInt32).toNat : Int) = 0 := by decide
  unfold f_X0_ofFloat
  rw [fc32 (by omega) (by decide), ez, cv_gt (by omega), if_pos (by decide)]
  have r := of32_L (E0 := E) (M := M) hr (by omega) (127 - E) E 2000 h x (by omega) (by omega) (by omega) (by omega)
  rw [show E + (127 - E) = 127 by omega, Nat.sub_self, show E * 8388608 + M = x.toNat by omega] at r
  exact r
/-- the reference's bits -/
theorem fb32 {h : Hp} {x : UInt32} (hx : x.toNat ≤ 2139095040) : f_Jxf58ca_floatToIntBits_5c35a h x = some (h, .inr (iN (x.toNat : Int))) := by
  unfold f_Jxf58ca_floatToIntBits_5c35a f_Jxf58ca_isNaN_12338
  rw [fc32 hx hx, cv_eq rfl, if_pos rfl, bnd_ret, if_pos (show iN 0 = 0 from rfl), u2i]
/-! shares of a line, their squares, sums and mean -/
theorem tb_sh : ((List.range 37).all fun S => (List.range S).all fun a => decide ((FP.fdiv (FP.i2f (iN (a : Int))) (FP.i2f (iN (S : Int)))).toNat ≤ 1065353216) && decide ((FP.fmul (FP.fdiv (FP.i2f (iN (a : Int))) (FP.i2f (iN (S : Int)))) (FP.fdiv (FP.i2f (iN (a : Int))) (FP.i2f (iN (S : Int))))).toNat ≤ 1065353216) && decide ((FP.fmul (FP.fdiv (FP.i2f (iN (a : Int))) (FP.i2f (iN (S : Int)))) (FP.fdiv (FP.i2f (iN (a : Int))) (FP.i2f (iN (S : Int))))).toNat = 0 ∨ 973078528 ≤ (FP.fmul (FP.fdiv (FP.i2f (iN (a : Int))) (FP.i2f (iN (S : Int)))) (FP.fdiv (FP.i2f (iN (a : Int))) (FP.i2f (iN (S : Int))))).toNat)) = true := by decide +kernel
/-- the share of a line that is left -/
noncomputable def lsF (S a : Int) : UInt32 := FP.fdiv (FP.i2f (iN a)) (FP.i2f (iN S))
noncomputable def sqF (S a : Int) : UInt32 := FP.fmul (lsF S a) (lsF S a)
theorem sh_bd {S a : Int} (h0 : 0 ≤ a) (h1 : a < S) (h2 : S ≤ 36) : (lsF S a).toNat ≤ 1065353216 ∧ (sqF S a).toNat ≤ 1065353216 ∧ ((sqF S a).toNat = 0 ∨ 973078528 ≤ (sqF S a).toNat) := by
  obtain ⟨s, rfl⟩ := Int.eq_ofNat_of_zero_le (show 0 ≤ S by omega)
  obtain ⟨b, rfl⟩ := Int.eq_ofNat_of_zero_le h0
  have h := List.all_eq_true.mp (List.all_eq_true.mp tb_sh s (List.mem_range.mpr (by omega))) b (List.mem_range.mpr (by omega))
  rw [Bool.and_eq_true, Bool.and_eq_true, decide_eq_true_eq, decide_eq_true_eq, decide_eq_true_eq] at h
  exact ⟨h.1.1, h.1.2, h.2⟩
theorem tb_k : ((List.range 14).all fun k => decide ((FP.i2f (iN (k : Int))).toNat < 2139095040) && decide (uO FP.Core.b32 (FP.i2f (iN (k : Int))).toNat = k * 2 ^ 149)) = true := by decide +kernel
theorem k_at {k : Nat} (h : k < 14) : (FP.i2f (iN (k : Int))).toNat < 2139095040 ∧ uO FP.Core.b32 (FP.i2f (iN (k : Int))).toNat = k * 2 ^ 149 := by
  have h := List.all_eq_true.mp tb_k k (List.mem_range.mpr h)
  rw [Bool.and_eq_true, decide_eq_true_eq, decide_eq_true_eq] at h
  exact h
theorem u_one : uO FP.Core.b32 1065353216 = 2 ^ 149 := by decide +kernel
theorem u_lo : uO FP.Core.b32 973078528 = 2 ^ 138 := by decide +kernel
theorem u_lo2 : uO FP.Core.b32 939524096 = 2 ^ 134 := by decide +kernel
/-- a sum of k squares -/
def SmO (k : Nat) (x : UInt32) : Prop := x.toNat < 2139095040 ∧ uO FP.Core.b32 x.toNat ≤ k * 2 ^ 149 ∧ (x.toNat = 0 ∨ 973078528 ≤ x.toNat)
theorem SmO.z : SmO 0 0 := ⟨by decide, by decide +kernel, Or.inl rfl⟩
theorem uO_le {m k : Nat} : uO FP.Core.b32 m ≤ uO FP.Core.b32 k ↔ m ≤ k := FP.Core.unitsOf_le_iff
theorem uO_0 : uO FP.Core.b32 0 = 0 := FP.Core.unitsOf_zero _
theorem SmO.ad {k : Nat} {x : UInt32} {S a : Int} (s : SmO k x) (hk : k < 12) (h0 : 0 ≤ a) (h1 : a < S) (h2 : S ≤ 36) : SmO (k + 1) (FP.fadd x (sqF S a)) := by
  obtain ⟨s1, s2, s3⟩ := s
  obtain ⟨b1, b2, b3⟩ := sh_bd h0 h1 h2
  have b4 : uO FP.Core.b32 (sqF S a).toNat ≤ 2 ^ 149 := by
    rw [← u_one]
    exact uO_le.mpr b2
  obtain ⟨k1, k2⟩ := k_at (k := k + 1) (by omega)
  obtain ⟨a1, a2, a3⟩ := fl_add FP.Core.good_b32 (x := x.toNat) (y := (sqF S a).toNat) s1 (show _ < 2139095040 by omega)
  have a4 := a2 _ (show _ ≤ uO FP.Core.b32 (FP.i2f (iN ((k + 1 : Nat) : Int))).toNat by rw [k2, Nat.add_mul]; omega)
  have a5 := uO_le.mpr a4
  rw [k2] at a5
  unfold SmO
  rw [tn_fadd]
  refine ⟨by omega, a5, ?_⟩
  rcases s3 with z | z
  · rcases b3 with y | y
    · refine Or.inl ?_
      have := a2 0 (by rw [z, y]; exact Nat.le_refl _)
      omega
    · refine Or.inr (a3 _ (show 973078528 ≤ 2139095040 by decide) ?_)
      have := uO_le.mpr y
      omega
  · refine Or.inr (a3 _ (show 973078528 ≤ 2139095040 by decide) ?_)
    have := uO_le.mpr z
    omega
/-- the mean -/
theorem SmO.dv {k : Nat} {x : UInt32} (s : SmO k x) (h1 : 1 ≤ k) (h2 : k ≤ 12) : (FP.fdiv x (FP.i2f (iN (k : Int)))).toNat = 0 ∨ (8388608 ≤ (FP.fdiv x (FP.i2f (iN (k : Int)))).toNat ∧ (FP.fdiv x (FP.i2f (iN (k : Int)))).toNat ≤ 1065353216) := by
  obtain ⟨s1, s2, s3⟩ := s
  obtain ⟨k1, k2⟩ := k_at (k := k) (by omega)
  have e : (2 : Nat) ^ (-FP.Core.b32.qmin).toNat = 2 ^ 149 := by decide +kernel
  have hp := Nat.two_pow_pos 149
  obtain ⟨a1, a2, a3⟩ := fl_div FP.Core.good_b32 (x := x.toNat) (y := (FP.i2f (iN (k : Int))).toNat) s1 k1 (by rw [k2]; exact Nat.mul_pos (by omega) hp)
  rw [k2, e] at a2 a3
  rw [tn_fdiv]
  have up := a2 1065353216 (by rw [u_one, Nat.mul_comm]; exact Nat.mul_le_mul_left _ s2)
  rcases s3 with z | z
  · refine Or.inl ?_
    have := a2 0 (by rw [z, uO_0, Nat.zero_mul]; exact Nat.zero_le _)
    omega
  · refine Or.inr ⟨?_, up⟩
    have lo : 939524096 ≤ FP.Core.div FP.Core.b32 x.toNat (FP.i2f (iN (k : Int))).toNat := by
      refine a3 _ (show 939524096 ≤ 2139095040 by decide) ?_
      have h3 := uO_le.mpr z
      rw [u_lo] at h3
      rw [u_lo2]
      calc 2 ^ 134 * (k * 2 ^ 149) = (2 ^ 134 * k) * 2 ^ 149 := (Nat.mul_assoc _ _ _).symm
        _ ≤ (2 ^ 134 * 16) * 2 ^ 149 := Nat.mul_le_mul_right _ (Nat.mul_le_mul_left _ (by omega))
        _ = 2 ^ 138 * 2 ^ 149 := by decide +kernel
        _ ≤ uO FP.Core.b32 x.toNat * 2 ^ 149 := Nat.mul_le_mul_right _ h3
    omega
