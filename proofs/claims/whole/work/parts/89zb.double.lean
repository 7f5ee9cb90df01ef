/-! ===== STAGE B: a double's bits ===== -/
theorem tn_dsub (a b : UInt64) : (FP.dsub a b).toNat = FP.Core.sub FP.Core.b64 a.toNat b.toNat := FP.Core.toNat_of64 (FP.Core.round_fits FP.Core.good_b64 _)
theorem tn_dmul (a b : UInt64) : (FP.dmul a b).toNat = FP.Core.mul FP.Core.b64 a.toNat b.toNat := FP.Core.toNat_of64 (FP.Core.round_fits FP.Core.good_b64 _)
theorem tn_ddiv (a b : UInt64) : (FP.ddiv a b).toNat = FP.Core.div FP.Core.b64 a.toNat b.toNat := FP.Core.toNat_of64 (FP.Core.quotient_fits FP.Core.good_b64 _ _)
theorem n64_of {x : UInt64} (h : FP.Core.val64 x ≠ .nan) : vf_n64 x := by
  have h2 := (FP.Core.ne_nan x).mp h
  unfold vf_n64
  rw [UInt64.le_iff_toNat_le, FP.Core.mask_toNat]
  exact h2
theorem nn64 {x : UInt64} (h : x.toNat ≤ 9218868437227405312) : FP.Core.val64 x ≠ .nan := (FP.Core.ne_nan x).mpr (by omega)
theorem n64_lt {x : UInt64} (h : x.toNat ≤ 9218868437227405312) : vf_n64 x := n64_of (nn64 h)
theorem fc64 {x y : UInt64} (hx : x.toNat ≤ 9218868437227405312) (hy : y.toNat ≤ 9218868437227405312) : FP.dcmp x y = some (compare (x.toNat : Int) (y.toNat : Int)) := by
  have h := FP.Core.dcmp_key (nn64 hx) (nn64 hy)
  unfold FP.Core.dkey at h
  rw [if_neg (by omega), if_neg (by omega)] at h
  exact h
theorem u2j (x : UInt64) : UInt64.toInt64 x = jN (x.toNat : Int) := by
  show Int64.ofUInt64 x = Int64.ofInt _
  apply Int64.toBitVec_inj.mp
  show x.toBitVec = BitVec.ofInt 64 (x.toNat : Int)
  rw [BitVec.ofInt_natCast]
  exact BitVec.eq_of_toNat_eq (by rw [BitVec.toNat_ofNat]; exact (Nat.mod_eq_of_lt x.toNat_lt).symm)
theorem sh52 : ((List.range 1024).all fun E => decide (jN (E : Int) <<< (Int32.toInt64 (iN 52) &&& 63) = jN ((E * 4503599627370496 : Nat) : Int))) = true := by decide +kernel
theorem sh52_at {E : Nat} (h : E < 1024) : jN (E : Int) <<< (Int32.toInt64 (iN 52) &&& 63) = jN ((E * 4503599627370496 : Nat) : Int) := of_decide_eq_true (List.all_eq_true.mp sh52 E (List.mem_range.mpr h))
theorem d64_one : FP.Core.decode FP.Core.b64 4607182418800017408 = .fin false FP.Core.b64.tails (1 - (FP.Core.b64.p : Int)) := by decide +kernel
theorem d64_two : FP.Core.decode FP.Core.b64 4611686018427387904 = .fin false FP.Core.b64.tails (2 - (FP.Core.b64.p : Int)) := by decide +kernel
theorem d64_big : FP.Core.decode FP.Core.b64 4841369599423283200 = .fin false FP.Core.b64.tails 0 := by decide +kernel
theorem of64_51 {h : Hp} {E0 M : Nat} {x : UInt64} (hM : M < 4503599627370496) (hE : E0 < 1024) (hx : x.toNat = 1023 * 4503599627370496 + M) : f_X0_ofDouble_L51 h (jN (E0 : Int)) x = some (h, .inr (jN ((E0 * 4503599627370496 + M : Nat) : Int))) := by
  have fr := fl_frac FP.Core.good_b64 (M := M) hM d64_one d64_big (by decide)
  have ex : FP.Core.b64.emax * FP.Core.b64.tails + M = x.toNat := hx.symm
  rw [ex] at fr
  obtain ⟨⟨c, q, s1⟩, s2⟩ := fr
  have v1 : FP.Core.val64 (FP.dsub x (0x3ff0000000000000 : UInt64)) = .fin false c q := by
    show FP.Core.decode FP.Core.b64 (FP.dsub x (0x3ff0000000000000 : UInt64)).toNat = _
    rw [tn_dsub]
    exact s1
  have v2 : FP.Core.DInt (M : Int) (FP.dmul (FP.dsub x (0x3ff0000000000000 : UInt64)) (4841369599423283200 : UInt64)) := by
    show FP.Core.Whole (M : Int) (FP.Core.decode FP.Core.b64 (FP.dmul (FP.dsub x (0x3ff0000000000000 : UInt64)) (4841369599423283200 : UInt64)).toNat)
    rw [tn_dmul, tn_dsub]
    exact s2
  have v3 : FP.d2l (FP.dmul (FP.dsub x (0x3ff0000000000000 : UInt64)) (4841369599423283200 : UInt64)) = jN (M : Int) := FP.Core.d2l_int (by rw [jN_toInt ⟨by omega, by omega⟩]; exact v2)
  unfold f_X0_ofDouble_L51
  rw [chk_pos (n64_of (by rw [v1]; exact FP.Core.Datum.noConfusion)), chk_pos (n64_of (FP.Core.Whole.ne_nan v2)), v3, sh52_at hE, jN_add]
  rfl
theorem of64_L {E0 M : Nat} (hM : M < 4503599627370496) (h0 : 1 ≤ E0) : ∀ (d E n : Nat) (h : Hp) (x : UInt64), E + d = 1023 → E0 ≤ E → d < n → x.toNat = E * 4503599627370496 + M → f_X0_ofDouble_L18 n h (jN ((E0 + d : Nat) : Int)) x (iN ((E - E0 : Nat) : Int)) = some (h, .inr (jN ((E0 * 4503599627370496 + M : Nat) : Int))) := by
  intro d
  induction d with
  | zero =>
    intro E n h x he h1 hn hx
    obtain ⟨n, rfl⟩ : ∃ z, n = z + 1 := ⟨n - 1, by omega⟩
    have e : E = 1023 := by omega
    subst e
    have r := of64_51 (h := h) (E0 := E0) hM (by omega) hx
    show f_X0_ofDouble_B18 (f_X0_ofDouble_L18 n) h (jN (E0 : Int)) x (iN ((1023 - E0 : Nat) : Int)) = _
    unfold f_X0_ofDouble_B18
    have cv : Op.cmpValue (FP.dcmp x (0x3ff0000000000000 : UInt64)) .g = 1 ∨ Op.cmpValue (FP.dcmp x (0x3ff0000000000000 : UInt64)) .g = 0 := by
      have h1 : ((0x3ff0000000000000 : UInt64).toNat : Int) = 4607182418800017408 := by decide
      rw [fc64 (by omega) (by decide), h1]
      by_cases z : M = 0
      · exact Or.inr (cv_eq (by omega))
      · exact Or.inl (cv_gt (by omega))
    have ge : 0 ≤ Op.cmpValue (FP.dcmp x (0x3ff0000000000000 : UInt64)) .g := by
      rcases cv with z | z <;> rw [z] <;> decide
    rw [r, if_pos ge]
    split <;> rfl
  | succ d ih =>
    intro E n h x he h1 hn hx
    obtain ⟨n, rfl⟩ : ∃ z, n = z + 1 := ⟨n - 1, by omega⟩
    have ev : (0x3ff0000000000000 : UInt64).toNat = 4607182418800017408 := by decide
    have lt : ¬ 0 ≤ Op.cmpValue (FP.dcmp x (0x3ff0000000000000 : UInt64)) .g := by
      rw [fc64 (by omega) (by decide), cv_lt (by rw [ev]; omega)]
      decide
    have hx2 : (FP.dmul x (4611686018427387904 : UInt64)).toNat = (E + 1) * 4503599627370496 + M := by
      rw [tn_dmul, hx]
      exact fl_dbl FP.Core.good_b64 (E := E) (M := M) (two := 4611686018427387904) hM (by omega) (show E + 2 < 2048 by omega) d64_two
    show f_X0_ofDouble_B18 (f_X0_ofDouble_L18 n) h (jN ((E0 + (d + 1) : Nat) : Int)) x (iN ((E - E0 : Nat) : Int)) = _
    unfold f_X0_ofDouble_B18
    rw [if_neg (nleN (by omega) (by omega) (by omega)), if_neg lt, chk_pos (n64_lt (by omega)), iN_add, show Int64.ofNat 1 = jN 1 from rfl, jN_sub, show ((E0 + (d + 1) : Nat) : Int) - 1 = ((E0 + d : Nat) : Int) by omega, show ((E - E0 : Nat) : Int) + 1 = ((E + 1 - E0 : Nat) : Int) by omega]
    exact ih (E + 1) n h _ (by omega) (by omega) (by omega) hx2
theorem of64_z {h : Hp} : f_X0_ofDouble h 0 = some (h, .inr (jN 0)) := by
  unfold f_X0_ofDouble
  rw [fc64 (by decide) (by decide), cv_eq rfl, if_neg (by decide)]
  rfl
theorem of64 {h : Hp} {x : UInt64} (h1 : 4503599627370496 ≤ x.toNat) (h2 : x.toNat < 4611686018427387904) : f_X0_ofDouble h x = some (h, .inr (jN (x.toNat : Int))) := by
  have hm := Nat.div_add_mod x.toNat 4503599627370496
  have hr := Nat.mod_lt x.toNat (show 0 < 4503599627370496 by decide)
  generalize x.toNat / 4503599627370496 = E at hm
  generalize x.toNat % 4503599627370496 = M at hm hr
  have ez : ((0x0000000000000000 : UInt64).toNat : Int) = 0 := by decide
  unfold f_X0_ofDouble
  rw [fc64 (by omega) (by decide), ez, cv_gt (by omega), if_pos (by decide)]
  have r := of64_L (E0 := E) (M := M) hr (by omega) (1023 - E) E 2000 h x (by omega) (by omega) (by omega) (by omega)
  rw [show E + (1023 - E) = 1023 by omega, Nat.sub_self, show E * 4503599627370496 + M = x.toNat by omega] at r
  exact r
theorem ofA64 {h : Hp} {x : UInt64} (b : x.toNat = 0 ∨ (4503599627370496 ≤ x.toNat ∧ x.toNat ≤ 4607182418800017408)) : f_X0_ofDouble h x = some (h, .inr (jN (x.toNat : Int))) := by
  rcases b with z | z
  · rw [show x = 0 from UInt64.toNat_inj.mp z, of64_z]
    rfl
  · exact of64 z.1 (by omega)
theorem fb64 {h : Hp} {x : UInt64} (hx : x.toNat ≤ 9218868437227405312) : f_Jxe99ae_doubleToLongBits_ccdee h x = some (h, .inr (jN (x.toNat : Int))) := by
  unfold f_Jxe99ae_doubleToLongBits_ccdee f_Jxe99ae_isNaN_b9ae7
  rw [fc64 hx hx, cv_eq rfl, if_pos rfl, bnd_ret, if_pos (show iN 0 = 0 from rfl), u2j]
/-- a whole number as a double -/
theorem i2d_at {k : Nat} (hk : k < 2000000000) : (FP.i2d (iN (k : Int))).toNat < 9218868437227405312 ∧ uO FP.Core.b64 (FP.i2d (iN (k : Int))).toNat = k * 2 ^ 1074 := by
  have et : (iN (k : Int)).toInt = k := iN_tI ⟨(by omega), (by omega)⟩
  have hd : FP.Core.decode FP.Core.b64 (FP.i2d (iN (k : Int))).toNat = FP.Core.roundRatio FP.Core.b64 false k 1 0 := by
    have h := FP.Core.val64_i2d (iN (k : Int))
    rw [et] at h
    have e2 : FP.Core.ofInt (k : Int) = .fin false k 0 := by
      unfold FP.Core.ofInt
      rw [decide_eq_false (by omega), Int.natAbs_natCast]
    rw [e2] at h
    exact h
  have hf := FP.Core.lt_full64 (FP.i2d (iN (k : Int)))
  have hl : (FP.i2d (iN (k : Int))).toNat < 2 ^ 63 := by
    have h := fl_lt (f := FP.Core.b64) (n := (FP.i2d (iN (k : Int))).toNat) hf hd
    rw [show haB FP.Core.b64 = 2 ^ 63 from FP.Core.half_b64] at h
    exact h
  have hm := FP.Core.i2d_mag (iN (k : Int))
  have hn : (FP.i2d (iN (k : Int))).toNat < 9218868437227405312 := by
    rw [Nat.mod_eq_of_lt hl] at hm
    omega
  refine ⟨hn, ?_⟩
  have hz := FP.Core.DInt_zval (FP.Core.i2d_int (iN (k : Int)))
  rw [et] at hz
  have hs : FP.Core.sgn (FP.Core.val64 (FP.i2d (iN (k : Int)))) = false := by
    show FP.Core.sgn (FP.Core.decode FP.Core.b64 (FP.i2d (iN (k : Int))).toNat) = false
    rw [hd, FP.Core.sgn_roundRatio]
  unfold FP.Core.zval at hz
  rw [hs] at hz
  have hg : FP.Core.zmag FP.Core.b64 (FP.Core.val64 (FP.i2d (iN (k : Int)))) = uO FP.Core.b64 (FP.i2d (iN (k : Int))).toNat := by
    have h := FP.Core.zmag_bits (a := FP.i2d (iN (k : Int))) (nn64 (by omega))
    rw [Nat.mod_eq_of_lt hl] at h
    exact h
  rw [hg] at hz
  have h9 : ((uO FP.Core.b64 (FP.i2d (iN (k : Int))).toNat : Nat) : Int) = (k : Int) * ((2 ^ 1074 : Nat) : Int) := hz
  rw [← Int.natCast_mul] at h9
  exact Int.ofNat.inj h9
theorem u64_one : uO FP.Core.b64 4607182418800017408 = 2 ^ 1074 := by decide +kernel
theorem u64_lo : uO FP.Core.b64 4544132024016830464 = 2 ^ 1060 := by decide +kernel
/-- a share of whole numbers -/
theorem dd_bd {a b : Nat} (hab : a ≤ b) (hb : 1 ≤ b) (hb2 : b ≤ 16000) : (FP.ddiv (FP.i2d (iN (a : Int))) (FP.i2d (iN (b : Int)))).toNat = 0 ∨ (4503599627370496 ≤ (FP.ddiv (FP.i2d (iN (a : Int))) (FP.i2d (iN (b : Int)))).toNat ∧ (FP.ddiv (FP.i2d (iN (a : Int))) (FP.i2d (iN (b : Int)))).toNat ≤ 4607182418800017408) := by
  obtain ⟨a1, a2⟩ := i2d_at (k := a) (by omega)
  obtain ⟨b1, b2⟩ := i2d_at (k := b) (by omega)
  have hp := Nat.two_pow_pos 1074
  have e : (2 : Nat) ^ (-FP.Core.b64.qmin).toNat = 2 ^ 1074 := by decide +kernel
  obtain ⟨c1, c2, c3⟩ := fl_div FP.Core.good_b64 (x := (FP.i2d (iN (a : Int))).toNat) (y := (FP.i2d (iN (b : Int))).toNat) a1 b1 (by rw [b2]; exact Nat.mul_pos (by omega) hp)
  rw [a2, b2, e] at c2 c3
  rw [tn_ddiv]
  have up := c2 4607182418800017408 (by rw [u64_one, Nat.mul_comm]; exact Nat.mul_le_mul_left _ (Nat.mul_le_mul_right _ hab))
  by_cases z : a = 0
  · refine Or.inl ?_
    have := c2 0 (by rw [z, Nat.zero_mul, Nat.zero_mul]; exact Nat.zero_le _)
    omega
  · refine Or.inr ⟨?_, up⟩
    have lo : 4544132024016830464 ≤ FP.Core.div FP.Core.b64 (FP.i2d (iN (a : Int))).toNat (FP.i2d (iN (b : Int))).toNat := by
      refine c3 _ (show 4544132024016830464 ≤ 9218868437227405312 by decide) ?_
      rw [u64_lo]
      calc 2 ^ 1060 * (b * 2 ^ 1074) = (2 ^ 1060 * b) * 2 ^ 1074 := (Nat.mul_assoc _ _ _).symm
        _ ≤ (2 ^ 1060 * 2 ^ 14) * 2 ^ 1074 := Nat.mul_le_mul_right _ (Nat.mul_le_mul_left _ (by omega))
        _ = 1 * 2 ^ 1074 * 2 ^ 1074 := by rw [← Nat.pow_add, Nat.one_mul]
        _ ≤ a * 2 ^ 1074 * 2 ^ 1074 := Nat.mul_le_mul_right _ (Nat.mul_le_mul_right _ (by omega))
    omega
