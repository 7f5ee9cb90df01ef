/-! ===== STAGE B: floats ===== -/
abbrev Fm : Type := FP.Core.Fmt
abbrev uO (f : Fm) (m : Nat) : Nat := FP.Core.unitsOf f m
abbrev inB (f : Fm) : Nat := FP.Core.infBits f
abbrev haB (f : Fm) : Nat := FP.Core.half f
theorem fl_full {f : Fm} (hf : FP.Core.Good f) {d : FP.Core.Datum} (h : FP.Core.fits f d) : FP.Core.encode f d < 2 * haB f := by
  have := FP.Core.encode_lt hf d h
  have e : 2 * haB f = 2 * f.exps * f.tails := (Nat.mul_assoc 2 f.exps f.tails).symm
  omega
theorem fl_lt {f : Fm} {n A B : Nat} {e : Int} (hn : n < 2 * haB f) (hd : FP.Core.decode f n = FP.Core.roundRatio f false A B e) : n < haB f := by
  have h1 : FP.Core.mag f n ≤ FP.Core.infBits f := Nat.le_of_not_lt fun h1 => FP.Core.roundRatio_ne_nan f false A B e (hd ▸ (FP.Core.decode_nan n).mpr h1)
  have h2 := FP.Core.sgn_decode h1 hn
  rw [hd, FP.Core.sgn_roundRatio] at h2
  have := of_decide_eq_false h2.symm
  exact Nat.lt_of_not_le this
theorem fl_x {f : Fm} {x : Nat} (hx : x < inB f) : ∃ c q, FP.Core.decode f x = .fin false c q ∧ FP.Core.inUnits c q f.qmin = uO f x := by
  have hh := FP.Core.infBits_lt f
  have em : FP.Core.mag f x = x := FP.Core.mag_of_lt (Nat.lt_trans hx hh)
  obtain ⟨c, q, h1, h2⟩ := FP.Core.decode_fin (f := f) (n := x) (by rw [em]; exact hx)
  rw [FP.Core.fieldS_mag f (show x < 2 * FP.Core.half f by have : x < FP.Core.half f := Nat.lt_trans hx hh; omega), decide_eq_false (show ¬ FP.Core.half f ≤ x by have : x < FP.Core.half f := Nat.lt_trans hx hh; omega)] at h1
  rw [em] at h2
  exact ⟨c, q, h1, h2⟩
theorem fl_fit {f : Fm} (hf : FP.Core.Good f) {x c : Nat} {q : Int} (h : FP.Core.decode f x = .fin false c q) : FP.Core.fits f (.fin false c q) := h ▸ FP.Core.decode_fits hf x
/-- a quotient's bits, held between -/
theorem fl_div {f : Fm} (hf : FP.Core.Good f) {x y : Nat} (hx : x < inB f) (hy : y < inB f) (hy0 : 0 < uO f y) : FP.Core.div f x y < haB f ∧ (∀ m, uO f x * 2 ^ (-f.qmin).toNat ≤ uO f m * uO f y → FP.Core.div f x y ≤ m) ∧ ∀ m, m ≤ inB f → uO f m * uO f y ≤ uO f x * 2 ^ (-f.qmin).toNat → m ≤ FP.Core.div f x y := by
  obtain ⟨c, q, x1, x3⟩ := fl_x hx
  obtain ⟨d, r, y1, y3⟩ := fl_x hy
  have hq := FP.Core.qmin_neg hf
  have hd0 : d ≠ 0 := by
    intro z
    rw [z] at y3
    have h1 : FP.Core.inUnits 0 r f.qmin = 0 := Nat.zero_mul _
    omega
  have hd : FP.Core.decode f (FP.Core.div f x y) = FP.Core.roundRatio f false c d (q - r) := by
    unfold FP.Core.div
    rw [FP.Core.decode_enc hf (FP.Core.quotient_fits hf _ _), x1, y1]
    simp only [FP.Core.quotient, if_neg hd0]
    rfl
  have hl : FP.Core.div f x y < haB f := fl_lt (fl_full hf (FP.Core.quotient_fits hf _ _)) hd
  have em : FP.Core.mag f (FP.Core.div f x y) = FP.Core.div f x y := FP.Core.mag_of_lt hl
  have hx1 := (fl_fit hf x1).2.1
  have hy1 := (fl_fit hf y1).2.1
  have e1 : FP.Core.inUnits c (q - r) (2 * f.qmin - r) = uO f x * 2 ^ (-f.qmin).toNat := by
    rw [← x3]
    show c * _ = c * _ * _
    rw [Nat.mul_assoc, ← Nat.pow_add]
    congr 2
    omega
  have e2 : 2 ^ (f.qmin - (2 * f.qmin - r)).toNat * d = uO f y := by
    rw [← y3]
    show _ = d * _
    rw [Nat.mul_comm]
    congr 2
    omega
  refine ⟨hl, fun m h => ?_, fun m hm h => ?_⟩
  · have := FP.Core.mag_le (m := m) hf hd (by omega) (e0 := 2 * f.qmin - r) (by omega) (by omega) (by rw [e1, Nat.mul_assoc, e2]; exact h)
    omega
  · have := FP.Core.mag_ge (m := m) hf hd (by omega) (e0 := 2 * f.qmin - r) (by omega) (by omega) hm (by rw [e1, Nat.mul_assoc, e2]; exact h)
    omega
/-- a sum's bits, held between -/
theorem fl_add {f : Fm} (hf : FP.Core.Good f) {x y : Nat} (hx : x < inB f) (hy : y < inB f) : FP.Core.add f x y < haB f ∧ (∀ m, uO f x + uO f y ≤ uO f m → FP.Core.add f x y ≤ m) ∧ ∀ m, m ≤ inB f → uO f m ≤ uO f x + uO f y → m ≤ FP.Core.add f x y := by
  obtain ⟨c, q, x1, x3⟩ := fl_x hx
  obtain ⟨d, r, y1, y3⟩ := fl_x hy
  obtain ⟨sg, n, e, h1, h2, h3⟩ := FP.Core.sum_units (fl_fit hf x1) (fl_fit hf y1)
  have sz : sg = false := by
    have h4 : FP.Core.exactSum (.fin false c q) (.fin false d r) = .fin (FP.Core.sumSign false false (FP.Core.sumUnits false c q false d r (min q r))) (FP.Core.sumUnits false c q false d r (min q r)).natAbs (min q r) := rfl
    rw [h1] at h4
    have h5 := (FP.Core.Datum.fin.inj h4).1
    rw [h5]
    have h6 : 0 ≤ FP.Core.sumUnits false c q false d r (min q r) := Int.add_nonneg (Int.natCast_nonneg _) (Int.natCast_nonneg _)
    unfold FP.Core.sumSign
    by_cases z : FP.Core.sumUnits false c q false d r (min q r) = 0
    · rw [if_pos z]
      rfl
    · rw [if_neg z]
      exact decide_eq_false (by omega)
  subst sz
  have h7 : FP.Core.inUnits n e f.qmin = uO f x + uO f y := by
    have h8 : ((FP.Core.inUnits n e f.qmin : Nat) : Int) = ((FP.Core.inUnits c q f.qmin : Nat) : Int) + ((FP.Core.inUnits d r f.qmin : Nat) : Int) := h3
    rw [← x3, ← y3]
    omega
  have hd : FP.Core.decode f (FP.Core.add f x y) = FP.Core.roundRatio f false n 1 e := by
    unfold FP.Core.add
    rw [FP.Core.decode_enc hf (FP.Core.round_fits hf _), x1, y1, h1]
    rfl
  have hl : FP.Core.add f x y < haB f := fl_lt (fl_full hf (FP.Core.round_fits hf _)) hd
  have em : FP.Core.mag f (FP.Core.add f x y) = FP.Core.add f x y := FP.Core.mag_of_lt hl
  refine ⟨hl, fun m h => ?_, fun m hm h => ?_⟩
  · have := FP.Core.mag_le (m := m) hf hd (by decide) (e0 := f.qmin) (by omega) h2 (by rw [h7, Int.sub_self, Int.toNat_zero, Nat.pow_zero, Nat.mul_one, Nat.mul_one]; exact h)
    omega
  · have := FP.Core.mag_ge (m := m) hf hd (by decide) (e0 := f.qmin) (by omega) h2 hm (by rw [h7, Int.sub_self, Int.toNat_zero, Nat.pow_zero, Nat.mul_one, Nat.mul_one]; exact h)
    omega
theorem fl_asm (f : Fm) (E M : Nat) : FP.Core.assemble f false E M = E * f.tails + M := by
  show (0 * f.exps + E) * f.tails + M = _
  rw [Nat.zero_mul, Nat.zero_add]
theorem fl_dec {f : Fm} {E M : Nat} (hM : M < f.tails) (h1 : 1 ≤ E) (h2 : E + 1 < f.exps) : FP.Core.decode f (E * f.tails + M) = .fin false (f.tails + M) (f.qmin + ((E : Int) - 1)) := by
  rw [← fl_asm, FP.Core.decode_assemble f false E M (by omega) hM, if_neg (by omega), if_neg (by omega)]
/-- doubling -/
theorem fl_dbl {f : Fm} (hf : FP.Core.Good f) {E M two : Nat} (hM : M < f.tails) (h1 : 1 ≤ E) (h2 : E + 2 < f.exps) (ht : FP.Core.decode f two = .fin false f.tails (2 - (f.p : Int))) : FP.Core.mul f (E * f.tails + M) two = (E + 1) * f.tails + M := by
  have t2 := FP.Core.two_tails hf
  have ee := FP.Core.emax_exps hf
  have ep := hf.2
  have eq : FP.Core.round f (FP.Core.exactProduct (FP.Core.decode f (E * f.tails + M)) (FP.Core.decode f two)) = .fin false (f.tails + M) (f.qmin + (E : Int)) := by
    rw [fl_dec hM h1 (by omega), ht]
    show FP.Core.roundRatio f false ((f.tails + M) * f.tails) 1 (f.qmin + ((E : Int) - 1) + (2 - (f.p : Int))) = _
    refine FP.Core.roundRatio_exact hf (by decide) ⟨by omega, by omega, ?_, Or.inr (by omega)⟩ ?_
    · have := FP.Core.qmax_qmin f
      omega
    · rw [show (f.qmin + ((E : Int) - 1) + (2 - (f.p : Int)) - (f.qmin + (E : Int))).toNat = 0 by omega, show (f.qmin + (E : Int) - (f.qmin + ((E : Int) - 1) + (2 - (f.p : Int)))).toNat = f.p - 1 by omega, Nat.pow_zero, Nat.mul_one, Nat.mul_one]
      rfl
  unfold FP.Core.mul
  rw [eq]
  show (if f.tails + M < f.tails then FP.Core.assemble f false 0 (f.tails + M) else FP.Core.assemble f false ((f.qmin + (E : Int) - f.qmin).toNat + 1) (f.tails + M - f.tails)) = _
  rw [if_neg (by omega), fl_asm, show (f.qmin + (E : Int) - f.qmin).toNat = E by omega, show f.tails + M - f.tails = M by omega]
/-- what is above one, as a whole number -/
theorem fl_frac {f : Fm} (hf : FP.Core.Good f) {M one big : Nat} (hM : M < f.tails) (h1 : FP.Core.decode f one = .fin false f.tails (1 - (f.p : Int))) (hb : FP.Core.decode f big = .fin false f.tails 0) (hw : f.p ≤ f.emax) : (∃ c q, FP.Core.decode f (FP.Core.sub f (f.emax * f.tails + M) one) = .fin false c q) ∧ FP.Core.Whole M (FP.Core.decode f (FP.Core.mul f (FP.Core.sub f (f.emax * f.tails + M) one) big)) := by
  have t2 := FP.Core.two_tails hf
  have ee := FP.Core.emax_exps hf
  have ep := FP.Core.emax_pos hf
  have pp := hf.2
  have eq : f.qmin = 2 - (f.emax : Int) - (f.p : Int) := rfl
  have qq := FP.Core.qmax_qmin f
  have ex : FP.Core.exactSum (FP.Core.decode f (f.emax * f.tails + M)) (FP.Core.negate (FP.Core.decode f one)) = .fin false M (1 - (f.p : Int)) := by
    rw [fl_dec hM ep (by omega), h1]
    have e0 : f.qmin + ((f.emax : Int) - 1) = 1 - (f.p : Int) := by omega
    rw [e0]
    show FP.Core.Datum.fin (FP.Core.sumSign false true (FP.Core.sumUnits false (f.tails + M) (1 - (f.p : Int)) true f.tails (1 - (f.p : Int)) (min (1 - (f.p : Int)) (1 - (f.p : Int))))) (FP.Core.sumUnits false (f.tails + M) (1 - (f.p : Int)) true f.tails (1 - (f.p : Int)) (min (1 - (f.p : Int)) (1 - (f.p : Int)))).natAbs (min (1 - (f.p : Int)) (1 - (f.p : Int))) = _
    rw [Int.min_self]
    have ev : FP.Core.sumUnits false (f.tails + M) (1 - (f.p : Int)) true f.tails (1 - (f.p : Int)) (1 - (f.p : Int)) = (M : Int) := by
      show ((FP.Core.inUnits (f.tails + M) (1 - (f.p : Int)) (1 - (f.p : Int)) : Nat) : Int) + -((FP.Core.inUnits f.tails (1 - (f.p : Int)) (1 - (f.p : Int)) : Nat) : Int) = (M : Int)
      unfold FP.Core.inUnits
      rw [Int.sub_self, Int.toNat_zero, Nat.pow_zero, Nat.mul_one, Nat.mul_one]
      omega
    rw [ev]
    have es : FP.Core.sumSign false true (M : Int) = false := by
      unfold FP.Core.sumSign
      by_cases z : (M : Int) = 0
      · rw [if_pos z]
        rfl
      · rw [if_neg z]
        exact decide_eq_false (by omega)
    rw [es, Int.natAbs_natCast]
  obtain ⟨c, q, r1, r2⟩ := FP.Core.round_exact hf false (c := M) (q := 1 - (f.p : Int)) (by omega) (by omega) (by omega)
  have hs : FP.Core.decode f (FP.Core.sub f (f.emax * f.tails + M) one) = .fin false c q := by
    unfold FP.Core.sub
    rw [FP.Core.decode_enc hf (FP.Core.round_fits hf _), ex, r1]
  refine ⟨⟨c, q, hs⟩, ?_⟩
  have fq := (fl_fit hf hs).2.1
  have hw2 : FP.Core.Whole M (FP.Core.exactProduct (.fin false c q) (.fin false f.tails 0)) := by
    show ((c * f.tails * 2 ^ (q + 0).toNat : Nat) : Int) = (M : Int) * ((2 ^ (-(q + 0)).toNat : Nat) : Int)
    rw [Int.add_zero, ← Int.natCast_mul]
    congr 1
    have h3 : c * 2 ^ (q - f.qmin).toNat = M * 2 ^ (1 - (f.p : Int) - f.qmin).toNat := r2
    have h4 : f.tails = 2 ^ (f.p - 1) := rfl
    have h5 := Nat.two_pow_pos (q - f.qmin).toNat
    have h6 : 2 ^ (f.p - 1) * 2 ^ (1 - (f.p : Int) - f.qmin).toNat = 2 ^ (-f.qmin).toNat := by
      rw [← Nat.pow_add]
      congr 1
      omega
    have h7 : 2 ^ q.toNat * 2 ^ (-f.qmin).toNat = 2 ^ (q - f.qmin).toNat * 2 ^ (-q).toNat := by
      rw [← Nat.pow_add, ← Nat.pow_add]
      congr 1
      omega
    refine Nat.eq_of_mul_eq_mul_right h5 ?_
    calc c * f.tails * 2 ^ q.toNat * 2 ^ (q - f.qmin).toNat = c * 2 ^ (q - f.qmin).toNat * (f.tails * 2 ^ q.toNat) := by ac_rfl
      _ = M * 2 ^ (1 - (f.p : Int) - f.qmin).toNat * (2 ^ (f.p - 1) * 2 ^ q.toNat) := by rw [h3, h4]
      _ = M * (2 ^ q.toNat * (2 ^ (f.p - 1) * 2 ^ (1 - (f.p : Int) - f.qmin).toNat)) := by ac_rfl
      _ = M * (2 ^ (q - f.qmin).toNat * 2 ^ (-q).toNat) := by rw [h6, h7]
      _ = M * 2 ^ (-q).toNat * 2 ^ (q - f.qmin).toNat := by ac_rfl
  unfold FP.Core.mul
  rw [FP.Core.decode_enc hf (FP.Core.round_fits hf _), hs, hb]
  exact FP.Core.whole_round hf hw (by rw [Int.natAbs_natCast]; omega) hw2
