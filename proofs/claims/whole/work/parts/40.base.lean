/-! ===== STAGE B: numbers, checks, the heap's reads and writes ===== -/
def InR (z : Int) : Prop := -2147483648 ≤ z ∧ z < 2147483648
theorem chk_true {α : Type} {x : Option α} : chk True x = x := chk_pos trivial
theorem lt_is {α : Type} {x : Hp} {k : Hp → α} : lt x k = k x := rfl
theorem iN_toInt {z : Int} (h : InR z) : (iN z).toInt = z := by
  unfold iN
  rw [Int32.toInt_ofInt, show Int32.size = 4294967296 from rfl]
  unfold InR at h
  simp only [Int.bmod]
  omega
theorem iN_of (v : Int32) : iN v.toInt = v := by
  unfold iN
  exact Int32.ofInt_toInt v
theorem iN_add (a b : Int) : iN a + iN b = iN (a + b) := (Int32.ofInt_add a b).symm
theorem iN_sub (a b : Int) : iN a - iN b = iN (a - b) := (Int32.ofInt_sub a b).symm
theorem iN_mul (a b : Int) : iN a * iN b = iN (a * b) := (Int32.ofInt_mul a b).symm
theorem iN_eq {a b : Int} (ha : InR a) (hb : InR b) : iN a = iN b ↔ a = b := by
  rw [← Int32.toInt_inj, iN_toInt ha, iN_toInt hb]
theorem iN_lt {a b : Int} (ha : InR a) (hb : InR b) : iN a < iN b ↔ a < b := by
  rw [Int32.lt_iff_toInt_lt, iN_toInt ha, iN_toInt hb]
theorem iN_le {a b : Int} (ha : InR a) (hb : InR b) : iN a ≤ iN b ↔ a ≤ b := by
  rw [Int32.le_iff_toInt_le, iN_toInt ha, iN_toInt hb]
theorem iN_zero : (0 : Int32) = iN 0 := by decide
theorem iN_cl {z : Int} (h0 : 0 ≤ z) (h : z < 2147483648) : (iN z).toNatClampNeg = z.toNat := by
  show (iN z).toInt.toNat = z.toNat
  rw [iN_toInt ⟨by omega, h⟩]
theorem iN_clN {k : Nat} (h : k < 2147483648) : (iN (k : Int)).toNatClampNeg = k := by
  rw [iN_cl (by omega) (by omega)]; rfl
theorem vp_inN {z : Int} {n : Nat} (h0 : 0 ≤ z) (h : z < n) (hn : n < 2147483648) : vp_in (iN z) n := by
  intro q
  rcases q with q | q
  · rw [iN_zero, iN_lt ⟨by omega, by omega⟩ ⟨by omega, by omega⟩] at q; omega
  · rw [iN_cl h0 (by omega)] at q; omega
theorem iN_div {a b : Int} (ha : InR a) (hb : InR b) (h1 : b ≠ 0) (h2 : b ≠ -1) : iN a / iN b = iN (a.tdiv b) := by
  have h3 : (iN a / iN b).toInt = a.tdiv b := by
    rw [Int32.toInt_div_of_ne_right _ _ (by intro q; rw [show (-1 : Int32) = iN (-1) by decide, iN_eq hb ⟨by omega, by omega⟩] at q; exact h2 q), iN_toInt ha, iN_toInt hb]
  rw [← h3, iN_of]
/-! reads behind writes -/
theorem qT_pI {h : Hp} {a k : Nat} {v : Int32} : qT (putI h a k v) = qT h := rfl
theorem qW_pI {h : Hp} {a k : Nat} {v : Int32} : qW (putI h a k v) = qW h := rfl
theorem qR_pI {h : Hp} {a k : Nat} {v : Int32} : qR (putI h a k v) = qR h := rfl
theorem qL_pI {h : Hp} {a k : Nat} {v : Int32} : qL (putI h a k v) = qL h := rfl
theorem qN_pI {h : Hp} {a k : Nat} {v : Int32} : qN (putI h a k v) = qN h := rfl
theorem qI_pI {h : Hp} {a k x j : Nat} {v : Int32} : qI (putI h a k v) x j = if x = a ∧ j = k then v else qI h x j := rfl
theorem okr_pIi {h : Hp} {a k x t : Nat} {v : Int32} : okr (putI h a k v) x t ↔ okr h x t := Iff.rfl
theorem qI_pR {h : Hp} {a k v : Nat} : qI (putR h a k v) = qI h := rfl
theorem qR_pR {h : Hp} {a k x j v : Nat} : qR (putR h a k v) x j = if x = a ∧ j = k then v else qR h x j := rfl
theorem okr_pRi {h : Hp} {a k x t v : Nat} : okr (putR h a k v) x t ↔ okr h x t := Iff.rfl
theorem qW_pR {h : Hp} {a k v : Nat} : qW (putR h a k v) = qW h := rfl
/-! the small methods of the class that keep the heap -/
theorem g_isWithin (h : Hp) (a b c : Int32) : f_X8_isWithin h a b c = some (h, .inr (if b ≤ a ∧ a ≤ c then iN 1 else iN 0)) := by
  unfold f_X8_isWithin
  by_cases h1 : a < b
  · rw [if_pos h1, if_neg (fun q => absurd h1 (Int32.not_lt.mpr q.1))]
  · rw [if_neg h1]
    by_cases h2 : c < a
    · rw [if_pos h2, if_neg (fun q => absurd h2 (Int32.not_lt.mpr q.2))]
    · rw [if_neg h2, if_pos ⟨Int32.not_lt.mp h1, Int32.not_lt.mp h2⟩]
