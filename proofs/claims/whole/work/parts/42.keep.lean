/-! ===== STAGE B: pieces ===== -/
def kE1 (len b : Int) : Int := len + (if b = 3 then 1 else 0)
def kP1 (len b : Int) : Int := len + (if b = 0 then 1 else 0)
def kL1 (b : Int) : Int := if b = 1 then 1 else 0
def kpH (h : Hp) (q n : Nat) (len b : Int) : Hp := putI (putI (putI (putI h (q + 3) n (iN (kE1 len b))) (q + 4) n (iN (kP1 len b))) (q + 5) n (iN (kL1 b))) q 7 (iN (n + 1))
theorem g_keep {h : Hp} {q n : Nat} {len b : Int} (l : LC h q) (hn : n < 12) (h7 : qI h q 7 = iN n) (hb : 0 ≤ b ∧ b ≤ 3) : f_X4_keepPiece h q (iN len) (iN b) = some (kpH h q n len b, .inr ()) := by
  obtain ⟨h1, ⟨r5, r6, r8, r9, r10, r11, r12⟩, ⟨o1, o2, o3, o4, o5, o6, o7⟩, ⟨w1, w2, w3, w4, w5, w6, w7⟩⟩ := l
  have hv : vp_in (iN n) 12 := vp_inN (by omega) (by omega) (by omega)
  have e3 : (iN b = iN 3) ↔ b = 3 := iN_eq ⟨by omega, by omega⟩ ⟨by omega, by omega⟩
  have e0 : (iN b = 0) ↔ b = 0 := by rw [iN_zero]; exact iN_eq ⟨by omega, by omega⟩ ⟨by omega, by omega⟩
  have e1 : (iN b = iN 1) ↔ b = 1 := iN_eq ⟨by omega, by omega⟩ ⟨by omega, by omega⟩
  have e12 : ¬ iN 12 ≤ iN n := fun z => by have := (iN_le ⟨by omega, by omega⟩ ⟨by omega, by omega⟩).mp z; omega
  have cl : (iN n).toNatClampNeg = n := iN_clN (by omega)
  have n3 : ¬ q = q + 3 := by omega
  have n4 : ¬ q = q + 4 := by omega
  have n5 : ¬ q = q + 5 := by omega
  have z1 : (iN 1 = 0 ∨ iN 1 = 1) := Or.inr rfl
  have z0 : (iN 0 = 0 ∨ iN 0 = 1) := Or.inl rfl
  unfold f_X4_keepPiece f_X4_keepPiece_L28 f_X4_keepPiece_L48 f_X4_keepPiece_L68 kpH kE1 kP1 kL1
  simp only [lt_is, h1, h7, e12, if_false, r8, o3, chk_true, e3, e0, e1, w3, hv, cl, okr_pIi, qR_pI, r9, o4, qW_pI, w4, r10, o5, w5, qI_pI, n3, n4, n5, false_and, z1, z0, iN_add]
  by_cases b3 : b = 3
  · subst b3; rfl
  · by_cases b0 : b = 0
    · subst b0; rfl
    · by_cases b1 : b = 1
      · subst b1; rfl
      · simp only [b3, b0, b1, if_false]
