/-! ===== STAGE B: the reference's object and its arrays ===== -/
/-- field, place behind the object, tag, length -/
abbrev tblM : List (Nat × Nat × Nat × Nat) := [(1, 1, 20, 506), (2, 2, 20, 506), (3, 3, 20, 506), (5, 4, 20, 60), (8, 5, 20, 2), (9, 6, 20, 2), (10, 7, 20, 186), (11, 8, 22, 6), (16, 9, 20, 12), (17, 10, 20, 12), (19, 11, 20, 12), (21, 12, 20, 4), (22, 13, 20, 4), (23, 14, 20, 4), (24, 15, 20, 4), (25, 16, 20, 4), (26, 17, 20, 16), (27, 18, 20, 4), (28, 19, 20, 1600), (29, 20, 20, 6), (30, 21, 20, 4), (31, 22, 20, 4), (33, 23, 20, 4)]
def LM (h : Hp) (M : Nat) : Prop := okr h M 9 ∧ ∀ f ∈ tblM, qR h M f.1 = M + f.2.1 ∧ okr h (M + f.2.1) f.2.2.1 ∧ qW h (M + f.2.1) = f.2.2.2
theorem LM.ly {h h' : Hp} {M : Nat} (a : Ly h h') (l : LM h M) : LM h' M := by
  refine ⟨a.ok.mpr l.1, fun f hf => ?_⟩
  obtain ⟨h1, h2, h3⟩ := l.2 f hf
  exact ⟨by rw [a.2.2.2.1]; exact h1, a.ok.mpr h2, by rw [a.2.2.1]; exact h3⟩
theorem g_of {h : Hp} {M : Nat} (l : LM h M) {i w : Int} (hi : 0 ≤ i ∧ i < 16) (hw : 0 ≤ w ∧ w < 31) : f_X9_of h M (iN i) (iN w) = some (h, .inr (qI h (M + 1) (10 + 31 * i + w).toNat)) := by
  obtain ⟨h1, h2, h3⟩ := l.2 (1, 1, 20, 506) (by decide)
  simp only at h1 h2 h3
  unfold f_X9_of
  rw [chk_pos l.1, h1, chk_pos h2, h3, iN_mul, iN_add, iN_add, chk_pos (vp_inN (by omega) (by omega) (by omega)), iN_cl (by omega) (by omega)]
/-- the reference's cell i holds these words -/
def RW (h : Hp) (M : Nat) (i : Int) (kd : Int) (ws : List (Int × Int)) : Prop := qI h (M + 1) (10 + 31 * i + 3).toNat = iN kd ∧ qI h (M + 1) (10 + 31 * i + 4).toNat = iN ws.length ∧
  ∀ (k : Nat) (p : Int × Int), ws[k]? = some p → qI h (M + 1) (10 + 31 * i + (7 + k)).toNat = iN p.1 ∧ qI h (M + 1) (10 + 31 * i + (19 + k)).toNat = iN p.2
theorem g_indentOf {h : Hp} {M : Nat} (l : LM h M) {i kd : Int} (hi : 0 ≤ i ∧ i < 16) (hk : qI h (M + 1) (10 + 31 * i + 3).toNat = iN kd) (hkr : 0 ≤ kd ∧ kd ≤ 5) : f_X9_indentOf h M (iN i) = some (h, .inr (iN (indOf kd))) := by
  unfold f_X9_indentOf indOf
  rw [chk_pos l.1, g_of l hi (by omega), bnd_ret, hk]
  by_cases h2 : kd = 2
  · rw [if_pos (by rw [h2]), if_pos h2]
  · rw [if_neg (fun z => h2 ((iN_eq ⟨by omega, by omega⟩ ⟨by omega, by omega⟩).mp z)), if_neg h2]
