/-! ===== STAGE B: a content copied ===== -/
def CF (h : Hp) (q : Nat) (b : Int → Int) : Prop := qI h q 0 = iN (b 3) ∧ qI h q 1 = iN (b 5) ∧ qI h q 2 = iN (b 6) ∧ qI h q 3 = iN (b 4) ∧ qI h q 4 = iN (indOf (b 3)) ∧ qI h q 7 = iN (psB b).length
theorem CF.pI {h : Hp} {q x k : Nat} {v : Int32} {b : Int → Int} (c : CF h q b) (hx : x ≠ q) : CF (putI h x k v) q b := by
  have n : ∀ j, qI (putI h x k v) q j = qI h q j := fun j => by rw [qI_pI, if_neg (fun z => hx z.1.symm)]
  unfold CF
  rw [n, n, n, n, n, n]
  exact c
theorem g_cpL90 {q qo : Nat} (hq : q + 7 < qo ∨ qo + 7 < q) {b : Int → Int} (w : WB b) : ∀ (d k : Nat) (h : Hp) (n : Nat), k + d = (psB b).length → d < n → LC h q → LC h qo → HC h qo b → CF h q b → HW h q (wsB b) → (∀ (j : Nat) (p : Int × Int), j < k → (psB b)[j]? = some p → qI h (q + 3) j = iN (kE1 p.1 p.2) ∧ qI h (q + 4) j = iN (kP1 p.1 p.2) ∧ qI h (q + 5) j = iN (kL1 p.2)) →
    ∃ h2, f_X4_copyFrom_L90 n h q qo (iN k) = some (h2, .inr ()) ∧ FZ (pK q) h h2 ∧ HC h2 q b := by
  have h12 := (psB_ok w).2.1
  intro d
  induction d with
  | zero =>
    intro k h n hk hn l lo co cf hw hp
    obtain ⟨n, rfl⟩ : ∃ z, n = z + 1 := ⟨n - 1, by omega⟩
    obtain ⟨h1, ⟨r5, r6, r8, r9, r10, r11, r12⟩, ⟨o1, o2, o3, o4, o5, o6, o7⟩, ⟨w1, w2, w3, w4, w5, w6, w7⟩⟩ := id l
    obtain ⟨h1', ⟨r5', r6', r8', r9', r10', r11', r12'⟩, ⟨o1', o2', o3', o4', o5', o6', o7'⟩, ⟨w1', w2', w3', w4', w5', w6', w7'⟩⟩ := id lo
    have ne : ∀ x j, x ≠ q + 7 → qI (cpyI h (qo + 7) (q + 7) 0 0 37) x j = qI h x j := fun x j hx => if_neg (fun z => hx z.1)
    refine ⟨cpyI h (qo + 7) (q + 7) 0 0 37, ?_, ⟨⟨rfl, rfl, rfl, rfl, rfl, rfl, rfl⟩, fun x j z => ?_⟩, ?_⟩
    · show f_X4_copyFrom_B90 (f_X4_copyFrom_L90 n) h q qo (iN k) = _
      unfold f_X4_copyFrom_B90
      rw [chk_pos h1, cf.2.2.2.2.2, if_pos ((iN_leO (by omega) (by omega) (by omega) (by omega)).mpr (by omega)), chk_pos h1', r12', chk_pos o7', r12, chk_pos o7, w7, w7', chk_pos (by decide), chk_pos (by decide), lt_is]
      rfl
    · unfold pK at z
      exact ne x j (by omega)
    · refine ⟨⟨?_, ?_, ?_⟩, ⟨?_, fun k p hk => ?_⟩, ?_, ⟨?_, fun k2 p hk2 => ?_⟩, fun k hk => ?_⟩
      · rw [ne q 0 (by omega)]; exact cf.1
      · rw [ne q 1 (by omega)]; exact cf.2.1
      · rw [ne q 2 (by omega)]; exact cf.2.2.1
      · rw [ne q 3 (by omega)]; exact hw.1
      · rw [ne (q + 1) k (by omega), ne (q + 2) k (by omega)]; exact hw.2 k p hk
      · rw [ne q 4 (by omega)]; exact cf.2.2.2.2.1
      · rw [ne q 7 (by omega)]; exact cf.2.2.2.2.2
      · rw [ne (q + 3) k2 (by omega), ne (q + 4) k2 (by omega), ne (q + 5) k2 (by omega)]
        exact hp k2 p (by have := (List.getElem?_eq_some_iff.mp hk2).1; omega) hk2
      · have e : qI (cpyI h (qo + 7) (q + 7) 0 0 37) (q + 7) k = qI h (qo + 7) k := by
          show (if q + 7 = q + 7 ∧ 0 ≤ k ∧ k < 0 + 37 then qI h (qo + 7) (0 + (k - 0)) else qI h (q + 7) k) = _
          rw [if_pos ⟨rfl, by omega, by omega⟩, Nat.sub_zero, Nat.zero_add]
        rw [e]
        exact co.2.2.2.2 k hk
  | succ d ih =>
    intro k h n hk hn l lo co cf hw hp
    obtain ⟨n, rfl⟩ : ∃ z, n = z + 1 := ⟨n - 1, by omega⟩
    obtain ⟨h1, ⟨r5, r6, r8, r9, r10, r11, r12⟩, ⟨o1, o2, o3, o4, o5, o6, o7⟩, ⟨w1, w2, w3, w4, w5, w6, w7⟩⟩ := id l
    obtain ⟨h1', ⟨r5', r6', r8', r9', r10', r11', r12'⟩, ⟨o1', o2', o3', o4', o5', o6', o7'⟩, ⟨w1', w2', w3', w4', w5', w6', w7'⟩⟩ := id lo
    have hkl : k < (psB b).length := by omega
    obtain ⟨e1, e2, e3⟩ := co.2.2.2.1.2 k _ (pcAt_get hkl)
    have hv : vp_in (iN k) 12 := vp_inN (by omega) (by omega) (by omega)
    have cl : (iN (k : Int)).toNatClampNeg = k := iN_clN (by omega)
    generalize hh3 : putI (putI (putI h (q + 3) k (iN (kE1 (pcAt (psB b) k).1 (pcAt (psB b) k).2))) (q + 4) k (iN (kP1 (pcAt (psB b) k).1 (pcAt (psB b) k).2))) (q + 5) k (iN (kL1 (pcAt (psB b) k).2)) = h3
    have f3 : FZ (pK q) h h3 := by rw [← hh3]; exact ((FZ.pk (by omega) (by omega)).tr (FZ.pk (by omega) (by omega))).tr (FZ.pk (by omega) (by omega))
    have cf3 : CF h3 q b := by rw [← hh3]; exact ((cf.pI (by omega)).pI (by omega)).pI (by omega)
    have hw3 : HW h3 q (wsB b) := by
      rw [← hh3]
      refine ⟨?_, fun k p hk => ?_⟩
      · rw [qI_pI, if_neg (by omega), qI_pI, if_neg (by omega), qI_pI, if_neg (by omega)]; exact hw.1
      · rw [qI_pI, if_neg (by omega), qI_pI, if_neg (by omega), qI_pI, if_neg (by omega), qI_pI, if_neg (by omega), qI_pI, if_neg (by omega), qI_pI, if_neg (by omega)]; exact hw.2 k p hk
    have co3 : HC h3 qo b := co.fz f3 (fun x j z1 z2 _ z3 => by unfold pK at z3; omega)
    have hp3 : ∀ (j : Nat) (p : Int × Int), j < k + 1 → (psB b)[j]? = some p → qI h3 (q + 3) j = iN (kE1 p.1 p.2) ∧ qI h3 (q + 4) j = iN (kP1 p.1 p.2) ∧ qI h3 (q + 5) j = iN (kL1 p.2) := by
      intro j p hj hjp
      rw [← hh3]
      by_cases hjk : j = k
      · subst hjk
        rw [pcAt_get hkl] at hjp
        cases hjp
        simp (disch := omega) only [rd_eq, rd_ne]
        refine ⟨?_, ?_, ?_⟩ <;> first | trivial | rfl
      · simp (disch := omega) only [rd_nk, rd_ne]
        exact hp j p (by omega) hjp
    obtain ⟨h2, g1, g2, g3⟩ := ih (k + 1) h3 n (by omega) (by omega) (l.ly f3.1) (lo.ly f3.1) co3 cf3 hw3 hp3
    refine ⟨h2, ?_, f3.tr g2, g3⟩
    show f_X4_copyFrom_B90 (f_X4_copyFrom_L90 n) h q qo (iN k) = _
    unfold f_X4_copyFrom_B90
    have m1 : ¬ qo + 4 = q + 3 := by omega
    have m2 : ¬ qo + 5 = q + 4 := by omega
    have m3 : ¬ qo + 5 = q + 3 := by omega
    have kb : iN (kL1 (pcAt (psB b) k).2) = 0 ∨ iN (kL1 (pcAt (psB b) k).2) = 1 := by
      unfold kL1
      split
      · exact Or.inr rfl
      · exact Or.inl rfl
    rw [chk_pos h1, cf.2.2.2.2.2, if_neg (fun z => by have := (iN_leO (by omega) (by omega) (by omega) (by omega)).mp z; omega)]
    simp only [okr_pIi, qR_pI, qW_pI, qI_pI, r8, r9, r10, r8', r9', r10', chk_pos h1', chk_pos o3, chk_pos o4, chk_pos o5, chk_pos o3', chk_pos o4', chk_pos o5', w3, w4, w5, w3', w4', w5', chk_pos hv, cl, lt_is, m1, m2, m3, false_and, if_false, e1, e2, e3, chk_pos kb, iN_add]
    rw [hh3]
    exact g1
theorem g_cpL50 {q qo : Nat} (hq : q + 7 < qo ∨ qo + 7 < q) {b : Int → Int} (w : WB b) : ∀ (d k : Nat) (h : Hp) (n : Nat), k + d = (b 4).toNat → d < n → LC h q → LC h qo → HC h qo b → CF h q b → (∀ j : Nat, j < k → qI h (q + 1) j = iN (b (7 + (j : Int))) ∧ qI h (q + 2) j = iN (b (19 + (j : Int)))) →
    ∃ h2, f_X4_copyFrom_L50 n h q qo (iN k) = some (h2, .inr ()) ∧ FZ (pK q) h h2 ∧ HC h2 q b := by
  have w4 := w.2.1
  intro d
  induction d with
  | zero =>
    intro k h n hk hn l lo co cf hw
    obtain ⟨n, rfl⟩ : ∃ z, n = z + 1 := ⟨n - 1, by omega⟩
    obtain ⟨h2, g1, g2, g3⟩ := g_cpL90 hq w (psB b).length 0 h 2000 (by omega) (by have := (psB_ok w).2.1; omega) l lo co cf (HW_of w4.1 cf.2.2.2.1 (fun j hj => hw j (by omega))) (fun j p hj => by omega)
    refine ⟨h2, ?_, g2, g3⟩
    show f_X4_copyFrom_B50 (f_X4_copyFrom_L50 n) h q qo (iN k) = _
    unfold f_X4_copyFrom_B50
    rw [chk_pos l.1, cf.2.2.2.1, if_pos ((iN_leO (by omega) (by omega) (by omega) (by omega)).mpr (by omega))]
    exact g1
  | succ d ih =>
    intro k h n hk hn l lo co cf hw
    obtain ⟨n, rfl⟩ : ∃ z, n = z + 1 := ⟨n - 1, by omega⟩
    obtain ⟨h1, ⟨r5, r6, r8, r9, r10, r11, r12⟩, ⟨o1, o2, o3, o4, o5, o6, o7⟩, ⟨w1, w2, w3, w4', w5, w6, w7⟩⟩ := id l
    obtain ⟨h1', ⟨r5', r6', r8', r9', r10', r11', r12'⟩, ⟨o1', o2', o3', o4', o5', o6', o7'⟩, ⟨w1', w2', w3', w4'', w5', w6', w7'⟩⟩ := id lo
    obtain ⟨e1, e2⟩ := HW_at co.2.1 (k := k) (by omega)
    have hv : vp_in (iN k) 12 := vp_inN (by omega) (by omega) (by omega)
    have cl : (iN (k : Int)).toNatClampNeg = k := iN_clN (by omega)
    generalize hh3 : putI (putI h (q + 1) k (iN (b (7 + (k : Int))))) (q + 2) k (iN (b (19 + (k : Int)))) = h3
    have f3 : FZ (pK q) h h3 := by rw [← hh3]; exact (FZ.pk (by omega) (by omega)).tr (FZ.pk (by omega) (by omega))
    have cf3 : CF h3 q b := by rw [← hh3]; exact (cf.pI (by omega)).pI (by omega)
    have co3 : HC h3 qo b := co.fz f3 (fun x j z1 z2 _ z3 => by unfold pK at z3; omega)
    have hw3 : ∀ j : Nat, j < k + 1 → qI h3 (q + 1) j = iN (b (7 + (j : Int))) ∧ qI h3 (q + 2) j = iN (b (19 + (j : Int))) := by
      intro j hj
      rw [← hh3]
      by_cases hjk : j = k
      · subst hjk
        simp (disch := omega) only [rd_eq, rd_ne]
        refine ⟨?_, ?_⟩ <;> first | trivial | rfl
      · simp (disch := omega) only [rd_nk, rd_ne]
        exact hw j (by omega)
    obtain ⟨h2, g1, g2, g3⟩ := ih (k + 1) h3 n (by omega) (by omega) (l.ly f3.1) (lo.ly f3.1) co3 cf3 hw3
    refine ⟨h2, ?_, f3.tr g2, g3⟩
    show f_X4_copyFrom_B50 (f_X4_copyFrom_L50 n) h q qo (iN k) = _
    unfold f_X4_copyFrom_B50
    have m1 : ¬ qo + 2 = q + 1 := by omega
    rw [chk_pos h1, cf.2.2.2.1, if_neg (fun z => by have := (iN_leO (by omega) (by omega) (by omega) (by omega)).mp z; omega)]
    simp only [okr_pIi, qR_pI, qW_pI, qI_pI, r5, r6, r5', r6', chk_pos h1', chk_pos o1, chk_pos o2, chk_pos o1', chk_pos o2', w1, w2, w1', w2', chk_pos hv, cl, lt_is, m1, false_and, if_false, e1, e2, iN_add]
    rw [hh3]
    exact g1
theorem g_copyC {h : Hp} {q qo : Nat} (hq : q + 7 < qo ∨ qo + 7 < q) {b : Int → Int} (w : WB b) (l : LC h q) (lo : LC h qo) (co : HC h qo b) : ∃ h2, f_X4_copyFrom h q qo = some (h2, .inr ()) ∧ FZ (pK q) h h2 ∧ HC h2 q b := by
  have n : ¬ qo = q := by omega
  generalize hh3 : putI (putI (putI (putI (putI (putI h q 0 (iN (b 3))) q 1 (iN (b 5))) q 2 (iN (b 6))) q 3 (iN (b 4))) q 4 (iN (indOf (b 3)))) q 7 (iN (psB b).length) = h3
  have f3 : FZ (pK q) h h3 := by
    rw [← hh3]
    exact (((((FZ.pk (Nat.le_refl _) (by omega)).tr (FZ.pk (Nat.le_refl _) (by omega))).tr (FZ.pk (Nat.le_refl _) (by omega))).tr (FZ.pk (Nat.le_refl _) (by omega))).tr (FZ.pk (Nat.le_refl _) (by omega))).tr (FZ.pk (Nat.le_refl _) (by omega))
  have cf3 : CF h3 q b := by
    rw [← hh3]
    unfold CF
    simp [qI_pI]
  have co3 : HC h3 qo b := co.fz f3 (fun x j z1 z2 _ z3 => by unfold pK at z3; omega)
  obtain ⟨h2, g1, g2, g3⟩ := g_cpL50 hq w (b 4).toNat 0 h3 2000 (by omega) (by have := w.2.1; omega) (l.ly f3.1) (lo.ly f3.1) co3 cf3 (fun j hj => by omega)
  refine ⟨h2, ?_, f3.tr g2, g3⟩
  unfold f_X4_copyFrom
  have c3 := HW_3 co.2.1 w.2.1.1
  simp only [okr_pIi, qI_pI, n, false_and, if_false, chk_pos lo.1, chk_pos l.1, lt_is, co.1.1, co.1.2.1, co.1.2.2, c3, co.2.2.1, co.2.2.2.1.1]
  rw [hh3]
  exact g1
