/-! ===== STAGE B: the class's contents: changes ===== -/
theorem rd_ne {h : Hp} {a k x j : Nat} {v : Int32} (e : x ≠ a) : qI (putI h a k v) x j = qI h x j := by rw [qI_pI, if_neg (fun z => e z.1)]
theorem rd_nk {h : Hp} {a k x j : Nat} {v : Int32} (e : j ≠ k) : qI (putI h a k v) x j = qI h x j := by rw [qI_pI, if_neg (fun z => e z.2)]
theorem rd_eq {h : Hp} {a k : Nat} {v : Int32} : qI (putI h a k v) a k = v := by rw [qI_pI, if_pos ⟨rfl, rfl⟩]
def HD (h : Hp) (q : Nat) (b : Int → Int) : Prop := (qI h q 0 = iN (b 3) ∧ qI h q 1 = iN (b 5) ∧ qI h q 2 = iN (b 6)) ∧ HW h q (wsB b)
theorem HC.d {h : Hp} {q : Nat} {b : Int → Int} (c : HC h q b) : HD h q b := ⟨c.1, c.2.1⟩
theorem HW_at {h : Hp} {q : Nat} {b : Int → Int} (w : HW h q (wsB b)) {k : Nat} (hk : k < (b 4).toNat) : qI h (q + 1) k = iN (b (7 + (k : Int))) ∧ qI h (q + 2) k = iN (b (19 + (k : Int))) := w.2 k _ (wsB_at hk)
theorem HW_3 {h : Hp} {q : Nat} {b : Int → Int} (w : HW h q (wsB b)) (h0 : 0 ≤ b 4) : qI h q 3 = iN (b 4) := by
  rw [w.1, wsB_len, Int.toNat_of_nonneg h0]
theorem HW_of {h : Hp} {q : Nat} {b : Int → Int} (h0 : 0 ≤ b 4) (h3 : qI h q 3 = iN (b 4)) (hk : ∀ k : Nat, k < (b 4).toNat → qI h (q + 1) k = iN (b (7 + (k : Int))) ∧ qI h (q + 2) k = iN (b (19 + (k : Int)))) : HW h q (wsB b) := by
  refine ⟨by rw [h3, wsB_len, Int.toNat_of_nonneg h0], fun k p hp => ?_⟩
  obtain ⟨h1, rfl⟩ := wsB_get hp
  exact hk k h1
theorem g_settleB {h : Hp} {q : Nat} {b : Int → Int} (l : LC h q) (w : WB b) (d : HD h q b) : ∃ h2, f_X4_settle h q = some (h2, .inr ()) ∧ FZ (pK q) h h2 ∧ HC h2 q b := by
  obtain ⟨⟨d0, d1, d2⟩, dw⟩ := d
  obtain ⟨h2, e, y, p, i4, f7, fs⟩ := g_settle w.1 w.ws2 w.wl l dw d0
  have ff : ∀ x j, x ≤ q + 2 → ¬ (x = q ∧ (j = 4 ∨ j = 7)) → qI h2 x j = qI h x j := fun x j z1 z2 => fs x j z2 (Or.inl (by omega)) (by omega)
  refine ⟨h2, e, ⟨y, fun x j z => ?_⟩, ⟨?_, ?_, ?_⟩, ⟨?_, fun k p hk => ?_⟩, i4, p, fun k hk => Or.inl (f7 k hk)⟩
  · unfold pK at z
    exact fs x j (by omega) (by omega) (by omega)
  · rw [ff q 0 (by omega) (by omega)]; exact d0
  · rw [ff q 1 (by omega) (by omega)]; exact d1
  · rw [ff q 2 (by omega) (by omega)]; exact d2
  · rw [ff q 3 (by omega) (by omega)]; exact dw.1
  · rw [ff (q + 1) k (by omega) (by omega), ff (q + 2) k (by omega) (by omega)]; exact dw.2 k p hk
theorem FZ.pk {h : Hp} {q x k : Nat} {v : Int32} (h1 : q ≤ x) (h2 : x ≤ q + 7) : FZ (pK q) h (putI h x k v) := FZ.pI ⟨h1, h2⟩
theorem g_begin {h : Hp} {q : Nat} {b : Int → Int} (l : LC h q) (w : WB b) (h4 : b 4 = 0) (h5 : b 5 = 1) (h6 : b 6 = 1) : ∃ h2, f_X4_begin h q (iN (b 3)) = some (h2, .inr ()) ∧ FZ (pK q) h h2 ∧ HC h2 q b := by
  have f1 : FZ (pK q) h (putI (putI (putI (putI h q 0 (iN (b 3))) q 1 (iN 1)) q 2 (iN 1)) q 3 (iN 0)) := (((FZ.pk (Nat.le_refl _) (by omega)).tr (FZ.pk (Nat.le_refl _) (by omega))).tr (FZ.pk (Nat.le_refl _) (by omega))).tr (FZ.pk (Nat.le_refl _) (by omega))
  obtain ⟨h2, e, f2, c2⟩ := g_settleB (l.ly f1.1) w ⟨⟨by simp [qI_pI], by simp [qI_pI, h5], by simp [qI_pI, h6]⟩, HW_of (by omega) (by simp [qI_pI, h4]) (fun k hk => by omega)⟩
  refine ⟨h2, ?_, f1.tr f2, c2⟩
  unfold f_X4_begin
  rw [chk_pos l.1, lt_is, lt_is, lt_is, lt_is, e, bnd_ret]
theorem g_resize {h : Hp} {q : Nat} {b b2 : Int → Int} (l : LC h q) (c : HD h q b) (w : WB b2) (e3 : b2 3 = b 3) (e4 : b2 4 = b 4) (hz : b 4 = 0) : ∃ h2, f_X4_resize h q (iN (b2 5)) (iN (b2 6)) = some (h2, .inr ()) ∧ FZ (pK q) h h2 ∧ HC h2 q b2 := by
  have f1 : FZ (pK q) h (putI (putI h q 1 (iN (b2 5))) q 2 (iN (b2 6))) := (FZ.pk (Nat.le_refl _) (by omega)).tr (FZ.pk (Nat.le_refl _) (by omega))
  have c3 := HW_3 c.2 (by omega)
  obtain ⟨h2, e, f2, c2⟩ := g_settleB (l.ly f1.1) w ⟨⟨by simp [qI_pI, e3, c.1.1], by simp [qI_pI], by simp [qI_pI]⟩, HW_of (by omega) (by simp [qI_pI, e4, c3]) (fun k hk => by omega)⟩
  refine ⟨h2, ?_, f1.tr f2, c2⟩
  unfold f_X4_resize
  rw [chk_pos l.1, lt_is, lt_is, e, bnd_ret]
theorem g_turnInto {h : Hp} {q : Nat} {b b2 : Int → Int} (l : LC h q) (c : HD h q b) (w : WB b2) (e4 : b2 4 = b 4) (e5 : b2 5 = b 5) (e6 : b2 6 = b 6) (hk : ∀ k, 0 ≤ k → k < b 4 → b2 (7 + k) = b (7 + k) ∧ b2 (19 + k) = b (19 + k)) : ∃ h2, f_X4_turnInto h q (iN (b2 3)) = some (h2, .inr ()) ∧ FZ (pK q) h h2 ∧ HC h2 q b2 := by
  have f1 : FZ (pK q) h (putI h q 0 (iN (b2 3))) := FZ.pk (Nat.le_refl _) (by omega)
  have w4 := w.2.1
  have c3 := HW_3 c.2 (by omega)
  obtain ⟨h2, e, f2, c2⟩ := g_settleB (l.ly f1.1) w ⟨⟨by simp [qI_pI], by simp [qI_pI, e5, c.1.2.1], by simp [qI_pI, e6, c.1.2.2]⟩, HW_of (by omega) (by simp [qI_pI, e4, c3]) (fun k hk2 => by
    obtain ⟨a1, a2⟩ := HW_at c.2 (k := k) (by omega)
    obtain ⟨d1, d2⟩ := hk k (by omega) (by omega)
    rw [qI_pI, if_neg (by omega), qI_pI, if_neg (by omega), d1, d2]
    exact ⟨a1, a2⟩)⟩
  refine ⟨h2, ?_, f1.tr f2, c2⟩
  unfold f_X4_turnInto
  rw [chk_pos l.1, lt_is, e, bnd_ret]
theorem g_push {h : Hp} {q : Nat} {b b2 : Int → Int} (l : LC h q) (c : HD h q b) (w : WB b2) (h4 : 0 ≤ b 4 ∧ b 4 < 12) (e3 : b2 3 = b 3) (e4 : b2 4 = b 4 + 1) (e5 : b2 5 = b 5) (e6 : b2 6 = b 6) (hk : ∀ k, 0 ≤ k → k < b 4 → b2 (7 + k) = b (7 + k) ∧ b2 (19 + k) = b (19 + k)) : ∃ h2, f_X4_push h q (iN (b2 (7 + b 4))) (iN (b2 (19 + b 4))) = some (h2, .inr ()) ∧ FZ (pK q) h h2 ∧ HC h2 q b2 := by
  have c3 := HW_3 c.2 h4.1
  have f1 : FZ (pK q) h (putI (putI (putI h (q + 1) (b 4).toNat (iN (b2 (7 + b 4)))) (q + 2) (b 4).toNat (iN (b2 (19 + b 4)))) q 3 (iN (b 4 + 1))) := ((FZ.pk (by omega) (by omega)).tr (FZ.pk (by omega) (by omega))).tr (FZ.pk (by omega) (by omega))
  obtain ⟨h1, ⟨r5, r6, r8, r9, r10, r11, r12⟩, ⟨o1, o2, o3, o4, o5, o6, o7⟩, ⟨w1, w2, w3, w4, w5, w6, w7⟩⟩ := id l
  obtain ⟨h2, e, f2, c2⟩ := g_settleB (l.ly f1.1) w ⟨⟨by simp [qI_pI, e3, c.1.1], by simp [qI_pI, e5, c.1.2.1], by simp [qI_pI, e6, c.1.2.2]⟩, HW_of (by omega) (by simp [qI_pI, e4]) (fun k hk2 => by
    by_cases hkn : k = (b 4).toNat
    · subst hkn
      simp (disch := omega) only [rd_eq, rd_ne]
      rw [Int.toNat_of_nonneg h4.1]
      exact ⟨rfl, rfl⟩
    · obtain ⟨a1, a2⟩ := HW_at c.2 (k := k) (by omega)
      obtain ⟨d1, d2⟩ := hk k (by omega) (by omega)
      simp (disch := omega) only [rd_nk, rd_ne]
      rw [d1, d2]
      exact ⟨a1, a2⟩)⟩
  refine ⟨h2, ?_, f1.tr f2, c2⟩
  unfold f_X4_push f_X4_push_L39
  have n1 : ¬ q = q + 1 := by omega
  have n2 : ¬ q = q + 2 := by omega
  rw [chk_pos h1, c3, if_neg (fun z => by have := (iN_leO (by omega) (by omega) (by omega) (by omega)).mp z; omega), r5, chk_pos o1, w1, ck_in h4.1 (by omega) (by omega), iN_cl h4.1 (by omega), lt_is]
  simp only [okr_pIi, qR_pI, qW_pI, qI_pI, n1, n2, false_and, if_false, c3, r6, chk_pos o2, w2, lt_is, iN_add, iN_cl h4.1 (show b 4 < 2147483648 by omega), chk_pos h1, ck_in h4.1 (show b 4 < ((12 : Nat) : Int) by omega) (show 12 < 2147483648 by omega)]
  rw [e, bnd_ret]
theorem g_pushAfterSpace {h : Hp} {q : Nat} {b b1 b2 : Int → Int} (l : LC h q) (c : HD h q b) (w : WB b2) (h4 : 0 ≤ b 4 ∧ b 4 < 12) (g3 : b1 3 = b 3) (g4 : b1 4 = b 4) (g5 : b1 5 = b 5) (g6 : b1 6 = b 6) (gk : ∀ k, 0 ≤ k → k < b 4 → b1 (7 + k) = b (7 + k) ∧ b1 (19 + k) = if k = b 4 - 1 then 0 else b (19 + k)) (e3 : b2 3 = b1 3) (e4 : b2 4 = b1 4 + 1) (e5 : b2 5 = b1 5) (e6 : b2 6 = b1 6) (hk : ∀ k, 0 ≤ k → k < b1 4 → b2 (7 + k) = b1 (7 + k) ∧ b2 (19 + k) = b1 (19 + k)) (e0 : b2 (19 + b 4) = 0) : ∃ h2, f_X4_pushAfterSpace h q (iN (b2 (7 + b 4))) = some (h2, .inr ()) ∧ FZ (pK q) h h2 ∧ HC h2 q b2 := by
  have c3 := HW_3 c.2 h4.1
  obtain ⟨h1, ⟨r5, r6, r8, r9, r10, r11, r12⟩, ⟨o1, o2, o3, o4, o5, o6, o7⟩, ⟨w1, w2, w3, w4, w5, w6, w7⟩⟩ := id l
  have main : ∀ h3, FZ (pK q) h h3 → HD h3 q b1 → ∃ h2, f_X4_pushAfterSpace_L19 h3 q (iN (b2 (7 + b 4))) = some (h2, .inr ()) ∧ FZ (pK q) h h2 ∧ HC h2 q b2 := by
    intro h3 f3 d3
    have l3 := l.ly f3.1
    obtain ⟨h2, e, f2, c2⟩ := g_push l3 d3 w (by omega) e3 e4 e5 e6 hk
    refine ⟨h2, ?_, f3.tr f2, c2⟩
    rw [g4, e0] at e
    unfold f_X4_pushAfterSpace_L19
    rw [chk_pos l3.1, e, bnd_ret]
  unfold f_X4_pushAfterSpace
  rw [chk_pos h1, c3]
  by_cases h0 : b 4 ≤ 0
  · rw [if_pos ((iN_le0 (by omega) (by omega)).mpr h0)]
    refine main h FZ.rf ⟨⟨by rw [g3]; exact c.1.1, by rw [g5]; exact c.1.2.1, by rw [g6]; exact c.1.2.2⟩, HW_of (by omega) (by rw [g4]; exact c3) (fun k hk => by omega)⟩
  · rw [if_neg (fun z => h0 ((iN_le0 (by omega) (by omega)).mp z)), r6, chk_pos o2, w2, iN_sub, ck_in (by omega) (by omega) (by omega), iN_cl (by omega) (by omega), lt_is]
    refine main _ (FZ.pk (by omega) (by omega)) ⟨⟨by rw [g3, qI_pI, if_neg (by omega)]; exact c.1.1, by rw [g5, qI_pI, if_neg (by omega)]; exact c.1.2.1, by rw [g6, qI_pI, if_neg (by omega)]; exact c.1.2.2⟩, HW_of (by omega) (by rw [g4, qI_pI, if_neg (by omega)]; exact c3) (fun k hk => ?_)⟩
    obtain ⟨a1, a2⟩ := HW_at c.2 (k := k) (by omega)
    obtain ⟨d1, d2⟩ := gk k (by omega) (by omega)
    rw [qI_pI, if_neg (by omega), qI_pI, d1, d2]
    by_cases hl : (k : Int) = b 4 - 1
    · rw [if_pos ⟨rfl, by omega⟩, if_pos hl]; exact ⟨a1, rfl⟩
    · rw [if_neg (fun z => hl (by have := z.2; omega)), if_neg hl]; exact ⟨a1, a2⟩
