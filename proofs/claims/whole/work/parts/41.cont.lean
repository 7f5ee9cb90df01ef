/-! ===== STAGE B: Arrays.fill; the contents of the class ===== -/
def fillN (h : Hp) (a : Nat) (v : Int32) (k : Nat) : Hp := (qN h, qT h, qW h, fun x j => if x = a ∧ j < k then v else qI h x j, qL h, qR h, qC h, qS h)
theorem fillN_0 {h : Hp} {a : Nat} {v : Int32} : fillN h a v 0 = h := by
  have e : (fun x j => if x = a ∧ j < 0 then v else qI h x j) = qI h := by
    funext x j
    exact if_neg (fun q => absurd q.2 (Nat.not_lt_zero _))
  show (qN h, qT h, qW h, (fun x j => if x = a ∧ j < 0 then v else qI h x j), qL h, qR h, qC h, qS h) = h
  rw [e]
  rfl
theorem fillN_s {h : Hp} {a k : Nat} {v : Int32} : putI (fillN h a v k) a k v = fillN h a v (k + 1) := by
  have e : (fun x j => if x = a ∧ j = k then v else if x = a ∧ j < k then v else qI h x j) = (fun x j => if x = a ∧ j < k + 1 then v else qI h x j) := by
    funext x j
    by_cases hx : x = a
    · by_cases h1 : j = k
      · rw [if_pos ⟨hx, h1⟩, if_pos ⟨hx, by omega⟩]
      · rw [if_neg (fun q => h1 q.2)]
        by_cases h2 : j < k
        · rw [if_pos ⟨hx, h2⟩, if_pos ⟨hx, by omega⟩]
        · rw [if_neg (fun q => h2 q.2), if_neg (fun q => by omega)]
    · rw [if_neg (fun q => hx q.1), if_neg (fun q => hx q.1), if_neg (fun q => hx q.1)]
  show (qN h, qT h, qW h, (fun x j => if x = a ∧ j = k then v else if x = a ∧ j < k then v else qI h x j), qL h, qR h, qC h, qS h) = _
  rw [e]
  rfl
theorem g_fillL {h : Hp} {a w : Nat} {v : Int32} (ha : okr h a 20) (hw : qW h a = w) (hw2 : w < 2147483647) : ∀ (d k n : Nat), k + d = w → d < n → f_J7_fill_53178_L5 n (fillN h a v k) a v (iN k) (iN w) = some (fillN h a v w, .inr ()) := by
  intro d
  induction d with
  | zero =>
    intro k n hk hn
    obtain ⟨n, rfl⟩ : ∃ m, n = m + 1 := ⟨n - 1, by omega⟩
    show f_J7_fill_53178_B5 _ _ _ _ _ _ = _
    unfold f_J7_fill_53178_B5
    rw [if_pos ((iN_le ⟨by omega, by omega⟩ ⟨by omega, by omega⟩).mpr (by omega)), show k = w by omega]
  | succ d ih =>
    intro k n hk hn
    obtain ⟨n, rfl⟩ : ∃ m, n = m + 1 := ⟨n - 1, by omega⟩
    show f_J7_fill_53178_B5 _ _ _ _ _ _ = _
    unfold f_J7_fill_53178_B5
    rw [if_neg (fun q => by have := (iN_le ⟨by omega, by omega⟩ ⟨by omega, by omega⟩).mp q; omega), chk_pos (show okr (fillN h a v k) a 20 from ha), chk_pos (show vp_in (iN k) (qW (fillN h a v k) a) by rw [show qW (fillN h a v k) a = w from hw]; exact vp_inN (by omega) (by omega) (by omega)), lt_is, iN_clN (by omega), fillN_s, iN_add]
    exact ih (k + 1) n (by omega) (by omega)
theorem g_fill {h : Hp} {a : Nat} {v : Int32} (ha : okr h a 20) (hw : qW h a < 2000) : f_J7_fill_53178 h a v = some (fillN h a v (qW h a), .inr ()) := by
  unfold f_J7_fill_53178
  rw [chk_pos ha]
  have := g_fillL (v := v) ha rfl (by omega) (qW h a) 0 2000 (by omega) hw
  rw [fillN_0] at this
  exact this
/-! a content: its cell q and seven arrays behind it -/
def LC (h : Hp) (q : Nat) : Prop := okr h q 4 ∧ (qR h q 5 = q + 1 ∧ qR h q 6 = q + 2 ∧ qR h q 8 = q + 3 ∧ qR h q 9 = q + 4 ∧ qR h q 10 = q + 5 ∧ qR h q 11 = q + 6 ∧ qR h q 12 = q + 7) ∧
  (okr h (q + 1) 20 ∧ okr h (q + 2) 20 ∧ okr h (q + 3) 20 ∧ okr h (q + 4) 20 ∧ okr h (q + 5) 22 ∧ okr h (q + 6) 20 ∧ okr h (q + 7) 20) ∧
  (qW h (q + 1) = 12 ∧ qW h (q + 2) = 12 ∧ qW h (q + 3) = 12 ∧ qW h (q + 4) = 12 ∧ qW h (q + 5) = 12 ∧ qW h (q + 6) = 12 ∧ qW h (q + 7) = 37)
/-- two heaps of the same layout -/
def Ly (h h' : Hp) : Prop := qN h' = qN h ∧ qT h' = qT h ∧ qW h' = qW h ∧ qR h' = qR h ∧ qL h' = qL h ∧ qC h' = qC h ∧ qS h' = qS h
theorem Ly.rf {h : Hp} : Ly h h := ⟨rfl, rfl, rfl, rfl, rfl, rfl, rfl⟩
theorem Ly.tr {h h1 h2 : Hp} (a : Ly h h1) (b : Ly h1 h2) : Ly h h2 := ⟨b.1.trans a.1, b.2.1.trans a.2.1, b.2.2.1.trans a.2.2.1, b.2.2.2.1.trans a.2.2.2.1, b.2.2.2.2.1.trans a.2.2.2.2.1, b.2.2.2.2.2.1.trans a.2.2.2.2.2.1, b.2.2.2.2.2.2.trans a.2.2.2.2.2.2⟩
theorem Ly.pI {h : Hp} {a k : Nat} {v : Int32} : Ly h (putI h a k v) := ⟨rfl, rfl, rfl, rfl, rfl, rfl, rfl⟩
theorem Ly.fill {h : Hp} {a k : Nat} {v : Int32} : Ly h (fillN h a v k) := ⟨rfl, rfl, rfl, rfl, rfl, rfl, rfl⟩
theorem Ly.ok {h h' : Hp} (a : Ly h h') {x t : Nat} : okr h' x t ↔ okr h x t := by unfold okr; rw [a.1, a.2.1]
theorem LC.ly {h h' : Hp} {q : Nat} (a : Ly h h') (l : LC h q) : LC h' q := by
  obtain ⟨h1, h2, h3, h4⟩ := l
  unfold LC
  rw [a.ok, a.ok, a.ok, a.ok, a.ok, a.ok, a.ok, a.ok, a.2.2.1, a.2.2.2.1]
  exact ⟨h1, h2, h3, h4⟩
/-- joins -/
theorem g_joins {h : Hp} {q : Nat} {b : Int} (l : LC h q) (hb : 0 ≤ b ∧ b ≤ 3) {kd : Int} (hk : qI h q 0 = iN kd) (hkr : 0 ≤ kd ∧ kd ≤ 5) : f_X4_joins h q (iN b) = some (h, .inr (if b = 2 ∨ kd = 3 ∧ b ≠ 1 then iN 1 else iN 0)) := by
  unfold f_X4_joins
  have r : ∀ z : Int, 0 ≤ z ∧ z ≤ 5 → InR z := fun z hz => ⟨by omega, by omega⟩
  by_cases h2 : b = 2
  · rw [if_pos (by rw [h2]), if_pos (Or.inl h2)]
  · rw [if_neg (fun e => h2 ((iN_eq (r _ (by omega)) (r _ (by omega))).mp e)), chk_pos l.1, hk]
    by_cases h3 : kd = 3
    · rw [if_pos (by rw [h3])]
      by_cases h1 : b = 1
      · rw [if_pos (by rw [h1]), if_neg (fun q => q.elim h2 (fun q => q.2 h1))]
      · rw [if_neg (fun e => h1 ((iN_eq (r _ (by omega)) (r _ (by omega))).mp e)), if_pos (Or.inr ⟨h3, h1⟩)]
    · rw [if_neg (fun e => h3 ((iN_eq (r _ (by omega)) (r _ (by omega))).mp e)), if_neg (fun q => q.elim h2 (fun q => h3 q.1))]
theorem g_isText {h : Hp} {q : Nat} (l : LC h q) {kd : Int} (hk : qI h q 0 = iN kd) (hkr : 0 ≤ kd ∧ kd ≤ 5) : f_X4_isText h q = some (h, .inr (if kd ≤ 3 then iN 1 else iN 0)) := by
  unfold f_X4_isText
  rw [chk_pos l.1, hk]
  by_cases h3 : kd ≤ 3
  · rw [if_neg (fun e => by have := (iN_lt ⟨by omega, by omega⟩ ⟨by omega, by omega⟩).mp e; omega), if_pos h3]
  · rw [if_pos ((iN_lt ⟨by omega, by omega⟩ ⟨by omega, by omega⟩).mpr (by omega)), if_neg h3]
