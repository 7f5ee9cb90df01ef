/-! ===== STAGE B: the reference's table: questions ===== -/
theorem g_isColumn {h : Hp} {M : Nat} {m : Int → Int} (r : RM h M m) (w : WF m) {x : Int} (hx : InR x) : f_X9_isColumn h M (iN x) = some (h, .inr (bN (0 ≤ x ∧ x ≤ m 0 - 1))) := by
  have h0 := w.1.1
  unfold f_X9_isColumn
  rw [chk_pos r.1.1, r.1.r1, chk_pos r.1.o1, r.1.w1, ck_in (by omega) (by omega) (by omega), g_rd r (by omega) (by omega), iN_sub, g_in hx ⟨by omega, by omega⟩ ⟨by omega, by omega⟩, bnd_ret, ck_b]
theorem g_isRow {h : Hp} {M : Nat} {m : Int → Int} (r : RM h M m) (w : WF m) {x : Int} (hx : InR x) : f_X9_isRow h M (iN x) = some (h, .inr (bN (0 ≤ x ∧ x ≤ m 4 - 1))) := by
  have h0 := w.1.2.2.2.2.1
  unfold f_X9_isRow
  rw [chk_pos r.1.1, r.1.r1, chk_pos r.1.o1, r.1.w1, ck_in (by omega) (by omega) (by omega), g_rd r (by omega) (by omega), iN_sub, g_in hx ⟨by omega, by omega⟩ ⟨by omega, by omega⟩, bnd_ret, ck_b]
theorem g_isCell {h : Hp} {M : Nat} {m : Int → Int} (r : RM h M m) (w : WF m) {x : Int} (hx : InR x) : f_X9_isCell h M (iN x) = some (h, .inr (bN (0 ≤ x ∧ x ≤ m 5 - 1))) := by
  have h0 := w.1.2.2.2.2.2
  unfold f_X9_isCell
  rw [chk_pos r.1.1, r.1.r1, chk_pos r.1.o1, r.1.w1, ck_in (by omega) (by omega) (by omega), g_rd r (by omega) (by omega), iN_sub, g_in hx ⟨by omega, by omega⟩ ⟨by omega, by omega⟩, bnd_ret, ck_b]
theorem SpO.bd {s : Int} (h : SpO s) : 0 ≤ s ∧ s ≤ 300 := by unfold SpO at h; omega
theorem SpO.ty {s : Int} (h : SpO s) : (tyS s = 0 ↔ s = 0) ∧ (tyS s = 1 ↔ 100 ≤ s ∧ s ≤ 199) ∧ (tyS s = 2 ↔ 200 ≤ s) ∧ (0 ≤ tyS s ∧ tyS s ≤ 2) ∧ (0 ≤ vaS s ∧ vaS s ≤ 100) ∧ (tyS s = 1 → vaS s = s - 100 ∧ 1 ≤ vaS s ∧ vaS s ≤ 36) ∧ (tyS s = 2 → vaS s = s - 200) ∧ (tyS s = 0 → vaS s = 0) ∧ 100 * tyS s + vaS s = s := by
  unfold SpO at h
  by_cases h1 : s < 100
  · have e1 : tyS s = 0 := if_pos h1
    have e2 : vaS s = 0 := if_pos h1
    exact ⟨by omega, by omega, by omega, by omega, by omega, fun z => by omega, fun z => by omega, fun z => by omega, by omega⟩
  · by_cases h2 : s < 200
    · have e1 : tyS s = 1 := by unfold tyS; rw [if_neg h1, if_pos h2]
      have e2 : vaS s = s - 100 := by unfold vaS; rw [if_neg h1, if_pos h2]
      exact ⟨by omega, by omega, by omega, by omega, by omega, fun z => by omega, fun z => by omega, fun z => by omega, by omega⟩
    · have e1 : tyS s = 2 := by unfold tyS; rw [if_neg h1, if_neg h2]
      have e2 : vaS s = s - 200 := by unfold vaS; rw [if_neg h1, if_neg h2]
      exact ⟨by omega, by omega, by omega, by omega, by omega, fun z => by omega, fun z => by omega, fun z => by omega, by omega⟩
theorem g_isFixed9 {h : Hp} {M : Nat} {m : Int → Int} (r : RM h M m) (w : WF m) {c : Int} (hc : 0 ≤ c ∧ c < 4) : f_X9_isFixed h M (iN c) = some (h, .inr (bN (tyS (m (6 + c)) = 1))) := by
  have s := (w.2.1 c hc.1 hc.2)
  have sb := s.bd
  unfold f_X9_isFixed
  rw [chk_pos r.1.1, r.1.r1, chk_pos r.1.o1, r.1.w1, iN_add, ck_in (by omega) (by omega) (by omega), g_rd r (by omega) (by omega), g_in ⟨by omega, by omega⟩ ⟨by omega, by omega⟩ ⟨by omega, by omega⟩, bnd_ret, ck_b]
  unfold bN
  simp only [s.ty.2.1]
theorem g_isAuto9 {h : Hp} {M : Nat} {m : Int → Int} (r : RM h M m) (w : WF m) {c : Int} (hc : 0 ≤ c ∧ c < 4) : f_X9_isAuto h M (iN c) = some (h, .inr (bN (tyS (m (6 + c)) = 0))) := by
  have s := (w.2.1 c hc.1 hc.2)
  have sb := s.bd
  unfold f_X9_isAuto bN
  rw [chk_pos r.1.1, r.1.r1, chk_pos r.1.o1, r.1.w1, iN_add, ck_in (by omega) (by omega) (by omega), g_rd r (by omega) (by omega)]
  by_cases h0 : m (6 + c) = 0
  · rw [if_pos ((iN_eq0 (by omega) (by omega)).mpr h0), if_pos (s.ty.1.mpr h0)]
  · rw [if_neg (fun z => h0 ((iN_eq0 (by omega) (by omega)).mp z)), if_neg (fun z => h0 (s.ty.1.mp z))]
theorem g_isShared9 {h : Hp} {M : Nat} {m : Int → Int} (r : RM h M m) (w : WF m) {c : Int} (hc : 0 ≤ c ∧ c < 4) : f_X9_isShared h M (iN c) = some (h, .inr (bN (tyS (m (6 + c)) = 2))) := by
  have s := (w.2.1 c hc.1 hc.2)
  have sb := s.bd
  unfold f_X9_isShared bN
  rw [chk_pos r.1.1, r.1.r1, chk_pos r.1.o1, r.1.w1, iN_add, ck_in (by omega) (by omega) (by omega), g_rd r (by omega) (by omega)]
  by_cases h0 : m (6 + c) < 200
  · rw [if_pos (yltN (by omega) (by omega) (by omega)), if_neg (fun z => by have := s.ty.2.2.1.mp z; omega)]
  · rw [if_neg (nltN (by omega) (by omega) (by omega)), if_pos (s.ty.2.2.1.mpr (by omega))]
theorem g_usable9 {h : Hp} {M : Nat} {m : Int → Int} (r : RM h M m) : f_X9_usable h M = some (h, .inr (iN (m 1 - m 2 * (m 0 + 1)))) := by
  unfold f_X9_usable
  rw [chk_pos r.1.1, r.1.r1, chk_pos r.1.o1, r.1.w1, ck_in (by omega) (by omega) (by omega), ck_in (by omega) (by omega) (by omega), ck_in (by omega) (by omega) (by omega), g_rd r (by omega) (by omega), g_rd r (by omega) (by omega), g_rd r (by omega) (by omega), iN_add, iN_mul, iN_sub]
theorem g_widthOfL {h : Hp} {M arr : Nat} {m : Int → Int} (r : RM h M m) {i : Int} (hi : 0 ≤ i ∧ i < 16) (hb : 0 ≤ blk m i 1 ∧ 1 ≤ blk m i 2 ∧ blk m i 1 + blk m i 2 ≤ m 0) (h04 : m 0 ≤ 4) (oa : okr h arr 20) (wa : qW h arr = 4) {W : Int → Int} (A : AR h arr (m 0) W) : ∀ (d k : Nat) (acc : Int) (n : Nat), (k : Int) + d = blk m i 2 → d < n → f_X9_widthOf_L24 n h M (iN i) arr (iN (acc + sumF W (blk m i 1) k)) (iN (blk m i 1 + k)) = some (h, .inr (iN (acc + sumF W (blk m i 1) (blk m i 2).toNat))) := by
  intro d
  induction d with
  | zero =>
    intro k acc n hk hn
    obtain ⟨n, rfl⟩ : ∃ z, n = z + 1 := ⟨n - 1, by omega⟩
    show f_X9_widthOf_B24 (f_X9_widthOf_L24 n) h M (iN i) arr _ _ = _
    unfold f_X9_widthOf_B24
    rw [chk_pos r.1.1, g_ofA r hi (by omega), bnd_ret, chk_pos r.1.1, g_ofA r hi (by omega), bnd_ret, iN_add, if_pos (yleN (by omega) (by omega) (by omega)), show (blk m i 2).toNat = k by omega]
  | succ d ih =>
    intro k acc n hk hn
    obtain ⟨n, rfl⟩ : ∃ z, n = z + 1 := ⟨n - 1, by omega⟩
    show f_X9_widthOf_B24 (f_X9_widthOf_L24 n) h M (iN i) arr _ _ = _
    unfold f_X9_widthOf_B24
    rw [chk_pos r.1.1, g_ofA r hi (by omega), bnd_ret, chk_pos r.1.1, g_ofA r hi (by omega), bnd_ret, iN_add, if_neg (nleN (by omega) (by omega) (by omega)), chk_pos oa, wa, ck_in (by omega) (by omega) (by omega), iN_cl (by omega) (by omega), A (blk m i 1 + k) (by omega) (by omega), iN_add, iN_add, Int.add_assoc]
    have := ih (k + 1) acc n (by omega) (by omega)
    rw [sumF] at this
    rw [show blk m i 1 + (k : Int) + 1 = blk m i 1 + ((k + 1 : Nat) : Int) by omega]
    exact this
theorem g_widthOf {h : Hp} {M arr : Nat} {m : Int → Int} (r : RM h M m) (w : WF m) {i : Int} (hi : 0 ≤ i ∧ i < m 5) (oa : okr h arr 20) (wa : qW h arr = 4) {W : Int → Int} (A : AR h arr (m 0) W) : f_X9_widthOf h M (iN i) arr = some (h, .inr (iN (wC m i W))) := by
  have hm := w.1.2.2.2.2.2
  have h0 := w.1.1
  have hc := (w.2.2.1 i hi.1 hi.2).1
  unfold CO at hc
  have hi2 : 0 ≤ i ∧ i < 16 := by omega
  have := g_widthOfL r hi2 (by omega) (by omega) oa wa A (blk m i 2).toNat 0 (m 2 * (blk m i 2 - 1)) 2000 (by omega) (by omega)
  rw [show sumF W (blk m i 1) 0 = 0 from rfl, Int.add_zero, show blk m i 1 + ((0 : Nat) : Int) = blk m i 1 by omega] at this
  unfold f_X9_widthOf wC
  rw [chk_pos r.1.1, r.1.r1, chk_pos r.1.o1, r.1.w1, ck_in (by omega) (by omega) (by omega), g_ofA r hi2 (by omega), bnd_ret, chk_pos r.1.1, g_ofA r hi2 (by omega), bnd_ret, g_rd r (by omega) (by omega), iN_sub, iN_mul]
  exact this
theorem g_rowHighL {M arr : Nat} {m W : Int → Int} {r : Int} (w : WF m) (g : GW m W) (hA : arr < M ∨ M + 11 < arr) (hr : 0 ≤ r ∧ r < 100) : ∀ (d k : Nat) (h : Hp) (n : Nat), (k : Int) + d = m 5 → d < n → RM h M m → okr h arr 20 → qW h arr = 4 → AR h arr (m 0) W →
    ∃ h2, f_X9_rowHigh_L5 n h M (iN r) arr (iN (rhN m r W k)) (iN k) = some (h2, .inr (iN (rhN m r W (m 5).toNat))) ∧ FZ (pB M) h h2 := by
  have hm := w.1.2.2.2.2.2
  have h4 := w.1.2.2.2.2.1
  intro d
  induction d with
  | zero =>
    intro k h n hk hn t oa wa A
    obtain ⟨n, rfl⟩ : ∃ z, n = z + 1 := ⟨n - 1, by omega⟩
    refine ⟨h, ?_, FZ.rf⟩
    show f_X9_rowHigh_B5 (f_X9_rowHigh_L5 n) h M (iN r) arr _ (iN k) = _
    unfold f_X9_rowHigh_B5
    rw [chk_pos t.1.1, t.1.r1, chk_pos t.1.o1, t.1.w1, ck_in (by omega) (by omega) (by omega), g_rd t (by omega) (by omega), if_pos (yleN (by omega) (by omega) (by omega)), show (m 5).toNat = k by omega]
  | succ d ih =>
    intro k h n hk hn t oa wa A
    obtain ⟨n, rfl⟩ : ∃ z, n = z + 1 := ⟨n - 1, by omega⟩
    have hki : 0 ≤ (k : Int) ∧ (k : Int) < m 5 := by omega
    have hk2 : 0 ≤ (k : Int) ∧ (k : Int) < 16 := by omega
    have co := (w.2.2.1 k hki.1 hki.2).1
    have wb := (w.2.2.1 k hki.1 hki.2).2
    have b1 := rhN_bd w g (r := r) k (by omega)
    have b2 := hC_bd w g hki
    unfold CO at co
    show ∃ h2, f_X9_rowHigh_B5 (f_X9_rowHigh_L5 n) h M (iN r) arr _ (iN k) = _ ∧ _
    unfold f_X9_rowHigh_B5 f_X9_rowHigh_L48
    rw [chk_pos t.1.1, t.1.r1, chk_pos t.1.o1, t.1.w1, ck_in (by omega) (by omega) (by omega), g_rd t (by omega) (by omega), if_neg (nleN (by omega) (by omega) (by omega)), g_ofA t hk2 (by omega), bnd_ret]
    by_cases hrow : blk m k 0 = r
    · obtain ⟨h3, e3, f3⟩ := g_heightOf t hk2 wb w.1.2.2.2.1 (x := wC m k W) (by omega) b2.1
      have A3 : AR h3 arr (m 0) W := A.fz f3 (fun j z => by unfold pB at z; omega)
      obtain ⟨h2, e2, f2⟩ := ih (k + 1) h3 n (by omega) (by omega) (t.b f3) (f3.1.ok.mpr oa) (by rw [f3.1.2.2.1]; exact wa) A3
      refine ⟨h2, ?_, f3.tr f2⟩
      rw [if_pos (by rw [hrow]), chk_pos t.1.1, g_widthOf t w hki oa wa A, bnd_ret, chk_pos t.1.1, e3, bnd_ret, g_greater ⟨by omega, by omega⟩ ⟨by omega, by omega⟩, bnd_ret, iN_add]
      rw [rhN, if_pos hrow] at e2
      exact e2
    · obtain ⟨h2, e2, f2⟩ := ih (k + 1) h n (by omega) (by omega) t oa wa A
      refine ⟨h2, ?_, f2⟩
      rw [if_neg (neN hrow (by omega) (by omega) (by omega) (by omega)), iN_add]
      rw [rhN, if_neg hrow] at e2
      exact e2
theorem g_rowHigh {h : Hp} {M arr : Nat} {m W : Int → Int} {r : Int} (t : RM h M m) (w : WF m) (g : GW m W) (hA : arr < M ∨ M + 11 < arr) (hr : 0 ≤ r ∧ r < 100) (oa : okr h arr 20) (wa : qW h arr = 4) (A : AR h arr (m 0) W) : ∃ h2, f_X9_rowHigh h M (iN r) arr = some (h2, .inr (iN (rhN m r W (m 5).toNat))) ∧ FZ (pB M) h h2 := by
  have hm := w.1.2.2.2.2.2
  exact g_rowHighL w g hA hr (m 5).toNat 0 h 2000 (by omega) (by omega) t oa wa A
theorem g_tabHighL {M arr : Nat} {m W : Int → Int} (w : WF m) (g : GW m W) (hA : arr < M ∨ M + 11 < arr) : ∀ (d k : Nat) (h : Hp) (n : Nat), (k : Int) + d = m 4 → d < n → RM h M m → okr h arr 20 → qW h arr = 4 → AR h arr (m 0) W →
    ∃ h2, f_X9_tableHigh_L18 n h M arr (iN (m 2 * (m 4 + 1) + sumF (fun r => rhN m r W (m 5).toNat) 0 k)) (iN k) = some (h2, .inr (iN (taH m W))) ∧ FZ (pB M) h h2 := by
  have hm := w.1.2.2.2.2.2
  have h4 := w.1.2.2.2.2.1
  intro d
  induction d with
  | zero =>
    intro k h n hk hn t oa wa A
    obtain ⟨n, rfl⟩ : ∃ z, n = z + 1 := ⟨n - 1, by omega⟩
    refine ⟨h, ?_, FZ.rf⟩
    show f_X9_tableHigh_B18 (f_X9_tableHigh_L18 n) h M arr _ (iN k) = _
    unfold f_X9_tableHigh_B18 taH
    rw [chk_pos t.1.1, t.1.r1, chk_pos t.1.o1, t.1.w1, ck_in (by omega) (by omega) (by omega), g_rd t (by omega) (by omega), if_pos (yleN (by omega) (by omega) (by omega)), show (m 4).toNat = k by omega]
  | succ d ih =>
    intro k h n hk hn t oa wa A
    obtain ⟨n, rfl⟩ : ∃ z, n = z + 1 := ⟨n - 1, by omega⟩
    obtain ⟨h3, e3, f3⟩ := g_rowHigh t w g hA (r := k) (by omega) oa wa A
    have A3 : AR h3 arr (m 0) W := A.fz f3 (fun j z => by unfold pB at z; omega)
    obtain ⟨h2, e2, f2⟩ := ih (k + 1) h3 n (by omega) (by omega) (t.b f3) (f3.1.ok.mpr oa) (by rw [f3.1.2.2.1]; exact wa) A3
    refine ⟨h2, ?_, f3.tr f2⟩
    show f_X9_tableHigh_B18 (f_X9_tableHigh_L18 n) h M arr _ (iN k) = _
    unfold f_X9_tableHigh_B18
    rw [chk_pos t.1.1, t.1.r1, chk_pos t.1.o1, t.1.w1, ck_in (by omega) (by omega) (by omega), g_rd t (by omega) (by omega), if_neg (nleN (by omega) (by omega) (by omega)), e3, bnd_ret, iN_add, iN_add, Int.add_assoc]
    rw [sumF, show (0 : Int) + (k : Int) = k by omega] at e2
    exact e2
theorem g_tableHigh {h : Hp} {M arr : Nat} {m W : Int → Int} (t : RM h M m) (w : WF m) (g : GW m W) (hA : arr < M ∨ M + 11 < arr) (oa : okr h arr 20) (wa : qW h arr = 4) (A : AR h arr (m 0) W) : ∃ h2, f_X9_tableHigh h M arr = some (h2, .inr (iN (taH m W))) ∧ FZ (pB M) h h2 := by
  have hm := w.1.2.2.2.2.1
  obtain ⟨h2, e, f⟩ := g_tabHighL w g hA (m 4).toNat 0 h 2000 (by omega) (by omega) t oa wa A
  refine ⟨h2, ?_, f⟩
  unfold f_X9_tableHigh
  rw [sumF, Int.add_zero] at e
  rw [chk_pos t.1.1, t.1.r1, chk_pos t.1.o1, t.1.w1, ck_in (by omega) (by omega) (by omega), ck_in (by omega) (by omega) (by omega), g_rd t (by omega) (by omega), g_rd t (by omega) (by omega), iN_add, iN_mul]
  exact e
theorem g_atPlaceL {h : Hp} {M : Nat} {m : Int → Int} {r c : Int} (t : RM h M m) (w : WF m) (hr : InR r) (hc : 0 ≤ c ∧ c < 100) : ∀ (d k : Nat) (n : Nat) (f : Int), (k : Int) + d = m 5 → d < n → ((f = -1 ∧ ∀ i : Int, 0 ≤ i → i < k → ¬ atP m r c 1 i) ∨ ((0 ≤ f ∧ f < m 5) ∧ atP m r c 1 f)) →
    ∃ z, f_X9_atPlace_L5 n h M (iN r) (iN c) (iN f) (iN k) = some (h, .inr (iN z)) ∧ ((z = -1 ∧ ∀ i, 0 ≤ i → i < m 5 → ¬ atP m r c 1 i) ∨ ((0 ≤ z ∧ z < m 5) ∧ atP m r c 1 z)) := by
  have hm := w.1.2.2.2.2.2
  have h4 := w.1.2.2.2.2.1
  have h0 := w.1.1
  unfold InR at hr
  intro d
  induction d with
  | zero =>
    intro k n f hk hn hp
    obtain ⟨n, rfl⟩ : ∃ z, n = z + 1 := ⟨n - 1, by omega⟩
    refine ⟨f, ?_, hp.imp (fun z => ⟨z.1, fun i z1 z2 => z.2 i z1 (by omega)⟩) id⟩
    show f_X9_atPlace_B5 (f_X9_atPlace_L5 n) h M (iN r) (iN c) (iN f) (iN k) = _
    unfold f_X9_atPlace_B5
    rw [chk_pos t.1.1, t.1.r1, chk_pos t.1.o1, t.1.w1, ck_in (by omega) (by omega) (by omega), g_rd t (by omega) (by omega), if_pos (yleN (by omega) (by omega) (by omega))]
  | succ d ih =>
    intro k n f hk hn hp
    obtain ⟨n, rfl⟩ : ∃ z, n = z + 1 := ⟨n - 1, by omega⟩
    have hki : 0 ≤ (k : Int) ∧ (k : Int) < m 5 := by omega
    have hk2 : 0 ≤ (k : Int) ∧ (k : Int) < 16 := by omega
    have co := (w.2.2.1 k hki.1 hki.2).1
    unfold CO at co
    show ∃ z, f_X9_atPlace_B5 (f_X9_atPlace_L5 n) h M (iN r) (iN c) (iN f) (iN k) = _ ∧ _
    unfold f_X9_atPlace_B5 f_X9_atPlace_L62 f_X9_atPlace_L63 f_X9_atPlace_L76
    rw [chk_pos t.1.1, t.1.r1, chk_pos t.1.o1, t.1.w1, ck_in (by omega) (by omega) (by omega), g_rd t (by omega) (by omega), if_neg (nleN (by omega) (by omega) (by omega)), g_ofA t hk2 (by omega), bnd_ret]
    have nx : ¬ atP m r c 1 k → ∃ z, f_X9_atPlace_L5 n h M (iN r) (iN c) (iN f) (iN k + iN 1) = some (h, .inr (iN z)) ∧ ((z = -1 ∧ ∀ i, 0 ≤ i → i < m 5 → ¬ atP m r c 1 i) ∨ ((0 ≤ z ∧ z < m 5) ∧ atP m r c 1 z)) := fun hn1 => by
      rw [iN_add]
      refine ih (k + 1) n f (by omega) (by omega) (hp.imp (fun z => ⟨z.1, fun i z1 z2 => ?_⟩) id)
      by_cases e : i = k
      · rw [e]; exact hn1
      · exact z.2 i z1 (by omega)
    have e00 : iN 0 = 0 := rfl
    by_cases hrow : blk m k 0 = r
    · rw [if_pos (by rw [hrow]), chk_pos t.1.1, g_ofA t hk2 (by omega), bnd_ret, chk_pos t.1.1, g_ofA t hk2 (by omega), bnd_ret, chk_pos t.1.1, g_ofA t hk2 (by omega), bnd_ret, iN_add, iN_sub, g_in ⟨by omega, by omega⟩ ⟨by omega, by omega⟩ ⟨by omega, by omega⟩, bnd_ret]
      by_cases ho : blk m k 1 ≤ c ∧ c ≤ blk m k 1 + blk m k 2 - 1
      · rw [if_neg (fun z => bN0.mp z ho), if_neg (show ¬ iN 1 = 0 by decide), iN_add]
        exact ih (k + 1) n k (by omega) (by omega) (Or.inr ⟨hki, hrow, by omega, by omega⟩)
      · rw [if_pos (bN0.mpr ho), if_pos e00]
        exact nx (fun z => ho (by have := z.2; omega))
    · rw [if_neg (neN hrow (by omega) (by omega) (by omega) (by omega)), if_pos e00]
      exact nx (fun z => hrow z.1)
theorem g_atPlace {h : Hp} {M : Nat} {m : Int → Int} {r c : Int} (t : RM h M m) (w : WF m) (hr : InR r) (hc : 0 ≤ c ∧ c < 100) : ∃ z, f_X9_atPlace h M (iN r) (iN c) = some (h, .inr (iN z)) ∧ ((z = -1 ∧ ∀ i, 0 ≤ i → i < m 5 → ¬ atP m r c 1 i) ∨ ((0 ≤ z ∧ z < m 5) ∧ atP m r c 1 z)) := by
  have hm := w.1.2.2.2.2.2
  exact g_atPlaceL t w hr hc (m 5).toNat 0 2000 (-1) (by omega) (by omega) (Or.inl ⟨rfl, fun i z1 z2 => by omega⟩)
theorem g_isFreeL {h : Hp} {M : Nat} {m : Int → Int} {r c s : Int} (t : RM h M m) (w : WF m) (hr : InR r) (hc : 0 ≤ c ∧ c < 50) (hs : 0 ≤ s ∧ s < 50) : ∀ (d : Nat) (k : Int) (n : Nat) (f : Bool), k + d = c + s → c ≤ k → d < n → (f = true ↔ ∀ j, c ≤ j → j < k → ∀ i, 0 ≤ i → i < m 5 → ¬ atP m r j 1 i) →
    ∃ g : Bool, f_X9_isFree_L6 n h M (iN r) (iN c) (iN s) (bN (f = true)) (iN k) = some (h, .inr (bN (g = true))) ∧ (g = true ↔ ∀ j, c ≤ j → j < c + s → ∀ i, 0 ≤ i → i < m 5 → ¬ atP m r j 1 i) := by
  have hm := w.1.2.2.2.2.2
  intro d
  induction d with
  | zero =>
    intro k n f hk hck hn hf
    obtain ⟨n, rfl⟩ : ∃ z, n = z + 1 := ⟨n - 1, by omega⟩
    refine ⟨f, ?_, by rw [show c + s = k by omega]; exact hf⟩
    show f_X9_isFree_B6 (f_X9_isFree_L6 n) h M (iN r) (iN c) (iN s) _ (iN k) = _
    unfold f_X9_isFree_B6
    rw [iN_add, if_pos (yleN (by omega) (by omega) (by omega)), ck_b]
  | succ d ih =>
    intro k n f hk hck hn hf
    obtain ⟨n, rfl⟩ : ∃ z, n = z + 1 := ⟨n - 1, by omega⟩
    show ∃ g, f_X9_isFree_B6 (f_X9_isFree_L6 n) h M (iN r) (iN c) (iN s) _ (iN k) = _ ∧ _
    unfold f_X9_isFree_B6 f_X9_isFree_L34 f_X9_isFree_L35
    rw [iN_add, if_neg (nleN (by omega) (by omega) (by omega))]
    have nx : ∀ f2 : Bool, (f2 = true ↔ f = true ∧ ∀ i, 0 ≤ i → i < m 5 → ¬ atP m r k 1 i) → ∃ g : Bool, f_X9_isFree_L6 n h M (iN r) (iN c) (iN s) (bN (f2 = true)) (iN k + iN 1) = some (h, .inr (bN (g = true))) ∧ (g = true ↔ ∀ j, c ≤ j → j < c + s → ∀ i, 0 ≤ i → i < m 5 → ¬ atP m r j 1 i) := fun f2 hf2 => by
      rw [iN_add]
      refine ih (k + 1) n f2 (by omega) (by omega) (by omega) (hf2.trans ⟨fun z j z1 z2 => ?_, fun z => ⟨hf.mpr (fun j z1 z2 => z j z1 (by omega)), z k hck (by omega)⟩⟩)
      by_cases e : j = k
      · rw [e]; exact z.2
      · exact hf.mp z.1 j z1 (by omega)
    cases f with
    | false =>
      rw [if_pos (show bN (false = true) = 0 from rfl)]
      exact nx false ⟨fun z => (by cases z), fun z => z.1⟩
    | true =>
      obtain ⟨z, e, hz⟩ := g_atPlace t w hr (c := k) (by omega)
      rw [if_neg (show ¬ bN (true = true) = 0 by decide), chk_pos t.1.1, e, bnd_ret]
      rcases hz with ⟨hz, hno⟩ | ⟨hz, hyes⟩
      · rw [if_pos (by rw [hz])]
        exact nx true ⟨fun _ => ⟨rfl, hno⟩, fun _ => rfl⟩
      · rw [if_neg (neN (by omega) (by omega) (by omega) (by omega) (by omega))]
        exact nx false ⟨fun z => (by cases z), fun q => absurd hyes (q.2 z hz.1 hz.2)⟩
theorem g_isFree9 {h : Hp} {M : Nat} {m : Int → Int} {r c s : Int} (t : RM h M m) (w : WF m) (hr : InR r) (hc : 0 ≤ c ∧ c < 50) (hs : 1 ≤ s ∧ s < 50) : ∃ g : Bool, f_X9_isFree h M (iN r) (iN c) (iN s) = some (h, .inr (bN (g = true))) ∧ (g = true ↔ ∀ i, 0 ≤ i → i < m 5 → ¬ atP m r c s i) := by
  have hm := w.1.2.2.2.2.2
  obtain ⟨g, e, hg⟩ := g_isFreeL t w hr hc (s := s) (by omega) s.toNat c 2000 true (by omega) (by omega) (by omega) ⟨fun _ j z1 z2 => by omega, fun _ => rfl⟩
  refine ⟨g, e, hg.trans ⟨fun z i z1 z2 q => ?_, fun z j z1 z2 i z3 z4 q => ?_⟩⟩
  · obtain ⟨q1, q2, q3⟩ := q
    have co := (w.2.2.1 i z1 z2).1
    unfold CO at co
    refine z (max c (blk m i 1)) (by omega) ?_ i z1 z2 ⟨q1, by omega, by omega⟩
    omega
  · obtain ⟨q1, q2, q3⟩ := q
    exact z i z3 z4 ⟨q1, by omega, by omega⟩
