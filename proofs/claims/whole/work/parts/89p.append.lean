/-! ===== STAGE B: append ===== -/
/-- sign d of the packed ones -/
def byI (x : Int32) (d : Nat) : Int32 := ((Int32.toUInt32 x >>> (Int32.toUInt32 (iN (8 * (d : Int))) &&& Int32.toUInt32 31)).toInt32) &&& (iN 255)
def byZ (x : Int32) (d : Nat) : Int := (byI x d).toInt
theorem byZ_eq (x : Int32) (d : Nat) : byI x d = iN (byZ x d) := (iN_of _).symm
theorem and255 (a : Int32) : 0 ≤ (a &&& iN 255).toInt ∧ (a &&& iN 255).toInt ≤ 255 := by
  have e : (a &&& iN 255).toBitVec = a.toBitVec &&& 255#32 := rfl
  have h : (a.toBitVec &&& 255#32).toNat ≤ 255 := by
    rw [BitVec.toNat_and]
    exact Nat.and_le_right
  have h2 : (a &&& iN 255).toInt = ((a.toBitVec &&& 255#32).toNat : Int) := by
    show (a &&& iN 255).toBitVec.toInt = _
    rw [e, BitVec.toInt_eq_toNat_of_lt (by omega)]
  omega
theorem byZ_bd (x : Int32) (d : Nat) : 0 ≤ byZ x d ∧ byZ x d ≤ 255 := and255 _
abbrev okZ (z : Int) : Prop := z = 0 ∨ (33 ≤ z ∧ z ≤ 126)
def allK (x : Int32) : Nat → Bool
  | 0 => true
  | d + 1 => decide (okZ (byZ x d)) && allK x d
def cntK (x : Int32) : Nat → Int
  | 0 => 0
  | d + 1 => (if byZ x d = 0 then 0 else 1) + cntK x d
theorem cntK_bd (x : Int32) : ∀ d : Nat, 0 ≤ cntK x d ∧ cntK x d ≤ d
  | 0 => by rw [cntK]; omega
  | d + 1 => by
    have := cntK_bd x d
    rw [cntK]
    split <;> omega
theorem sh8 (d : Nat) : 8 * ((d + 1 : Nat) : Int) - 8 = 8 * (d : Int) := by omega
theorem by_fold (x : Int32) (d : Nat) : ((Int32.toUInt32 x >>> (Int32.toUInt32 (iN (8 * (d : Int))) &&& Int32.toUInt32 31)).toInt32) &&& (iN 255) = iN (byZ x d) := byZ_eq x d
theorem g_rqA1 {h : Hp} : f_X8_requireArgument h (iN 1) = some (h, .inr ()) := by
  unfold f_X8_requireArgument
  rw [if_neg (by decide)]
theorem g_rqA0 {h : Hp} : f_X8_requireArgument h (iN 0) = some (bump h, .inl 1) := by
  unfold f_X8_requireArgument
  rw [if_pos (by decide)]
theorem SL.o8 {h : Hp} (s : SL h) : okr h 566 5 := s.2.2.2.2.1.1
theorem g_apL {h : Hp} (s : SL h) {L : Int} (hL : 0 ≤ L ∧ L ≤ 60) (e1 : qI h 566 1 = iN L) {x : Int32} : ∀ (d n : Nat) (a : Int), d < n → d ≤ 4 → 0 ≤ a → a + d ≤ 8 → f_X8_append_L5 n h 1 x (iN a) (iN (8 * (d : Int) - 8)) = if allK x d = true then (if L + (a + cntK x d) ≤ 60 then f_X8_append_L87 2000 h 1 x (iN 24) else some (bump h, .inl 0)) else some (bump h, .inl 1) := by
  intro d
  induction d with
  | zero =>
    intro n a hn hd h1 h2
    obtain ⟨n, rfl⟩ : ∃ z, n = z + 1 := ⟨n - 1, by omega⟩
    show f_X8_append_B5 (f_X8_append_L5 n) h 1 x (iN a) (iN (8 * ((0 : Nat) : Int) - 8)) = _
    unfold f_X8_append_B5 f_X8_append_L81
    rw [if_pos ((iN_lt0 (by omega) (by omega)).mpr (by omega)), chk_pos s.o1, s.t8, chk_pos s.o8, e1, iN_add, allK, cntK, if_pos rfl, Int.add_zero]
    by_cases p : L + a ≤ 60
    · rw [if_neg (nltN (by omega) (by omega) (by omega)), g_rqS1, bnd_ret, if_pos p]
    · rw [if_pos (yltN (by omega) (by omega) (by omega)), g_rqS0, bnd_thr, if_neg p]
  | succ d ih =>
    intro n a hn hd h1 h2
    obtain ⟨n, rfl⟩ : ∃ z, n = z + 1 := ⟨n - 1, by omega⟩
    have zb := byZ_bd x d
    have i1 := ih n (a + 0) (by omega) (by omega) (by omega) (by omega)
    have i2 := ih n (a + 1) (by omega) (by omega) (by omega) (by omega)
    rw [sh8]
    show f_X8_append_B5 (f_X8_append_L5 n) h 1 x (iN a) (iN (8 * (d : Int))) = _
    unfold f_X8_append_B5 f_X8_append_L35 f_X8_append_L40 f_X8_append_L54
    rw [if_neg (fun z => by have := (iN_lt0 (by omega) (by omega)).mp z; omega), by_fold, g_isW ⟨(by omega), (by omega)⟩ ⟨(by omega), (by omega)⟩ ⟨(by omega), (by omega)⟩, bnd_ret, g_rqA1, g_rqA0, bnd_ret, bnd_thr, iN_add, iN_add, iN_add, allK, cntK]
    rw [show 8 * (d : Int) + -8 = 8 * (d : Int) - 8 by omega]
    by_cases z : byZ x d = 0
    · rw [if_pos ((iN_eq0 (by omega) (by omega)).mpr z), if_pos ((iN_eq0 (by omega) (by omega)).mpr z), if_pos z, i1, decide_eq_true (show okZ (byZ x d) from Or.inl z), Bool.true_and, show a + 0 + cntK x d = a + (0 + cntK x d) by omega]
    · rw [if_neg (eN0 z (by omega) (by omega)), if_neg (eN0 z (by omega) (by omega)), if_neg z]
      by_cases q : 33 ≤ byZ x d ∧ byZ x d ≤ 126
      · rw [if_neg (fun y => bN0.mp y q), i2, decide_eq_true (show okZ (byZ x d) from Or.inr q), Bool.true_and, show a + 1 + cntK x d = a + (1 + cntK x d) by omega]
      · rw [if_pos (bN0.mpr q), decide_eq_false (show ¬ okZ (byZ x d) by omega), Bool.false_and, if_neg (by decide)]
theorem ch_tab : ((List.range 256).all fun z => decide (((iN (z : Int)).toUInt32 % 65536).toInt32 = iN (z : Int)) && decide (vp_nar .char (iN (z : Int)) = iN (z : Int))) = true := by decide +kernel
theorem ch_at {z : Int} (h : 0 ≤ z ∧ z ≤ 255) : ((iN z).toUInt32 % 65536).toInt32 = iN z ∧ vp_nar .char (iN z) = iN z := by
  have h1 := List.all_eq_true.mp ch_tab z.toNat (List.mem_range.mpr (by omega))
  rw [Bool.and_eq_true, decide_eq_true_eq, decide_eq_true_eq, Int.toNat_of_nonneg h.1] at h1
  exact h1
abbrev TP : Type := (Int → Int) × Int
def apP (p : TP) (x : Int32) : Nat → TP
  | 0 => p
  | d + 1 => apP (if byZ x d = 0 then p else (up p.1 p.2 (byZ x d), p.2 + 1)) x d
theorem apP_ok {x : Int32} : ∀ (d : Nat) (p : TP), allK x d = true → 0 ≤ p.2 → (∀ k, 0 ≤ k → k < p.2 → 33 ≤ p.1 k ∧ p.1 k ≤ 126) → (apP p x d).2 = p.2 + cntK x d ∧ ∀ k, 0 ≤ k → k < (apP p x d).2 → 33 ≤ (apP p x d).1 k ∧ (apP p x d).1 k ≤ 126
  | 0, p, _, h0, h => ⟨by rw [apP, cntK]; omega, h⟩
  | d + 1, p, ha, h0, h => by
    rw [allK, Bool.and_eq_true, decide_eq_true_eq] at ha
    rw [apP, cntK]
    by_cases z : byZ x d = 0
    · rw [if_pos z, if_pos z, Int.zero_add]
      exact apP_ok d p ha.2 h0 h
    · rw [if_neg z, if_neg z]
      have := apP_ok d (up p.1 p.2 (byZ x d), p.2 + 1) ha.2 (by show 0 ≤ p.2 + 1; omega) (fun k k1 k2 => by
        show 33 ≤ up p.1 p.2 (byZ x d) k ∧ up p.1 p.2 (byZ x d) k ≤ 126
        have k3 : k < p.2 + 1 := k2
        by_cases e : k = p.2
        · rw [e, up_eq]
          have := ha.1
          omega
        · rw [up_ne e]
          exact h k k1 (by omega))
      refine ⟨?_, this.2⟩
      rw [this.1]
      show p.2 + 1 + cntK x d = p.2 + (1 + cntK x d)
      omega
theorem AR.ap {h : Hp} {a : Nat} {f : Int → Int} {k v : Int} (A : AR h a k f) (hk : 0 ≤ k) : AR (putI h a k.toNat (iN v)) a (k + 1) (up f k v) := by
  intro j h1 h2
  rw [qI_pI]
  by_cases e : j = k
  · rw [e, if_pos ⟨rfl, rfl⟩, up_eq]
  · rw [if_neg (fun z => e (by omega)), up_ne e]
    exact A j h1 (by omega)
theorem g_apP {x : Int32} : ∀ (d : Nat) (p : TP) (h : Hp) (n : Nat), d < n → d ≤ 4 → SL h → 0 ≤ p.2 → p.2 + cntK x d ≤ 60 → qI h 566 1 = iN p.2 → AR h 567 p.2 p.1 →
    ∃ h2, f_X8_append_L87 n h 1 x (iN (8 * (d : Int) - 8)) = some (h2, .inr (iN (apP p x d).2)) ∧ FZ (fun x j => (x = 566 ∧ j = 1) ∨ x = 567) h h2 ∧ qI h2 566 1 = iN (apP p x d).2 ∧ AR h2 567 (apP p x d).2 (apP p x d).1 := by
  intro d
  induction d with
  | zero =>
    intro p h n hn hd s h0 hc e A
    obtain ⟨n, rfl⟩ : ∃ z, n = z + 1 := ⟨n - 1, by omega⟩
    refine ⟨h, ?_, FZ.rf, e, A⟩
    show f_X8_append_B87 (f_X8_append_L87 n) h 1 x (iN (8 * ((0 : Nat) : Int) - 8)) = _
    unfold f_X8_append_B87
    rw [if_pos ((iN_lt0 (by omega) (by omega)).mpr (by omega)), chk_pos s.o1, s.t8, chk_pos s.o8, e]
    rfl
  | succ d ih =>
    intro p h n hn hd s h0 hc e A
    obtain ⟨n, rfl⟩ : ∃ z, n = z + 1 := ⟨n - 1, by omega⟩
    have zb := byZ_bd x d
    have cb := cntK_bd x d
    rw [cntK] at hc
    rw [sh8, apP]
    by_cases z : byZ x d = 0
    · rw [if_pos z] at hc ⊢
      obtain ⟨h2, e2, f2, q2, a2⟩ := ih p h n (by omega) (by omega) s h0 (by omega) e A
      refine ⟨h2, ?_, f2, q2, a2⟩
      show f_X8_append_B87 (f_X8_append_L87 n) h 1 x (iN (8 * (d : Int))) = _
      unfold f_X8_append_B87 f_X5_push
      rw [if_neg (fun z => by have := (iN_lt0 (by omega) (by omega)).mp z; omega), chk_pos s.o1, s.t8, chk_pos s.o8, by_fold, if_pos ((iN_eq0 (by omega) (by omega)).mpr z), bnd_ret, iN_add, show 8 * (d : Int) + -8 = 8 * (d : Int) - 8 by omega, e2]
    · rw [if_neg z] at hc ⊢
      obtain ⟨p1, p2⟩ := p
      have h0' : 0 ≤ p2 := h0
      have hc' : p2 + (1 + cntK x d) ≤ 60 := hc
      have e' : qI h 566 1 = iN p2 := e
      obtain ⟨h2, e2, f2, q2, a2⟩ := ih (up p1 p2 (byZ x d), p2 + 1) (putI (putI h 567 p2.toNat (iN (byZ x d))) 566 1 (iN (p2 + 1))) n (by omega) (by omega) s.pI.pI (by show 0 ≤ p2 + 1; omega) (by show p2 + 1 + cntK x d ≤ 60; omega) rd_eq ((AR.ap A h0').ne (by omega))
      refine ⟨h2, ?_, ((FZ.pI (by omega)).tr (FZ.pI (by omega))).tr f2, q2, a2⟩
      have ch := ch_at (z := byZ x d) (by omega)
      have s8 := s.2.2.2.2.1
      show f_X8_append_B87 (f_X8_append_L87 n) h 1 x (iN (8 * (d : Int))) = _
      unfold f_X8_append_B87 f_X5_push
      rw [if_neg (fun z => by have := (iN_lt0 (by omega) (by omega)).mp z; omega), chk_pos s.o1, s.t8, chk_pos s.o8, by_fold, if_neg (eN0 z (by omega) (by omega)), chk_pos s.o8, e', if_neg (nleN (by omega) (by omega) (by omega)), s8.2.1, chk_pos s8.2.2.2.1, s8.2.2.2.2.1, ck_in (by omega) (by omega) (by omega), ch.1, chk_pos ch.2, lt_is, iN_cl (by omega) (by omega), lt_is, rd_ne (by omega), e', iN_add, bnd_ret, iN_add, show 8 * (d : Int) + -8 = 8 * (d : Int) - 8 by omega, e2]
theorem g_apL9 {h : Hp} (s : SL h) {L : Int} (hL : 0 ≤ L ∧ L ≤ 60) (e1 : qI h 632 6 = iN L) {x : Int32} : ∀ (d n : Nat) (a : Int), d < n → d ≤ 4 → 0 ≤ a → a + d ≤ 8 → f_X9_append_L10 n h 632 x (iN a) (iN (8 * (d : Int) - 8)) = if allK x d = true then (if L + (a + cntK x d) ≤ 60 then f_X9_append_L85 2000 h 632 x (iN 24) else some (putI h 632 0 (iN 2), .inr (iN 0))) else some (putI h 632 0 (iN 1), .inr (iN 0)) := by
  intro d
  induction d with
  | zero =>
    intro n a hn hd h1 h2
    obtain ⟨n, rfl⟩ : ∃ z, n = z + 1 := ⟨n - 1, by omega⟩
    show f_X9_append_B10 (f_X9_append_L10 n) h 632 x (iN a) (iN (8 * ((0 : Nat) : Int) - 8)) = _
    unfold f_X9_append_B10
    rw [if_pos ((iN_lt0 (by omega) (by omega)).mpr (by omega)), chk_pos s.m.1, e1, iN_add, allK, cntK, if_pos rfl, Int.add_zero]
    by_cases p : L + a ≤ 60
    · rw [if_pos (yleN (by omega) (by omega) (by omega)), if_pos p]
    · rw [if_neg (nleN (by omega) (by omega) (by omega)), g_fails s, bnd_ret, if_neg p]
  | succ d ih =>
    intro n a hn hd h1 h2
    obtain ⟨n, rfl⟩ : ∃ z, n = z + 1 := ⟨n - 1, by omega⟩
    have zb := byZ_bd x d
    have i1 := ih n (a + 0) (by omega) (by omega) (by omega) (by omega)
    have i2 := ih n (a + 1) (by omega) (by omega) (by omega) (by omega)
    rw [sh8]
    show f_X9_append_B10 (f_X9_append_L10 n) h 632 x (iN a) (iN (8 * (d : Int))) = _
    unfold f_X9_append_B10 f_X9_append_L46 f_X9_append_L57
    rw [if_neg (fun z => by have := (iN_lt0 (by omega) (by omega)).mp z; omega), by_fold, g_in ⟨(by omega), (by omega)⟩ ⟨(by omega), (by omega)⟩ ⟨(by omega), (by omega)⟩, bnd_ret, chk_pos s.m.1, g_fails s, bnd_ret, iN_add, iN_add, iN_add, allK, cntK]
    rw [show 8 * (d : Int) + -8 = 8 * (d : Int) - 8 by omega]
    by_cases z : byZ x d = 0
    · rw [if_pos ((iN_eq0 (by omega) (by omega)).mpr z), if_pos ((iN_eq0 (by omega) (by omega)).mpr z), if_pos z, i1, decide_eq_true (show okZ (byZ x d) from Or.inl z), Bool.true_and, show a + 0 + cntK x d = a + (0 + cntK x d) by omega]
    · rw [if_neg (eN0 z (by omega) (by omega)), if_neg (eN0 z (by omega) (by omega)), if_neg z]
      by_cases q : 33 ≤ byZ x d ∧ byZ x d ≤ 126
      · rw [if_neg (fun y => bN0.mp y q), i2, decide_eq_true (show okZ (byZ x d) from Or.inr q), Bool.true_and, show a + 1 + cntK x d = a + (1 + cntK x d) by omega]
      · rw [if_pos (bN0.mpr q), decide_eq_false (show ¬ okZ (byZ x d) by omega), Bool.false_and, if_neg (by decide)]
theorem g_apP9 {x : Int32} : ∀ (d : Nat) (p : TP) (h : Hp) (n : Nat), d < n → d ≤ 4 → SL h → 0 ≤ p.2 → p.2 + cntK x d ≤ 60 → qI h 632 6 = iN p.2 → AR h 636 p.2 p.1 →
    ∃ h2, f_X9_append_L85 n h 632 x (iN (8 * (d : Int) - 8)) = some (h2, .inr (iN (apP p x d).2)) ∧ FZ (fun x j => (x = 632 ∧ j = 6) ∨ x = 636) h h2 ∧ qI h2 632 6 = iN (apP p x d).2 ∧ AR h2 636 (apP p x d).2 (apP p x d).1 := by
  intro d
  induction d with
  | zero =>
    intro p h n hn hd s h0 hc e A
    obtain ⟨n, rfl⟩ : ∃ z, n = z + 1 := ⟨n - 1, by omega⟩
    refine ⟨h, ?_, FZ.rf, e, A⟩
    show f_X9_append_B85 (f_X9_append_L85 n) h 632 x (iN (8 * ((0 : Nat) : Int) - 8)) = _
    unfold f_X9_append_B85
    rw [if_pos ((iN_lt0 (by omega) (by omega)).mpr (by omega)), chk_pos s.m.1, e]
    rfl
  | succ d ih =>
    intro p h n hn hd s h0 hc e A
    obtain ⟨n, rfl⟩ : ∃ z, n = z + 1 := ⟨n - 1, by omega⟩
    have zb := byZ_bd x d
    have cb := cntK_bd x d
    rw [cntK] at hc
    rw [sh8, apP]
    by_cases z : byZ x d = 0
    · rw [if_pos z] at hc ⊢
      obtain ⟨h2, e2, f2, q2, a2⟩ := ih p h n (by omega) (by omega) s h0 (by omega) e A
      refine ⟨h2, ?_, f2, q2, a2⟩
      show f_X9_append_B85 (f_X9_append_L85 n) h 632 x (iN (8 * (d : Int))) = _
      unfold f_X9_append_B85 f_X9_append_L125
      rw [if_neg (fun z => by have := (iN_lt0 (by omega) (by omega)).mp z; omega), by_fold, if_pos ((iN_eq0 (by omega) (by omega)).mpr z), iN_add, show 8 * (d : Int) + -8 = 8 * (d : Int) - 8 by omega, e2]
    · rw [if_neg z] at hc ⊢
      obtain ⟨p1, p2⟩ := p
      have h0' : 0 ≤ p2 := h0
      have hc' : p2 + (1 + cntK x d) ≤ 60 := hc
      have e' : qI h 632 6 = iN p2 := e
      obtain ⟨h2, e2, f2, q2, a2⟩ := ih (up p1 p2 (byZ x d), p2 + 1) (putI (putI h 636 p2.toNat (iN (byZ x d))) 632 6 (iN (p2 + 1))) n (by omega) (by omega) s.pI.pI (by show 0 ≤ p2 + 1; omega) (by show p2 + 1 + cntK x d ≤ 60; omega) rd_eq ((AR.ap A h0').ne (by omega))
      refine ⟨h2, ?_, ((FZ.pI (by omega)).tr (FZ.pI (by omega))).tr f2, q2, a2⟩
      show f_X9_append_B85 (f_X9_append_L85 n) h 632 x (iN (8 * (d : Int))) = _
      unfold f_X9_append_B85 f_X9_append_L125
      rw [if_neg (fun z => by have := (iN_lt0 (by omega) (by omega)).mp z; omega), by_fold, if_neg (eN0 z (by omega) (by omega)), chk_pos s.m.1, s.m.r5, chk_pos s.m.o5, e', s.m.w5, ck_in (by omega) (by omega) (by omega), lt_is, iN_cl (by omega) (by omega), lt_is, rd_ne (by omega), e', iN_add, iN_add, show 8 * (d : Int) + -8 = 8 * (d : Int) - 8 by omega, e2]
/-- signs are appended -/
def apR (R : Rst) (x : Int32) : Rst := (rH R, rV R, (apP (rB R, rL R) x 4).1, (apP (rB R, rL R) x 4).2, rE R, rK R, rZ R, rF R, rC R)
theorem o_append {h : Hp} {D : Dt} (wd : WD D) (s : SL h) (c : CI h D) {x : Int32} : OpP h D (f_L_append h 1 x 656) (fun h1 => f_X9_append h1 632 x) := by
  have hL := wd.2.2.1
  obtain ⟨c0, c1, ⟨c2, c3, c4⟩, c5⟩ := c.2
  have cls := g_apL s hL c2 (x := x) 4 2000 0 (by omega) (by omega) (by omega) (by omega)
  have cls' : f_X8_append h 1 x = if allK x 4 = true then (if rL D.2 + (0 + cntK x 4) ≤ 60 then f_X8_append_L87 2000 h 1 x (iN 24) else some (bump h, .inl 0)) else some (bump h, .inl 1) := cls
  have ref : ∀ h1, SL h1 → RI (putI h1 632 0 (iN 0)) D → SL (putI h1 632 0 (iN 0)) → f_X9_append h1 632 x = if allK x 4 = true then (if rL D.2 + (0 + cntK x 4) ≤ 60 then f_X9_append_L85 2000 (putI h1 632 0 (iN 0)) 632 x (iN 24) else some (putI (putI h1 632 0 (iN 0)) 632 0 (iN 2), .inr (iN 0))) else some (putI (putI h1 632 0 (iN 0)) 632 0 (iN 1), .inr (iN 0)) := fun h1 s1 r0 s0 => by
    have := g_apL9 s0 hL r0.2.2.2.1.1 (x := x) 4 2000 0 (by omega) (by omega) (by omega) (by omega)
    unfold f_X9_append
    rw [chk_pos s1.m.1, lt_is]
    exact this
  by_cases q : allK x 4 = true
  · rw [if_pos q] at cls'
    by_cases p : rL D.2 + (0 + cntK x 4) ≤ 60
    · rw [if_pos p] at cls'
      have cb := cntK_bd x 4
      obtain ⟨k1, k2⟩ := apP_ok 4 (rB D.2, rL D.2) q hL.1 wd.2.2.2.2.1
      obtain ⟨h2, e2, f2, q2, a2⟩ := g_apP (x := x) 4 (rB D.2, rL D.2) h 2000 (by omega) (by omega) s hL.1 (by show rL D.2 + _ ≤ 60; omega) c2 c4
      have e2' : f_X8_append_L87 2000 h 1 x (iN 24) = some (h2, .inr (iN (apP (rB D.2, rL D.2) x 4).2)) := e2
      have k1' : (apP (rB D.2, rL D.2) x 4).2 = rL D.2 + cntK x 4 := k1
      have wr : WR (apR D.2 x) := by
        obtain ⟨w1, w2, w3, w4, w5, w6⟩ := wd.2
        refine ⟨w1, ?_, w3, k2, w5, w6⟩
        show 0 ≤ (apP (rB D.2, rL D.2) x 4).2 ∧ (apP (rB D.2, rL D.2) x 4).2 ≤ 60
        omega
      have fn : Fnd h h2 (D.1, apR D.2 x) := ⟨s.ly f2.1, ⟨c.1.fz wd.1.1.2.2.2.2.2 f2 (fun x j x1 x2 => by omega), ⟨(f2.2 _ _ (by omega)).trans c0, fun z => (c1 z).fz (wd.2.1 z).1.2.2.2.2.2 f2 (fun x j x1 x2 => by omega), ⟨q2, (f2.2 _ _ (by omega)).trans c3, a2⟩, fun c hc => (c5 c hc).fz f2 (fun x j x1 x2 => by omega)⟩⟩, fun x j z => f2.2 x j (by omega), f2.qc.1, f2.qc.2⟩
      refine OpP.G (apP (rB D.2, rL D.2) x 4).2 (D2 := (D.1, apR D.2 x)) ⟨wd.1, wr⟩ fn ?_ (fun h1 s1 r1 s0 r0 rm => ?_)
      · unfold f_L_append
        rw [chk_pos s.o1, cls', e2', bndX_ret]
      · obtain ⟨h4, e4, f4, q4, a4⟩ := g_apP9 (x := x) 4 (rB D.2, rL D.2) (putI h1 632 0 (iN 0)) 2000 (by omega) (by omega) s0 hL.1 (by show rL D.2 + _ ≤ 60; omega) r0.2.2.2.1.1 r0.2.2.2.1.2.2
        refine ⟨h4, ?_, f4.mo (fun z j y => by omega), r0.1.fz f4 (fun j => by omega), ⟨(f4.2 _ _ (by omega)).trans r0.2.1, fun z => (r0.2.2.1 z).fz f4 (fun j => by omega), ⟨q4, (f4.2 _ _ (by omega)).trans r0.2.2.2.1.2.1, a4⟩, r0.2.2.2.2.1.fz f4 (fun j => by omega), r0.2.2.2.2.2.1.fz f4 (fun j => by omega), r0.2.2.2.2.2.2.1.fz f4 (fun j => by omega), r0.2.2.2.2.2.2.2.fz f4 (fun j => by omega)⟩⟩
        rw [ref h1 s1 r0 s0, if_pos q, if_pos p]
        exact e4
    · rw [if_neg p] at cls'
      refine OpP.G' 2 (by omega) wd s c ?_ (fun h1 s1 r1 s0 r0 rm => ?_)
      · unfold f_L_append
        rw [chk_pos s.o1, cls', bndX_thr, if_neg (by decide), if_pos rfl]
      · rw [ref h1 s1 r0 s0, if_pos q, if_neg p]
  · rw [if_neg q] at cls'
    refine OpP.G' 1 (by omega) wd s c ?_ (fun h1 s1 r1 s0 r0 rm => ?_)
    · unfold f_L_append
      rw [chk_pos s.o1, cls', bndX_thr, if_pos rfl]
    · rw [ref h1 s1 r0 s0, if_neg q]
