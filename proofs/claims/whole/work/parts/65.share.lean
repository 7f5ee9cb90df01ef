/-! ===== STAGE B: sharing ===== -/
def shT (wt : Int → Int) (K : Int) : Int := sumF wt 0 K.toNat
def shP (a : Int) (wt : Int → Int) (K c : Int) : Int := if 0 < shT wt K then a * wt c / shT wt K else 0
def shL (a : Int) (wt : Int → Int) (K : Int) : Nat → Int
  | 0 => a - sumF (shP a wt K) 0 K.toNat
  | k + 1 => if 0 < shL a wt K k ∧ 0 < wt k then shL a wt K k - 1 else shL a wt K k
def shX (a : Int) (wt : Int → Int) (K c : Int) : Int := if 0 < shL a wt K c.toNat ∧ 0 < wt c then 1 else 0
def shF (a : Int) (wt : Int → Int) (K c : Int) : Int := shP a wt K c + shX a wt K c
/-- weights and an amount of sharing's size -/
def SW (a : Int) (wt : Int → Int) (K : Int) : Prop := (0 ≤ a ∧ a ≤ 5000) ∧ (1 ≤ K ∧ K ≤ 4) ∧ ∀ c, 0 ≤ c → c < K → 0 ≤ wt c ∧ wt c ≤ 200000
theorem shT_bd {a : Int} {wt : Int → Int} {K : Int} (s : SW a wt K) : 0 ≤ shT wt K ∧ shT wt K ≤ 800000 := by
  obtain ⟨s1, s2, s3⟩ := s
  have := sumF_bd (F := wt) (B := 200000) K.toNat (fun j _ z2 => s3 j (by omega) (by omega))
  unfold shT
  omega
theorem sumF_ge {F : Int → Int} : ∀ (n : Nat), (∀ j : Nat, j < n → 0 ≤ F j) → ∀ j : Nat, j < n → F j ≤ sumF F 0 n
  | 0, _, j, hj => by omega
  | n + 1, h, j, hj => by
    have h1 := h n (by omega)
    rw [sumF, show (0 : Int) + (n : Int) = n by omega]
    by_cases e : j = n
    · subst e
      have : 0 ≤ sumF F 0 j := by
        clear hj h1
        have : ∀ n : Nat, n ≤ j → 0 ≤ sumF F 0 n := by
          intro n
          induction n with
          | zero => intro _; rw [sumF]; omega
          | succ n ih =>
            intro hn
            have := ih (by omega)
            have := h n (by omega)
            rw [sumF, show (0 : Int) + (n : Int) = n by omega]
            omega
        exact this j (Nat.le_refl _)
      omega
    · have := sumF_ge n (fun j hj => h j (by omega)) j (by omega)
      omega
theorem shP_bd {a : Int} {wt : Int → Int} {K : Int} (s : SW a wt K) {c : Int} (hc : 0 ≤ c ∧ c < K) : 0 ≤ shP a wt K c ∧ shP a wt K c ≤ a := by
  obtain ⟨s1, s2, s3⟩ := s
  have h1 := s3 c hc.1 hc.2
  have h2 : 0 ≤ a * wt c := Int.mul_nonneg s1.1 h1.1
  have hle : wt c ≤ shT wt K := by
    have := sumF_ge (F := wt) K.toNat (fun j hj => (s3 j (by omega) (by omega)).1) c.toNat (by omega)
    rw [Int.toNat_of_nonneg hc.1] at this
    exact this
  unfold shP
  by_cases h : 0 < shT wt K
  · rw [if_pos h]
    have q1 : 0 ≤ a * wt c / shT wt K := Int.ediv_nonneg h2 (by omega)
    have q2 : a * wt c ≤ a * shT wt K := Int.mul_le_mul_of_nonneg_left hle s1.1
    have q3 : a * wt c / shT wt K ≤ a := by
      have := Int.ediv_le_ediv h q2
      rw [Int.mul_ediv_cancel _ (by omega)] at this
      exact this
    omega
  · rw [if_neg h]; omega
theorem shS_bd {a : Int} {wt : Int → Int} {K : Int} (s : SW a wt K) {n : Nat} (hn : (n : Int) ≤ K) : 0 ≤ sumF (shP a wt K) 0 n ∧ sumF (shP a wt K) 0 n ≤ 20000 := by
  have := s.2.1
  have := s.1
  have := sumF_bd (F := shP a wt K) (B := 5000) n (fun j _ z2 => by have := shP_bd s (c := j) ⟨by omega, by omega⟩; omega)
  omega
theorem shL_bd {a : Int} {wt : Int → Int} {K : Int} (s : SW a wt K) : ∀ n : Nat, -20000 - n ≤ shL a wt K n ∧ shL a wt K n ≤ 5000
  | 0 => by
    have := shS_bd s (n := K.toNat) (by have := s.2.1; omega)
    have := s.1
    rw [shL]
    omega
  | n + 1 => by
    have := shL_bd s n
    rw [shL]
    split <;> omega
theorem shF_bd {a : Int} {wt : Int → Int} {K : Int} (s : SW a wt K) {c : Int} (hc : 0 ≤ c ∧ c < K) : 0 ≤ shF a wt K c ∧ shF a wt K c ≤ a + 1 := by
  have := shP_bd s hc
  unfold shF shX
  split <;> omega
theorem shL_stay {a : Int} {wt : Int → Int} {K : Int} {k : Nat} (h : shL a wt K k ≤ 0) : ∀ d : Nat, shL a wt K (k + d) ≤ 0
  | 0 => h
  | d + 1 => by
    have := shL_stay h d
    rw [show k + (d + 1) = k + d + 1 from rfl, shL, if_neg (fun z => by omega)]
    exact this
/-- the layout of the columns' object C behind its table T -/
def LK (h : Hp) (C T : Nat) : Prop := C = T + 148 ∧ (okr h C 3 ∧ qR h C 0 = T ∧ qR h C 1 = C + 1 ∧ qR h C 2 = C + 2 ∧ qR h C 3 = C + 3 ∧ qR h C 4 = C + 4 ∧ qR h C 5 = C + 9 ∧ qR h C 6 = C + 10 ∧ qR h C 8 = C + 11) ∧
  (okr h (C + 1) 20 ∧ okr h (C + 2) 20 ∧ okr h (C + 3) 20 ∧ okr h (C + 4) 24 ∧ okr h (C + 9) 20 ∧ okr h (C + 10) 20 ∧ okr h (C + 11) 20) ∧
  (qW h (C + 1) = 4 ∧ qW h (C + 2) = 4 ∧ qW h (C + 3) = 4 ∧ qW h (C + 4) = 4 ∧ qW h (C + 9) = 4 ∧ qW h (C + 10) = 4 ∧ qW h (C + 11) = 4) ∧
  ∀ g, g < 4 → qR h (C + 4) g = C + 5 + g ∧ okr h (C + 5 + g) 20 ∧ qW h (C + 5 + g) = 4
theorem LK.ly {h h' : Hp} {C T : Nat} (a : Ly h h') (l : LK h C T) : LK h' C T := by
  obtain ⟨h0, h1, h2, h3, h4⟩ := l
  unfold LK
  rw [a.ok, a.ok, a.ok, a.ok, a.ok, a.ok, a.ok, a.ok, a.2.2.1, a.2.2.2.1]
  exact ⟨h0, h1, h2, h3, fun g hg => ⟨(h4 g hg).1, a.ok.mpr (h4 g hg).2.1, (h4 g hg).2.2⟩⟩
theorem LK.o {h : Hp} {C T : Nat} (l : LK h C T) : okr h C 3 := l.2.1.1
theorem LK.r0 {h : Hp} {C T : Nat} (l : LK h C T) : qR h C 0 = T := l.2.1.2.1
theorem LK.r1 {h : Hp} {C T : Nat} (l : LK h C T) : qR h C 1 = C + 1 := l.2.1.2.2.1
theorem LK.r2 {h : Hp} {C T : Nat} (l : LK h C T) : qR h C 2 = C + 2 := l.2.1.2.2.2.1
theorem LK.r3 {h : Hp} {C T : Nat} (l : LK h C T) : qR h C 3 = C + 3 := l.2.1.2.2.2.2.1
theorem LK.r4 {h : Hp} {C T : Nat} (l : LK h C T) : qR h C 4 = C + 4 := l.2.1.2.2.2.2.2.1
theorem LK.r5 {h : Hp} {C T : Nat} (l : LK h C T) : qR h C 5 = C + 9 := l.2.1.2.2.2.2.2.2.1
theorem LK.r6 {h : Hp} {C T : Nat} (l : LK h C T) : qR h C 6 = C + 10 := l.2.1.2.2.2.2.2.2.2.1
theorem LK.r8 {h : Hp} {C T : Nat} (l : LK h C T) : qR h C 8 = C + 11 := l.2.1.2.2.2.2.2.2.2.2
theorem LK.o1 {h : Hp} {C T : Nat} (l : LK h C T) : okr h (C + 1) 20 := l.2.2.1.1
theorem LK.w1 {h : Hp} {C T : Nat} (l : LK h C T) : qW h (C + 1) = 4 := l.2.2.2.1.1
theorem LK.o2 {h : Hp} {C T : Nat} (l : LK h C T) : okr h (C + 2) 20 := l.2.2.1.2.1
theorem LK.w2 {h : Hp} {C T : Nat} (l : LK h C T) : qW h (C + 2) = 4 := l.2.2.2.1.2.1
theorem LK.o3 {h : Hp} {C T : Nat} (l : LK h C T) : okr h (C + 3) 20 := l.2.2.1.2.2.1
theorem LK.w3 {h : Hp} {C T : Nat} (l : LK h C T) : qW h (C + 3) = 4 := l.2.2.2.1.2.2.1
theorem LK.o4 {h : Hp} {C T : Nat} (l : LK h C T) : okr h (C + 4) 24 := l.2.2.1.2.2.2.1
theorem LK.w4 {h : Hp} {C T : Nat} (l : LK h C T) : qW h (C + 4) = 4 := l.2.2.2.1.2.2.2.1
theorem LK.o9 {h : Hp} {C T : Nat} (l : LK h C T) : okr h (C + 9) 20 := l.2.2.1.2.2.2.2.1
theorem LK.w9 {h : Hp} {C T : Nat} (l : LK h C T) : qW h (C + 9) = 4 := l.2.2.2.1.2.2.2.2.1
theorem LK.o10 {h : Hp} {C T : Nat} (l : LK h C T) : okr h (C + 10) 20 := l.2.2.1.2.2.2.2.2.1
theorem LK.w10 {h : Hp} {C T : Nat} (l : LK h C T) : qW h (C + 10) = 4 := l.2.2.2.1.2.2.2.2.2.1
theorem LK.o11 {h : Hp} {C T : Nat} (l : LK h C T) : okr h (C + 11) 20 := l.2.2.1.2.2.2.2.2.2
theorem LK.w11 {h : Hp} {C T : Nat} (l : LK h C T) : qW h (C + 11) = 4 := l.2.2.2.1.2.2.2.2.2.2
theorem LK.ct {h : Hp} {C T : Nat} (l : LK h C T) : C = T + 148 := l.1
/-- what the columns' object may write: its own cells -/
def pC (C x _j : Nat) : Prop := C ≤ x ∧ x ≤ C + 11
/-- one array -/
def pA (a x _j : Nat) : Prop := x = a
theorem FZ.pa {h : Hp} {a k : Nat} {v : Int32} : FZ (pA a) h (putI h a k v) := FZ.pI rfl
theorem g_shareL3 {C T arr : Nat} {m wt W : Int → Int} {a : Int} (hm : (1 ≤ m 0 ∧ m 0 ≤ 4) ∧ 0 ≤ m 5 ∧ m 5 ≤ 16) (s : SW a wt (m 0)) (hA : C ≤ arr) (hA2 : arr ≠ C + 11) : ∀ (d k : Nat) (h : Hp) (n : Nat), (k : Int) + d = m 0 → d < n → LK h C T → TM h T m → okr h arr 20 → qW h arr = 4 → AR h (C + 11) (m 0) wt → AR h arr (m 0) (fun c => W c + shP a wt (m 0) c + (if c < k then shX a wt (m 0) c else 0)) →
    (∀ c, 0 ≤ c → c < m 0 → 0 ≤ W c ∧ W c ≤ 1000000) →
    ∃ h2, f_X3_share_L94 n h C arr (iN (shL a wt (m 0) k)) (iN k) = some (h2, .inr ()) ∧ FZ (pA arr) h h2 ∧ AR h2 arr (m 0) (fun c => W c + shF a wt (m 0) c) := by
  intro d
  induction d with
  | zero =>
    intro k h n hk hn l t oa wa B A hW
    obtain ⟨n, rfl⟩ : ∃ z, n = z + 1 := ⟨n - 1, by omega⟩
    refine ⟨h, ?_, FZ.rf, A.cg (fun c z1 z2 => ?_)⟩
    · show f_X3_share_B94 (f_X3_share_L94 n) h C arr _ (iN k) = _
      unfold f_X3_share_B94
      rw [chk_pos l.o, l.r0, chk_pos t.1.o, t.cs, if_pos (yleN (by omega) (by omega) (by omega))]
    · unfold shF
      rw [if_pos (by omega)]
      omega
  | succ d ih =>
    intro k h n hk hn l t oa wa B A hW
    obtain ⟨n, rfl⟩ : ∃ z, n = z + 1 := ⟨n - 1, by omega⟩
    have lb := shL_bd s k
    have pb := shP_bd s (c := k) (by omega)
    have sa := s.1
    have wb := s.2.2 k (by omega) (by omega)
    have Wb := hW k (by omega) (by omega)
    have ct := l.ct
    have bk := B k (by omega) (by omega)
    have ak := A k (by omega) (by omega)
    simp only [Int.lt_irrefl, if_false, Int.add_zero] at ak
    show ∃ h2, f_X3_share_B94 (f_X3_share_L94 n) h C arr _ (iN k) = _ ∧ _
    unfold f_X3_share_B94 f_X3_share_L132
    rw [chk_pos l.o, l.r0, chk_pos t.1.o, t.cs, if_neg (nleN (by omega) (by omega) (by omega))]
    by_cases hl : shL a wt (m 0) k ≤ 0
    · refine ⟨h, by rw [if_pos ((iN_le0 (by omega) (by omega)).mpr hl)], FZ.rf, A.cg (fun c z1 z2 => ?_)⟩
      unfold shF
      by_cases hc : c < k
      · rw [if_pos hc]; omega
      · rw [if_neg hc]
        have := shL_stay (a := a) (wt := wt) (K := m 0) hl (c.toNat - k)
        rw [show k + (c.toNat - k) = c.toNat by omega] at this
        unfold shX
        rw [if_neg (fun z => by omega)]
        omega
    · rw [if_neg (fun z => hl ((iN_le0 (by omega) (by omega)).mp z)), l.r8, chk_pos l.o11, l.w11, ck_in (by omega) (by omega) (by omega), iN_cl (by omega) (by omega), bk]
      by_cases hw : wt k ≤ 0
      · have e : shL a wt (m 0) (k + 1) = shL a wt (m 0) k := by rw [shL, if_neg (fun z => by omega)]
        obtain ⟨h2, e2, f2, a2⟩ := ih (k + 1) h n (by omega) (by omega) l t oa wa B (A.cg (fun c z1 z2 => by
          by_cases hc : c < k
          · rw [if_pos hc, if_pos (by omega)]
          · rw [if_neg hc]
            by_cases hc2 : c = k
            · rw [if_pos (by omega)]
              unfold shX
              rw [if_neg (fun z => by rw [hc2] at z; omega)]
            · rw [if_neg (by omega)])) hW
        refine ⟨h2, ?_, f2, a2⟩
        rw [if_pos ((iN_le0 (by omega) (by omega)).mpr hw), iN_add]
        rw [e] at e2
        exact e2
      · have e : shL a wt (m 0) (k + 1) = shL a wt (m 0) k - 1 := by rw [shL, if_pos (by omega)]
        have fa : FZ (pA arr) h (putI h arr (k : Int).toNat (iN (W k + shP a wt (m 0) k + 1))) := FZ.pa
        have A' := A.put (k := k) (v := W k + shP a wt (m 0) k + 1) (by omega)
        obtain ⟨h2, e2, f2, a2⟩ := ih (k + 1) _ n (by omega) (by omega) (l.ly fa.1) (t.fz hm.2 fa (fun x j z1 z2 z3 => by unfold pA at z3; omega)) oa wa (B.ne (fun z => hA2 z.symm)) (A'.cg (fun c z1 z2 => by
          unfold up
          by_cases hc2 : c = k
          · rw [if_pos hc2, if_pos (by omega), hc2]
            unfold shX
            rw [if_pos (by rw [Int.toNat_natCast]; omega)]
          · rw [if_neg hc2]
            dsimp only
            by_cases hc : c < k
            · rw [if_pos hc, if_pos (by omega)]
            · rw [if_neg hc, if_neg (by omega)])) hW
        refine ⟨h2, ?_, fa.tr f2, a2⟩
        rw [if_neg (fun z => hw ((iN_le0 (by omega) (by omega)).mp z)), chk_pos oa, wa, ck_in (by omega) (by omega) (by omega), ak, iN_add, lt_is, iN_add, iN_add]
        rw [e] at e2
        exact e2
