/-! ===== STAGE B: calls of both sides: narrowest, improvements, improvement, heightFor, conflicts, errorPosition ===== -/
theorem g_narL {D : Dt} (wd : WD D) {u : Int} (hu : InR u) : ∀ (d : Nat) (x : Int) (h : Hp) (n : Nat), x + d = 37 → d < n → 8 ≤ x → SL h → CI h D →
    ∃ h2 z, f_X8_narrowest_L3 n h 1 (iN u) (iN x) = (if z = 37 then some (bump h2, .inl 5) else some (h2, .inr (iN z))) ∧ Stq h h2 D ∧ LsT (fun y => 0 ≤ lhF D.1 1000000 y ∧ lhF D.1 1000000 y ≤ u) x 37 z := by
  unfold InR at hu
  intro d
  induction d with
  | zero =>
    intro x h n hx hn h8 s c
    obtain ⟨n, rfl⟩ : ∃ z, n = z + 1 := ⟨n - 1, by omega⟩
    refine ⟨h, 37, ?_, Stq.rf s c, LsT.nil (by omega)⟩
    show f_X8_narrowest_B3 (f_X8_narrowest_L3 n) h 1 (iN u) (iN x) = _
    unfold f_X8_narrowest_B3
    rw [if_pos (yltN (by omega) (by omega) (by omega)), if_pos rfl]
  | succ d ih =>
    intro x h n hx hn h8 s c
    obtain ⟨n, rfl⟩ : ∃ z, n = z + 1 := ⟨n - 1, by omega⟩
    obtain ⟨h2, e2, st⟩ := g_leastS wd s c (x := x) (by omega)
    have lb := lh_bd wd.1 (L := 1000000) (x := x) (by omega)
    by_cases p : 0 ≤ lhF D.1 1000000 x ∧ lhF D.1 1000000 x ≤ u
    · refine ⟨h2, x, ?_, st, LsT.hit p (by omega)⟩
      show f_X8_narrowest_B3 (f_X8_narrowest_L3 n) h 1 (iN u) (iN x) = _
      unfold f_X8_narrowest_B3
      rw [if_neg (nltN (by omega) (by omega) (by omega)), chk_pos s.o1, s.t2, chk_pos s.u.o, e2, bnd_ret, if_neg (fun z => by have := (iN_lt0 (by omega) (by omega)).mp z; omega), if_neg (nltN (by omega) (by omega) (by omega)), if_neg (by omega)]
    · obtain ⟨h4, z, e4, st4, l4⟩ := ih (x + 1) h2 n (by omega) (by omega) (by omega) st.1 st.2.1
      refine ⟨h4, z, ?_, st.tr st4, l4.nx p⟩
      show f_X8_narrowest_B3 (f_X8_narrowest_L3 n) h 1 (iN u) (iN x) = _
      unfold f_X8_narrowest_B3 f_X8_narrowest_L29
      rw [if_neg (nltN (by omega) (by omega) (by omega)), chk_pos s.o1, s.t2, chk_pos s.u.o, e2, bnd_ret, iN_add]
      by_cases p2 : lhF D.1 1000000 x < 0
      · rw [if_pos ((iN_lt0 (by omega) (by omega)).mpr p2), e4]
      · rw [if_neg (fun z => by have := (iN_lt0 (by omega) (by omega)).mp z; omega), if_pos (yltN (by omega) (by omega) (by omega)), e4]
theorem g_narL9 {m : Int → Int} (w : WF m) {u : Int} (hu : InR u) : ∀ (d : Nat) (x : Int) (h : Hp) (n : Nat), x + d = 37 → d < n → 8 ≤ x → SL h → RM h 632 m → HT h 632 m (m 5) →
    ∃ h2 z, f_X9_narrowest_L12 n h 632 (iN u) (iN x) = (if z = 37 then some (putI h2 632 0 (iN 1), .inr (iN 0)) else some (h2, .inr (iN z))) ∧ FZ (pX 632) h h2 ∧ LsT (fun y => 0 ≤ lhF m 1000000 y ∧ lhF m 1000000 y ≤ u) x 37 z := by
  unfold InR at hu
  intro d
  induction d with
  | zero =>
    intro x h n hx hn h8 s r ht
    obtain ⟨n, rfl⟩ : ∃ z, n = z + 1 := ⟨n - 1, by omega⟩
    refine ⟨h, 37, ?_, FZ.rf, LsT.nil (by omega)⟩
    show f_X9_narrowest_B12 (f_X9_narrowest_L12 n) h 632 (iN u) (iN x) = _
    unfold f_X9_narrowest_B12
    rw [if_pos (yltN (by omega) (by omega) (by omega)), if_pos rfl, chk_pos s.m.1, g_fails s, bnd_ret]
  | succ d ih =>
    intro x h n hx hn h8 s r ht
    obtain ⟨n, rfl⟩ : ∃ z, n = z + 1 := ⟨n - 1, by omega⟩
    obtain ⟨h2, e2, f2, t2⟩ := g_highAt w (x := x) (by omega) r ht
    have lb := lh_bd w (L := 1000000) (x := x) (by omega)
    by_cases p : 0 ≤ lhF m 1000000 x ∧ lhF m 1000000 x ≤ u
    · refine ⟨h2, x, ?_, f2, LsT.hit p (by omega)⟩
      show f_X9_narrowest_B12 (f_X9_narrowest_L12 n) h 632 (iN u) (iN x) = _
      unfold f_X9_narrowest_B12
      rw [if_neg (nltN (by omega) (by omega) (by omega)), chk_pos s.m.1, e2, bnd_ret, if_neg (neN (by omega) (by omega) (by omega) (by omega) (by omega)), if_neg (nltN (by omega) (by omega) (by omega)), if_neg (by omega)]
    · obtain ⟨h4, z, e4, f4, l4⟩ := ih (x + 1) h2 n (by omega) (by omega) (by omega) (s.ly f2.1) (r.x f2) t2
      refine ⟨h4, z, ?_, f2.tr f4, l4.nx p⟩
      show f_X9_narrowest_B12 (f_X9_narrowest_L12 n) h 632 (iN u) (iN x) = _
      unfold f_X9_narrowest_B12 f_X9_narrowest_L36
      rw [if_neg (nltN (by omega) (by omega) (by omega)), chk_pos s.m.1, e2, bnd_ret, iN_add]
      by_cases p2 : lhF m 1000000 x = -1
      · rw [if_pos (by rw [p2]), e4]
      · rw [if_neg (neN p2 (by omega) (by omega) (by omega) (by omega)), if_pos (yltN (by omega) (by omega) (by omega)), e4]
theorem o_narrowest {h : Hp} {D : Dt} (wd : WD D) (s : SL h) (c : CI h D) {x : Int} (hx : InR x) : OpP h D (f_L_narrowest h 1 (iN x) 656) (fun h1 => f_X9_narrowest h1 632 (iN x)) := by
  have w := wd.1
  obtain ⟨h2, z, e2, st, l2⟩ := g_narL wd hx 29 8 h 2000 (by omega) (by omega) (by omega) s c
  have ref : ∀ h1, SL h1 → RM (putI h1 632 0 (iN 0)) 632 D.1 → SL (putI h1 632 0 (iN 0)) → ∃ h2, f_X9_narrowest h1 632 (iN x) = (if z = 37 then some (putI h2 632 0 (iN 1), .inr (iN 0)) else some (h2, .inr (iN z))) ∧ FZ (pX 632) (putI h1 632 0 (iN 0)) h2 := by
    intro h1 s1 rm s0
    obtain ⟨h3, e3, f3, t3⟩ := g_reckons w rm
    obtain ⟨h4, y, e4, f4, l4⟩ := g_narL9 w hx 29 8 h3 2000 (by omega) (by omega) (by omega) (s0.ly f3.1) (rm.x f3.rx) t3
    have ey : y = z := l4.uq l2
    rw [ey] at e4
    refine ⟨h4, ?_, f3.rx.tr f4⟩
    unfold f_X9_narrowest
    rw [chk_pos s1.m.1, lt_is, e3, bnd_ret, e4]
  by_cases zz : z = 37
  · refine OpP.F 1 (by omega) wd st ?_ (fun h1 s1 r1 s0 rm => ?_)
    · unfold f_L_narrowest f_X8_narrowest
      rw [chk_pos s.o1, e2, if_pos zz, bndX_thr, if_pos rfl]
    · obtain ⟨h8, e8, f8⟩ := ref h1 s1 rm s0
      exact ⟨h8, by rw [e8, if_pos zz], f8⟩
  · refine OpP.A z wd st ?_ (fun h1 s1 r1 s0 rm => ?_)
    · unfold f_L_narrowest f_X8_narrowest
      rw [chk_pos s.o1, e2, if_neg zz, bndX_ret]
    · obtain ⟨h8, e8, f8⟩ := ref h1 s1 rm s0
      exact ⟨h8, by rw [e8, if_neg zz], f8⟩
/-- the lowest height of widths from 8 on, -1: none -/
def lwI (m : Int → Int) : Nat → Int
  | 0 => -1
  | k + 1 => if 0 ≤ lhF m 1000000 (8 + (k : Int)) ∧ (lwI m k = -1 ∨ lhF m 1000000 (8 + (k : Int)) < lwI m k) then lhF m 1000000 (8 + (k : Int)) else lwI m k
abbrev gdP (m : Int → Int) (v : Int) (k : Nat) : Prop := 0 ≤ v ∧ (lwI m k = -1 ∨ v < lwI m k)
abbrev imF (m : Int → Int) (k : Nat) : Prop := gdP m (lhF m 1000000 (8 + (k : Int))) k
def nuI (m : Int → Int) : Nat → Int
  | 0 => 0
  | k + 1 => if imF m k then nuI m k + 1 else nuI m k
theorem lwI_bd {m : Int → Int} (w : WF m) : ∀ k : Nat, k ≤ 29 → -1 ≤ lwI m k ∧ lwI m k ≤ 182
  | 0, _ => by rw [lwI]; omega
  | k + 1, hk => by
    have h1 := lwI_bd w k (by omega)
    have h2 := lh_bd w (L := 1000000) (x := 8 + (k : Int)) (by omega)
    rw [lwI]
    split <;> omega
theorem nuI_bd {m : Int → Int} : ∀ k : Nat, 0 ≤ nuI m k ∧ nuI m k ≤ k
  | 0 => by rw [nuI]; omega
  | k + 1 => by
    have h1 := nuI_bd (m := m) k
    rw [nuI]
    split <;> omega
theorem gdP_s {m : Int → Int} (w : WF m) {v : Int} {k : Nat} (hk : k < 29) : gdP m v (k + 1) ↔ gdP m v k ∧ (lhF m 1000000 (8 + (k : Int)) < 0 ∨ v < lhF m 1000000 (8 + (k : Int))) := by
  have h1 := lwI_bd w k (by omega)
  unfold gdP
  rw [lwI]
  split <;> omega
theorem gdP_n {m : Int → Int} (w : WF m) {v : Int} {k : Nat} : ∀ d : Nat, k + d ≤ 29 → ¬ gdP m v k → ¬ gdP m v (k + d)
  | 0, _, h => h
  | d + 1, hd, h => fun z => gdP_n w d (by omega) h ((gdP_s w (show k + d < 29 by omega)).mp z).1
theorem bN_y {p : Prop} [Decidable p] (h : p) : bN p = iN 1 := if_pos h
theorem bN_n {p : Prop} [Decidable p] (h : ¬ p) : bN p = iN 0 := if_neg h
theorem g_impL {D : Dt} (wd : WD D) {K : Nat} (hK : K ≤ 28) {v : Int} (hv : -1 ≤ v ∧ v ≤ 200) : ∀ (d k : Nat) (h : Hp) (n : Nat), k + d = K → d < n → SL h → CI h D →
    ∃ h2, f_X8_isImproving_L23 n h 1 (iN (8 + (K : Int))) (iN v) (bN (gdP D.1 v k)) (iN (8 + (k : Int))) = some (h2, .inr (bN (gdP D.1 v K))) ∧ Stq h h2 D := by
  intro d
  induction d with
  | zero =>
    intro k h n hk hn s c
    obtain ⟨n, rfl⟩ : ∃ z, n = z + 1 := ⟨n - 1, by omega⟩
    obtain rfl : k = K := by omega
    refine ⟨h, ?_, Stq.rf s c⟩
    show f_X8_isImproving_B23 (f_X8_isImproving_L23 n) h 1 (iN (8 + (k : Int))) (iN v) (bN (gdP D.1 v k)) (iN (8 + (k : Int))) = _
    unfold f_X8_isImproving_B23
    rw [ck_b]
    by_cases p : gdP D.1 v k
    · rw [if_neg (fun z => bN0.mp z p), if_pos (yleN (by omega) (by omega) (by omega))]
    · rw [if_pos (bN0.mpr p)]
  | succ d ih =>
    intro k h n hk hn s c
    obtain ⟨n, rfl⟩ : ∃ z, n = z + 1 := ⟨n - 1, by omega⟩
    by_cases p : gdP D.1 v k
    · obtain ⟨h2, e2, st⟩ := g_leastS wd s c (x := 8 + (k : Int)) (by omega)
      have lb := lh_bd wd.1 (L := 1000000) (x := 8 + (k : Int)) (by omega)
      have gs := gdP_s wd.1 (v := v) (k := k) (by omega)
      obtain ⟨h4, e4, st4⟩ := ih (k + 1) h2 n (by omega) (by omega) st.1 st.2.1
      refine ⟨h4, ?_, st.tr st4⟩
      show f_X8_isImproving_B23 (f_X8_isImproving_L23 n) h 1 (iN (8 + (K : Int))) (iN v) (bN (gdP D.1 v k)) (iN (8 + (k : Int))) = _
      unfold f_X8_isImproving_B23 f_X8_isImproving_L55 f_X8_isImproving_L60
      rw [show (8 : Int) + ((k + 1 : Nat) : Int) = 8 + (k : Int) + 1 by omega] at e4
      rw [if_neg (fun z => bN0.mp z p), if_neg (nleN (by omega) (by omega) (by omega)), chk_pos s.o1, s.t2, chk_pos s.u.o, e2, bnd_ret, iN_add]
      by_cases p2 : lhF D.1 1000000 (8 + (k : Int)) < 0
      · rw [if_pos ((iN_lt0 (by omega) (by omega)).mpr p2), ← bN_y (gs.mpr ⟨p, Or.inl p2⟩), e4]
      · rw [if_neg (fun z => by have := (iN_lt0 (by omega) (by omega)).mp z; omega)]
        by_cases p3 : lhF D.1 1000000 (8 + (k : Int)) ≤ v
        · rw [if_pos (yleN (by omega) (by omega) (by omega)), ← bN_n (fun z => by have := (gs.mp z).2; omega), e4]
        · rw [if_neg (nleN (by omega) (by omega) (by omega)), ← bN_y (gs.mpr ⟨p, Or.inr (by omega)⟩), e4]
    · refine ⟨h, ?_, Stq.rf s c⟩
      have pK := gdP_n wd.1 (d + 1) (by omega) p
      rw [hk] at pK
      show f_X8_isImproving_B23 (f_X8_isImproving_L23 n) h 1 (iN (8 + (K : Int))) (iN v) (bN (gdP D.1 v k)) (iN (8 + (k : Int))) = _
      unfold f_X8_isImproving_B23
      rw [ck_b, if_pos (bN0.mpr p), bN_n p, bN_n pK]
theorem g_isImp {h : Hp} {D : Dt} (wd : WD D) (s : SL h) (c : CI h D) {K : Nat} (hK : K ≤ 28) : ∃ h2, f_X8_isImproving h 1 (iN (8 + (K : Int))) = some (h2, .inr (bN (imF D.1 K))) ∧ Stq h h2 D := by
  obtain ⟨h2, e2, st⟩ := g_leastS wd s c (x := 8 + (K : Int)) (by omega)
  have lb := lh_bd wd.1 (L := 1000000) (x := 8 + (K : Int)) (by omega)
  obtain ⟨h4, e4, st4⟩ := g_impL wd hK (v := lhF D.1 1000000 (8 + (K : Int))) (by omega) K 0 h2 2000 (by omega) (by omega) st.1 st.2.1
  refine ⟨h4, ?_, st.tr st4⟩
  unfold f_X8_isImproving f_X8_isImproving_L18
  rw [chk_pos s.o1, s.t2, chk_pos s.u.o, e2, bnd_ret, ← e4]
  by_cases p : 0 ≤ lhF D.1 1000000 (8 + (K : Int))
  · rw [if_neg (fun z => by have := (iN_lt0 (by omega) (by omega)).mp z; omega), bN_y (show gdP D.1 (lhF D.1 1000000 (8 + (K : Int))) 0 from ⟨p, Or.inl rfl⟩)]
    rfl
  · rw [if_pos ((iN_lt0 (by omega) (by omega)).mpr (by omega)), bN_n (show ¬ gdP D.1 (lhF D.1 1000000 (8 + (K : Int))) 0 from fun z => p z.1)]
    rfl
theorem g_imsL {D : Dt} (wd : WD D) : ∀ (d k : Nat) (h : Hp) (n : Nat), k + d = 29 → d < n → SL h → CI h D →
    ∃ h2, f_X8_improvements_L5 n h 1 (iN (nuI D.1 k)) (iN (8 + (k : Int))) = some (h2, .inr (iN (nuI D.1 29))) ∧ Stq h h2 D := by
  intro d
  induction d with
  | zero =>
    intro k h n hk hn s c
    obtain ⟨n, rfl⟩ : ∃ z, n = z + 1 := ⟨n - 1, by omega⟩
    obtain rfl : k = 29 := by omega
    refine ⟨h, ?_, Stq.rf s c⟩
    show f_X8_improvements_B5 (f_X8_improvements_L5 n) h 1 (iN (nuI D.1 29)) (iN (8 + ((29 : Nat) : Int))) = _
    unfold f_X8_improvements_B5
    rw [if_pos (yltN (by omega) (by omega) (by omega))]
  | succ d ih =>
    intro k h n hk hn s c
    obtain ⟨n, rfl⟩ : ∃ z, n = z + 1 := ⟨n - 1, by omega⟩
    obtain ⟨h2, e2, st⟩ := g_isImp wd s c (K := k) (by omega)
    obtain ⟨h4, e4, st4⟩ := ih (k + 1) h2 n (by omega) (by omega) st.1 st.2.1
    refine ⟨h4, ?_, st.tr st4⟩
    show f_X8_improvements_B5 (f_X8_improvements_L5 n) h 1 (iN (nuI D.1 k)) (iN (8 + (k : Int))) = _
    unfold f_X8_improvements_B5 f_X8_improvements_L25
    rw [show (8 : Int) + ((k + 1 : Nat) : Int) = 8 + (k : Int) + 1 by omega, nuI] at e4
    rw [if_neg (nltN (by omega) (by omega) (by omega)), chk_pos s.o1, e2, bnd_ret]
    by_cases p : imF D.1 k
    · rw [if_pos p] at e4
      rw [if_neg (fun z => bN0.mp z p), iN_add, iN_add, e4]
    · rw [if_neg p] at e4
      rw [if_pos (bN0.mpr p), iN_add, iN_add, Int.add_zero, e4]
theorem g_imtL {D : Dt} (wd : WD D) {u : Int} (hu : InR u) : ∀ (d k : Nat) (h : Hp) (n : Nat), k + d = 29 → d < n → SL h → CI h D →
    ∃ h2 z, f_X8_improvement_L5 n h 1 (iN u) (iN (nuI D.1 k)) (iN (8 + (k : Int))) = (if z = 29 then some (bump h2, .inl 5) else some (h2, .inr (iN (8 + z)))) ∧ Stq h h2 D ∧ LsT (fun j => imF D.1 j.toNat ∧ nuI D.1 j.toNat = u) k 29 z := by
  intro d
  induction d with
  | zero =>
    intro k h n hk hn s c
    obtain ⟨n, rfl⟩ : ∃ z, n = z + 1 := ⟨n - 1, by omega⟩
    refine ⟨h, 29, ?_, Stq.rf s c, LsT.nil (by omega)⟩
    show f_X8_improvement_B5 (f_X8_improvement_L5 n) h 1 (iN u) (iN (nuI D.1 k)) (iN (8 + (k : Int))) = _
    unfold f_X8_improvement_B5
    rw [if_pos (yltN (by omega) (by omega) (by omega)), if_pos rfl]
  | succ d ih =>
    intro k h n hk hn s c
    obtain ⟨n, rfl⟩ : ∃ z, n = z + 1 := ⟨n - 1, by omega⟩
    have nb := nuI_bd (m := D.1) k
    obtain ⟨h2, e2, st⟩ := g_isImp wd s c (K := k) (by omega)
    obtain ⟨h4, z, e4, st4, l4⟩ := ih (k + 1) h2 n (by omega) (by omega) st.1 st.2.1
    have tk : ((k : Nat) : Int).toNat = k := by omega
    rw [show (8 : Int) + ((k + 1 : Nat) : Int) = 8 + (k : Int) + 1 by omega, nuI] at e4
    by_cases p : imF D.1 k
    · by_cases p2 : nuI D.1 k = u
      · refine ⟨h2, k, ?_, st, LsT.hit ⟨by rw [tk]; exact p, by rw [tk]; exact p2⟩ (by omega)⟩
        show f_X8_improvement_B5 (f_X8_improvement_L5 n) h 1 (iN u) (iN (nuI D.1 k)) (iN (8 + (k : Int))) = _
        unfold f_X8_improvement_B5
        rw [if_neg (nltN (by omega) (by omega) (by omega)), chk_pos s.o1, e2, bnd_ret, if_neg (fun z => bN0.mp z p), if_pos (by rw [p2]), if_neg (by omega)]
      · refine ⟨h4, z, ?_, st.tr st4, l4.nx (fun y => p2 (by have := y.2; rw [tk] at this; exact this))⟩
        show f_X8_improvement_B5 (f_X8_improvement_L5 n) h 1 (iN u) (iN (nuI D.1 k)) (iN (8 + (k : Int))) = _
        unfold f_X8_improvement_B5 f_X8_improvement_L29
        unfold InR at hu
        rw [if_pos p] at e4
        rw [if_neg (nltN (by omega) (by omega) (by omega)), chk_pos s.o1, e2, bnd_ret, if_neg (fun z => bN0.mp z p), if_neg (neN p2 (by omega) (by omega) (by omega) (by omega)), iN_add, iN_add, e4]
    · refine ⟨h4, z, ?_, st.tr st4, l4.nx (fun y => p (by have := y.1; rw [tk] at this; exact this))⟩
      show f_X8_improvement_B5 (f_X8_improvement_L5 n) h 1 (iN u) (iN (nuI D.1 k)) (iN (8 + (k : Int))) = _
      unfold f_X8_improvement_B5 f_X8_improvement_L29
      rw [if_neg p] at e4
      rw [if_neg (nltN (by omega) (by omega) (by omega)), chk_pos s.o1, e2, bnd_ret, if_pos (bN0.mpr p), iN_add, e4]
theorem g_imgL {m : Int → Int} (w : WF m) {u : Int} (hu : InR u) : ∀ (d k : Nat) (h : Hp) (n : Nat), k + d = 29 → d < n → SL h → RM h 632 m → HT h 632 m (m 5) →
    ∃ h2 z, f_X9_improving_L12 n h 632 (iN u) (iN (nuI m k)) (iN (lwI m k)) (iN (8 + (k : Int))) = (if z = 29 then some (h2, .inr (iN (if u = -1 then nuI m 29 else -1))) else some (h2, .inr (iN (8 + z)))) ∧ FZ (pX 632) h h2 ∧ LsT (fun j => imF m j.toNat ∧ nuI m j.toNat = u) k 29 z := by
  have hu' := hu
  unfold InR at hu'
  intro d
  induction d with
  | zero =>
    intro k h n hk hn s r ht
    obtain ⟨n, rfl⟩ : ∃ z, n = z + 1 := ⟨n - 1, by omega⟩
    obtain rfl : k = 29 := by omega
    refine ⟨h, 29, ?_, FZ.rf, LsT.nil (by omega)⟩
    show f_X9_improving_B12 (f_X9_improving_L12 n) h 632 (iN u) (iN (nuI m 29)) (iN (lwI m 29)) (iN (8 + ((29 : Nat) : Int))) = _
    unfold f_X9_improving_B12
    rw [if_pos (yltN (by omega) (by omega) (by omega)), if_pos rfl]
    by_cases p : u = -1
    · rw [if_pos (by rw [p]), if_pos p]
    · rw [if_neg (neN p (by omega) (by omega) (by omega) (by omega)), if_neg p]
  | succ d ih =>
    intro k h n hk hn s r ht
    obtain ⟨n, rfl⟩ : ∃ z, n = z + 1 := ⟨n - 1, by omega⟩
    have nb := nuI_bd (m := m) k
    have wb := lwI_bd w k (by omega)
    obtain ⟨h2, e2, f2, t2⟩ := g_highAt w (x := 8 + (k : Int)) (by omega) r ht
    have lb := lh_bd w (L := 1000000) (x := 8 + (k : Int)) (by omega)
    obtain ⟨h4, z, e4, f4, l4⟩ := ih (k + 1) h2 n (by omega) (by omega) (s.ly f2.1) (r.x f2) t2
    have tk : ((k : Nat) : Int).toNat = k := by omega
    rw [show (8 : Int) + ((k + 1 : Nat) : Int) = 8 + (k : Int) + 1 by omega, nuI, lwI] at e4
    have sh : f_X9_improving_L12 (n + 1) h 632 (iN u) (iN (nuI m k)) (iN (lwI m k)) (iN (8 + (k : Int))) = if imF m k then f_X9_improving_L44 (f_X9_improving_L12 n) h2 632 (iN u) (iN (nuI m k)) (iN (8 + (k : Int))) (iN (lhF m 1000000 (8 + (k : Int)))) else f_X9_improving_L12 n h2 632 (iN u) (iN (nuI m k)) (iN (lwI m k)) (iN (8 + (k : Int) + 1)) := by
      show f_X9_improving_B12 (f_X9_improving_L12 n) h 632 (iN u) (iN (nuI m k)) (iN (lwI m k)) (iN (8 + (k : Int))) = _
      unfold f_X9_improving_B12 f_X9_improving_L58
      rw [if_neg (nltN (by omega) (by omega) (by omega)), chk_pos s.m.1, e2, bnd_ret, iN_add]
      by_cases p1 : lhF m 1000000 (8 + (k : Int)) = -1
      · rw [if_pos (by rw [p1]), if_neg (show ¬ imF m k from fun z => by have := z.1; omega)]
      · rw [if_neg (neN p1 (by omega) (by omega) (by omega) (by omega))]
        by_cases p2 : lwI m k = -1
        · rw [if_pos (show iN (lwI m k) = iN (-1) by rw [p2]), if_pos (show imF m k from ⟨by omega, Or.inl p2⟩)]
        · rw [if_neg (neN p2 (by omega) (by omega) (by omega) (by omega))]
          by_cases p3 : lwI m k ≤ lhF m 1000000 (8 + (k : Int))
          · rw [if_pos (yleN (by omega) (by omega) (by omega)), if_neg (show ¬ imF m k from fun z => by have := z.2; omega)]
          · rw [if_neg (nleN (by omega) (by omega) (by omega)), if_pos (show imF m k from ⟨by omega, Or.inr (by omega)⟩)]
    by_cases p : imF m k
    · by_cases p2 : nuI m k = u
      · refine ⟨h2, k, ?_, f2, LsT.hit ⟨by rw [tk]; exact p, by rw [tk]; exact p2⟩ (by omega)⟩
        rw [sh, if_pos p]
        unfold f_X9_improving_L44
        rw [if_pos (by rw [p2]), if_neg (by omega)]
      · refine ⟨h4, z, ?_, f2.tr f4, l4.nx (fun y => p2 (by have := y.2; rw [tk] at this; exact this))⟩
        rw [if_pos p, if_pos p] at e4
        rw [sh, if_pos p]
        unfold f_X9_improving_L44 f_X9_improving_L58
        rw [if_neg (neN p2 (by omega) (by omega) (by omega) (by omega)), iN_add, iN_add, e4]
    · refine ⟨h4, z, ?_, f2.tr f4, l4.nx (fun y => p (by have := y.1; rw [tk] at this; exact this))⟩
      rw [if_neg p, if_neg p] at e4
      rw [sh, if_neg p, e4]
theorem g_improving {h : Hp} {m : Int → Int} (w : WF m) (s : SL h) (r : RM h 632 m) {u : Int} (hu : InR u) : ∃ h2 z, f_X9_improving h 632 (iN u) = (if z = 29 then some (h2, .inr (iN (if u = -1 then nuI m 29 else -1))) else some (h2, .inr (iN (8 + z)))) ∧ FZ (pX 632) h h2 ∧ LsT (fun j => imF m j.toNat ∧ nuI m j.toNat = u) 0 29 z := by
  obtain ⟨h3, e3, f3, t3⟩ := g_reckons w r
  obtain ⟨h4, z, e4, f4, l4⟩ := g_imgL w hu 29 0 h3 2000 (by omega) (by omega) (s.ly f3.1) (r.x f3.rx) t3
  refine ⟨h4, z, ?_, f3.rx.tr f4, l4⟩
  unfold f_X9_improving
  rw [chk_pos s.m.1, e3, bnd_ret]
  exact e4
/-- a call without exceptions, compared as it is -/
def OpD (h : Hp) (D : Dt) (x : Option (Rs Int32)) (y : Hp → Option (Rs Int32)) : Prop := ∃ (v : Int32) (D2 : Dt), WD D2 ∧ (∃ h1, x = some (h1, .inr v) ∧ SL h1 ∧ CI h1 D2 ∧ (∀ x j, 632 ≤ x → qI h1 x j = qI h x j) ∧ qC h1 ≤ qC h + 1 ∧ qS h1 ≤ qS h + 6) ∧ ∀ h1, SL h1 → RI h1 D → ∃ h2, y h1 = some (h2, .inr v) ∧ FZ (fun x _ => 632 ≤ x) h1 h2 ∧ RI h2 D2
theorem OpD.A {h h' : Hp} {D : Dt} {x : Option (Rs Int32)} {y : Hp → Option (Rs Int32)} (v : Int32) (wd : WD D) (a : Stq h h' D) (ex : x = some (h', .inr v)) (ey : ∀ h1, SL h1 → RI h1 D → SL (putI h1 632 0 (iN 0)) → RM (putI h1 632 0 (iN 0)) 632 D.1 → ∃ h2, y h1 = some (h2, .inr v) ∧ FZ (pX 632) (putI h1 632 0 (iN 0)) h2) : OpD h D x y := by
  refine ⟨v, D, wd, ⟨h', ex, a.1, a.2.1, a.2.2.1, by rw [a.2.2.2.1]; omega, by rw [a.2.2.2.2]; omega⟩, fun h1 s1 r1 => ?_⟩
  obtain ⟨s0, r0, rm⟩ := ref0 s1 r1
  obtain ⟨h2, e2, f2⟩ := ey h1 s1 r1 s0 rm
  exact ⟨h2, e2, FZ.r0.tr (f2.mo (fun x j z => pX_632 z)), r0.x f2⟩
theorem o_improvements {h : Hp} {D : Dt} (wd : WD D) (s : SL h) (c : CI h D) : OpD h D (f_X8_improvements h 1) (fun h1 => f_X9_improvements h1 632) := by
  obtain ⟨h2, e2, st⟩ := g_imsL wd 29 0 h 2000 (by omega) (by omega) s c
  refine OpD.A _ wd st e2 (fun h1 s1 r1 s0 rm => ?_)
  obtain ⟨h3, z, e3, f3, l3⟩ := g_improving wd.1 s0 rm (u := -1) ⟨(by omega), (by omega)⟩
  have zz : z = 29 := by
    rcases l3 with ⟨e, -⟩ | ⟨b, p, -⟩
    · exact e
    · have := nuI_bd (m := D.1) z.toNat
      have := p.2
      omega
  rw [if_pos zz, if_pos rfl] at e3
  refine ⟨h3, ?_, f3⟩
  unfold f_X9_improvements
  rw [chk_pos s1.m.1, lt_is, e3, bnd_ret]
theorem o_improvement {h : Hp} {D : Dt} (wd : WD D) (s : SL h) (c : CI h D) {x : Int} (hx : InR x) : OpP h D (f_L_improvement h 1 (iN x) 656) (fun h1 => f_X9_improvement h1 632 (iN x)) := by
  have hx' := hx
  unfold InR at hx'
  obtain ⟨h2, z, e2, st, l2⟩ := g_imtL wd hx 29 0 h 2000 (by omega) (by omega) s c
  have zb := l2.bd (by omega)
  have e2' : f_X8_improvement h 1 (iN x) = if z = 29 then some (bump h2, .inl 5) else some (h2, .inr (iN (8 + z))) := e2
  have ref : ∀ h1, SL h1 → RM (putI h1 632 0 (iN 0)) 632 D.1 → SL (putI h1 632 0 (iN 0)) → ∃ h2, f_X9_improvement h1 632 (iN x) = (if z = 29 then some (putI h2 632 0 (iN 1), .inr (iN 0)) else some (h2, .inr (iN (8 + z)))) ∧ FZ (pX 632) (putI h1 632 0 (iN 0)) h2 := by
    intro h1 s1 rm s0
    unfold f_X9_improvement f_X9_improvement_L18
    rw [chk_pos s1.m.1, lt_is]
    by_cases p : 0 ≤ x
    · obtain ⟨h3, y, e3, f3, l3⟩ := g_improving wd.1 s0 rm hx
      have ey : y = z := l3.uq l2
      rw [ey] at e3
      refine ⟨h3, ?_, f3⟩
      rw [if_pos ((iN_0le (by omega) (by omega)).mpr p), e3]
      by_cases zz : z = 29
      · rw [if_pos zz, if_pos zz, if_neg (by omega), bnd_ret, if_pos rfl, chk_pos (s0.ly f3.1).m.1, g_fails (s0.ly f3.1), bnd_ret]
      · rw [if_neg zz, if_neg zz, bnd_ret, if_neg (neN (by omega) (by omega) (by omega) (by omega) (by omega))]
    · have zz : z = 29 := by
        rcases l2 with ⟨e, -⟩ | ⟨b, p2, -⟩
        · exact e
        · have := nuI_bd (m := D.1) z.toNat
          have := p2.2
          omega
      refine ⟨_, ?_, FZ.rf⟩
      rw [if_neg (fun y => p ((iN_0le (by omega) (by omega)).mp y)), if_pos zz, if_pos rfl, chk_pos s0.m.1, g_fails s0, bnd_ret]
  by_cases zz : z = 29
  · refine OpP.F 1 (by omega) wd st ?_ (fun h1 s1 r1 s0 rm => ?_)
    · unfold f_L_improvement
      rw [chk_pos s.o1, e2', if_pos zz, bndX_thr, if_pos rfl]
    · obtain ⟨h8, e8, f8⟩ := ref h1 s1 rm s0
      exact ⟨h8, by rw [e8, if_pos zz], f8⟩
  · refine OpP.A (8 + z) wd st ?_ (fun h1 s1 r1 s0 rm => ?_)
    · unfold f_L_improvement
      rw [chk_pos s.o1, e2', if_neg zz, bndX_ret]
    · obtain ⟨h8, e8, f8⟩ := ref h1 s1 rm s0
      exact ⟨h8, by rw [e8, if_neg zz], f8⟩
/-- conflicts: the columns whose percentage is cut -/
def cfS (m : Int → Int) : Nat → Int32
  | 0 => iN 0
  | k + 1 => if tyS (m (6 + k)) = 2 ∧ pcF m k < vaS (m (6 + k)) then cfS m k ||| (iN 1 <<< (iN k &&& 31)) else cfS m k
theorem g_cfL {D : Dt} (wd : WD D) {h : Hp} (s : SL h) (c : CI h D) : ∀ (d k n : Nat), (k : Int) + d = D.1 0 → d < n → f_X8_conflicts_L4 n h 1 (cfS D.1 k) (iN k) = some (h, .inr (cfS D.1 (D.1 0).toNat)) := by
  have w := wd.1
  have t := c.1.1
  have kk := c.1.2.1
  have h0 := w.1.1
  intro d
  induction d with
  | zero =>
    intro k n hk hn
    obtain ⟨n, rfl⟩ : ∃ z, n = z + 1 := ⟨n - 1, by omega⟩
    show f_X8_conflicts_B4 (f_X8_conflicts_L4 n) h 1 (cfS D.1 k) (iN k) = _
    unfold f_X8_conflicts_B4
    rw [chk_pos s.o1, s.t0, chk_pos t.1.o, t.cs, if_pos (yleN (by omega) (by omega) (by omega)), show (D.1 0).toNat = k by omega]
  | succ d ih =>
    intro k n hk hn
    obtain ⟨n, rfl⟩ : ∃ z, n = z + 1 := ⟨n - 1, by omega⟩
    have hk4 : 0 ≤ (k : Int) ∧ (k : Int) < 4 := by omega
    have sp := (w.2.1 k hk4.1 hk4.2).ty
    have pb := pcF_bd w hk4
    have e := ih (k + 1) n (by omega) (by omega)
    rw [show ((k + 1 : Nat) : Int) = (k : Int) + 1 by omega, cfS] at e
    show f_X8_conflicts_B4 (f_X8_conflicts_L4 n) h 1 (cfS D.1 k) (iN k) = _
    unfold f_X8_conflicts_B4 f_X8_conflicts_L55
    rw [chk_pos s.o1, s.t0, chk_pos t.1.o, t.cs, if_neg (nleN (by omega) (by omega) (by omega)), t.1.r6, chk_pos t.1.o1, t.1.w1, ck_in (by omega) (by omega) (by omega), iN_cl (by omega) (by omega), show qI h (2 + 1) (k : Int).toNat = iN (tyS (D.1 (6 + k))) from t.ty k (by omega) (by omega), iN_add]
    by_cases p : tyS (D.1 (6 + k)) = 2
    · rw [if_pos (by rw [p]), s.t1, chk_pos s.k.o, s.k.r3, chk_pos s.k.o3, s.k.w3, ck_in (by omega) (by omega) (by omega), t.1.r7, chk_pos t.1.o2, t.1.w2, ck_in (by omega) (by omega) (by omega), show qI h (2 + 2) (k : Int).toNat = iN (vaS (D.1 (6 + k))) from t.va k (by omega) (by omega), kk.2.2.1 k (by omega) (by omega)]
      by_cases p2 : pcF D.1 k < vaS (D.1 (6 + k))
      · rw [if_pos ⟨p, p2⟩] at e
        rw [if_neg (nleN (by omega) (by omega) (by omega)), e]
      · rw [if_neg (fun z => p2 z.2)] at e
        rw [if_pos (yleN (by omega) (by omega) (by omega)), e]
    · rw [if_neg (fun z => p z.1)] at e
      rw [if_neg (neN p (by omega) (by omega) (by omega) (by omega)), e]
theorem g_cfL9 {m : Int → Int} (w : WF m) {h : Hp} (r : RM h 632 m) (A : AR h 646 (m 0) (pcF m)) : ∀ (d k n : Nat), (k : Int) + d = m 0 → d < n → f_X9_conflicts_L13 n h 632 (cfS m k) (iN k) = some (h, .inr (cfS m (m 0).toNat)) := by
  have h0 := w.1.1
  intro d
  induction d with
  | zero =>
    intro k n hk hn
    obtain ⟨n, rfl⟩ : ∃ z, n = z + 1 := ⟨n - 1, by omega⟩
    show f_X9_conflicts_B13 (f_X9_conflicts_L13 n) h 632 (cfS m k) (iN k) = _
    unfold f_X9_conflicts_B13
    rw [chk_pos r.1.1, r.1.r1, chk_pos r.1.o1, r.1.w1, ck_in (by omega) (by omega) (by omega), g_rd r (by omega) (by omega), if_pos (yleN (by omega) (by omega) (by omega)), show (m 0).toNat = k by omega]
  | succ d ih =>
    intro k n hk hn
    obtain ⟨n, rfl⟩ : ∃ z, n = z + 1 := ⟨n - 1, by omega⟩
    have hk4 : 0 ≤ (k : Int) ∧ (k : Int) < 4 := by omega
    have sp := (w.2.1 k hk4.1 hk4.2).ty
    have sb := (w.2.1 k hk4.1 hk4.2).bd
    have pb := pcF_bd w hk4
    have e := ih (k + 1) n (by omega) (by omega)
    rw [show ((k + 1 : Nat) : Int) = (k : Int) + 1 by omega, cfS] at e
    show f_X9_conflicts_B13 (f_X9_conflicts_L13 n) h 632 (cfS m k) (iN k) = _
    unfold f_X9_conflicts_B13 f_X9_conflicts_L60 f_X9_conflicts_L61
    rw [chk_pos r.1.1, r.1.r1, chk_pos r.1.o1, r.1.w1, ck_in (by omega) (by omega) (by omega), g_rd r (by omega) (by omega), if_neg (nleN (by omega) (by omega) (by omega)), g_isShared9 r w hk4, bnd_ret, iN_add, or_iN0]
    by_cases p : tyS (m (6 + k)) = 2
    · rw [if_neg (fun z => bN0.mp z p), chk_pos r.1.1, r.1.r23, chk_pos r.1.o23, r.1.w23, ck_in (by omega) (by omega) (by omega), r.1.r1, chk_pos r.1.o1, r.1.w1, iN_add, ck_in (by omega) (by omega) (by omega), g_rd r (by omega) (by omega), iN_sub, iN_cl (by omega) (by omega), A k (by omega) (by omega)]
      have hv := sp.2.2.2.2.2.2.1 p
      by_cases p2 : pcF m k < vaS (m (6 + k))
      · rw [if_pos ⟨p, p2⟩] at e
        rw [if_neg (nleN (by omega) (by omega) (by omega)), e]
      · rw [if_neg (fun z => p2 z.2)] at e
        rw [if_pos (yleN (by omega) (by omega) (by omega)), e]
    · rw [if_neg (fun z => p z.1)] at e
      rw [if_pos (bN0.mpr p), e]
theorem o_conflicts {h : Hp} {D : Dt} (wd : WD D) (s : SL h) (c : CI h D) : OpD h D (f_X8_conflicts h 1) (fun h1 => f_X9_conflicts h1 632) := by
  have h0 := wd.1.1.1
  refine OpD.A (cfS D.1 (D.1 0).toNat) wd (Stq.rf s c) (g_cfL wd s c (D.1 0).toNat 0 2000 (by omega) (by omega)) (fun h1 s1 r1 s0 rm => ?_)
  obtain ⟨h2, e2, f2, a1, a2, a3⟩ := g_measures wd.1 rm
  refine ⟨h2, ?_, f2.vx⟩
  unfold f_X9_conflicts
  rw [chk_pos s1.m.1, lt_is, e2, bnd_ret]
  exact g_cfL9 wd.1 (rm.v f2) a3 (D.1 0).toNat 0 2000 (by omega) (by omega)
