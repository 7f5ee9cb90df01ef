/-! ===== STAGE B: sharing whole; weights by the maximums; widening ===== -/
theorem dvP {a : Int} {wt : Int → Int} {K c : Int} (s : SW a wt K) (hc : 0 ≤ c ∧ c < K) (ht : 0 < shT wt K) : iN a * iN (wt c) / iN (shT wt K) = iN (shP a wt K c) := by
  have tb := shT_bd s
  obtain ⟨s1, s2, s3⟩ := s
  have h1 := s3 c hc.1 hc.2
  have h2 : 0 ≤ a * wt c := Int.mul_nonneg s1.1 h1.1
  have h3 : a * wt c ≤ 5000 * 200000 := Int.mul_le_mul s1.2 h1.2 h1.1 (by omega)
  unfold shP
  rw [if_pos ht, iN_mul, iN_div ⟨by omega, by omega⟩ ⟨by omega, by omega⟩ (by omega) (by omega), Int.tdiv_eq_ediv_of_nonneg h2]
theorem g_shareL2 {C T arr : Nat} {m wt W : Int → Int} {a : Int} (hm : (1 ≤ m 0 ∧ m 0 ≤ 4) ∧ 0 ≤ m 5 ∧ m 5 ≤ 16) (s : SW a wt (m 0)) (ht : 0 < shT wt (m 0)) (hA : C ≤ arr) (hA2 : arr ≠ C + 11) (hW : ∀ c, 0 ≤ c → c < m 0 → 0 ≤ W c ∧ W c ≤ 1000000) : ∀ (d k : Nat) (h : Hp) (n : Nat), (k : Int) + d = m 0 → d < n → LK h C T → TM h T m → okr h arr 20 → qW h arr = 4 → AR h (C + 11) (m 0) wt → AR h arr (m 0) (fun c => W c + (if c < k then shP a wt (m 0) c else 0)) →
    ∃ h2, f_X3_share_L44 n h C (iN a) arr (iN (shT wt (m 0))) (iN (a - sumF (shP a wt (m 0)) 0 k)) (iN k) = some (h2, .inr ()) ∧ FZ (pA arr) h h2 ∧ AR h2 arr (m 0) (fun c => W c + shF a wt (m 0) c) := by
  intro d
  induction d with
  | zero =>
    intro k h n hk hn l t oa wa B A
    obtain ⟨n, rfl⟩ : ∃ z, n = z + 1 := ⟨n - 1, by omega⟩
    obtain ⟨h2, e2, f2, a2⟩ := g_shareL3 hm s hA hA2 (m 0).toNat 0 h 2000 (by omega) (by omega) l t oa wa B (A.cg (fun c z1 z2 => by
      rw [if_pos (by omega), if_neg (by omega)]
      omega)) hW
    refine ⟨h2, ?_, f2, a2⟩
    show f_X3_share_B44 (f_X3_share_L44 n) h C (iN a) arr _ _ (iN k) = _
    unfold f_X3_share_B44
    rw [chk_pos l.o, l.r0, chk_pos t.1.o, t.cs, if_pos (yleN (by omega) (by omega) (by omega))]
    rw [shL, show (m 0).toNat = k by omega] at e2
    exact e2
  | succ d ih =>
    intro k h n hk hn l t oa wa B A
    obtain ⟨n, rfl⟩ : ∃ z, n = z + 1 := ⟨n - 1, by omega⟩
    have pb := shP_bd s (c := k) (by omega)
    have sa := s.1
    have wb := s.2.2 k (by omega) (by omega)
    have Wb := hW k (by omega) (by omega)
    have tb := shT_bd s
    have ct := l.ct
    have bk := B k (by omega) (by omega)
    have ak := A k (by omega) (by omega)
    simp only [Int.lt_irrefl, if_false, Int.add_zero] at ak
    have fa : FZ (pA arr) h (putI h arr (k : Int).toNat (iN (W k + shP a wt (m 0) k))) := FZ.pa
    have A' := A.put (k := k) (v := W k + shP a wt (m 0) k) (by omega)
    obtain ⟨h2, e2, f2, a2⟩ := ih (k + 1) _ n (by omega) (by omega) (l.ly fa.1) (t.fz hm.2 fa (fun x j z1 z2 z3 => by unfold pA at z3; omega)) oa wa (B.ne (fun z => hA2 z.symm)) (A'.cg (fun c z1 z2 => by
      unfold up
      by_cases hc2 : c = k
      · rw [if_pos hc2, if_pos (by omega), hc2]
      · rw [if_neg hc2]
        dsimp only
        by_cases hc : c < k
        · rw [if_pos hc, if_pos (by omega)]
        · rw [if_neg hc, if_neg (by omega)]))
    refine ⟨h2, ?_, fa.tr f2, a2⟩
    show f_X3_share_B44 (f_X3_share_L44 n) h C (iN a) arr _ _ (iN k) = _
    unfold f_X3_share_B44
    rw [chk_pos l.o, l.r0, chk_pos t.1.o, t.cs, if_neg (nleN (by omega) (by omega) (by omega)), l.r8, chk_pos l.o11, l.w11, ck_in (by omega) (by omega) (by omega), chk_pos (fun z => by have := (iN_eq0 (by omega) (by omega)).mp z; omega), chk_pos oa, wa, ck_in (by omega) (by omega) (by omega), iN_cl (by omega) (by omega), bk, ak, dvP s (by omega) ht, iN_add, lt_is, iN_sub, iN_add]
    rw [sumF, show (0 : Int) + (k : Int) = k by omega, ← Int.sub_sub] at e2
    exact e2
theorem g_shareL1 {C T arr : Nat} {m wt W : Int → Int} {a : Int} (hm : (1 ≤ m 0 ∧ m 0 ≤ 4) ∧ 0 ≤ m 5 ∧ m 5 ≤ 16) (s : SW a wt (m 0)) (hA : C ≤ arr) (hA2 : arr ≠ C + 11) (hW : ∀ c, 0 ≤ c → c < m 0 → 0 ≤ W c ∧ W c ≤ 1000000) {h : Hp} (l : LK h C T) (t : TM h T m) (oa : okr h arr 20) (wa : qW h arr = 4) (B : AR h (C + 11) (m 0) wt) (A : AR h arr (m 0) W) : ∀ (d k : Nat) (n : Nat), (k : Int) + d = m 0 → d < n →
    ∃ h2, f_X3_share_L5 n h C (iN a) arr (iN (sumF wt 0 k)) (iN k) = some (h2, .inr ()) ∧ FZ (pA arr) h h2 ∧ AR h2 arr (m 0) (fun c => W c + shF a wt (m 0) c) := by
  have tb := shT_bd s
  intro d
  induction d with
  | zero =>
    intro k n hk hn
    obtain ⟨n, rfl⟩ : ∃ z, n = z + 1 := ⟨n - 1, by omega⟩
    show ∃ h2, f_X3_share_B5 (f_X3_share_L5 n) h C (iN a) arr _ (iN k) = _ ∧ _
    unfold f_X3_share_B5
    have hT : sumF wt 0 k = shT wt (m 0) := by unfold shT; rw [show (m 0).toNat = k by omega]
    rw [chk_pos l.o, l.r0, chk_pos t.1.o, t.cs, if_pos (yleN (by omega) (by omega) (by omega)), hT]
    by_cases ht : 0 < shT wt (m 0)
    · obtain ⟨h2, e2, f2, a2⟩ := g_shareL2 hm s ht hA hA2 hW (m 0).toNat 0 h 2000 (by omega) (by omega) l t oa wa B (A.cg (fun c z1 z2 => by rw [if_neg (by omega)]; omega))
      refine ⟨h2, ?_, f2, a2⟩
      rw [if_pos ((iN_0lt (by omega) (by omega)).mpr ht)]
      rw [sumF, Int.sub_zero] at e2
      exact e2
    · refine ⟨h, by rw [if_neg (fun z => ht ((iN_0lt (by omega) (by omega)).mp z))], FZ.rf, A.cg (fun c z1 z2 => ?_)⟩
      have hz : wt c ≤ 0 := by
        have := sumF_ge (F := wt) (m 0).toNat (fun j hj => (s.2.2 j (by omega) (by omega)).1) c.toNat (by omega)
        rw [Int.toNat_of_nonneg z1] at this
        unfold shT at ht
        omega
      unfold shF shP shX
      rw [if_neg ht, if_neg (fun z => by omega)]
      omega
  | succ d ih =>
    intro k n hk hn
    obtain ⟨n, rfl⟩ : ∃ z, n = z + 1 := ⟨n - 1, by omega⟩
    obtain ⟨h2, e2, f2, a2⟩ := ih (k + 1) n (by omega) (by omega)
    refine ⟨h2, ?_, f2, a2⟩
    show f_X3_share_B5 (f_X3_share_L5 n) h C (iN a) arr _ (iN k) = _
    unfold f_X3_share_B5
    rw [chk_pos l.o, l.r0, chk_pos t.1.o, t.cs, if_neg (nleN (by omega) (by omega) (by omega)), l.r8, chk_pos l.o11, l.w11, ck_in (by omega) (by omega) (by omega), iN_cl (by omega) (by omega), B k (by omega) (by omega), iN_add, iN_add]
    rw [sumF, show (0 : Int) + (k : Int) = k by omega] at e2
    exact e2
theorem g_share {C T arr : Nat} {m wt W : Int → Int} {a : Int} (hm : (1 ≤ m 0 ∧ m 0 ≤ 4) ∧ 0 ≤ m 5 ∧ m 5 ≤ 16) (s : SW a wt (m 0)) (hA : C ≤ arr) (hA2 : arr ≠ C + 11) (hW : ∀ c, 0 ≤ c → c < m 0 → 0 ≤ W c ∧ W c ≤ 1000000) {h : Hp} (l : LK h C T) (t : TM h T m) (oa : okr h arr 20) (wa : qW h arr = 4) (B : AR h (C + 11) (m 0) wt) (A : AR h arr (m 0) W) :
    ∃ h2, f_X3_share h C (iN a) arr = some (h2, .inr ()) ∧ FZ (pA arr) h h2 ∧ AR h2 arr (m 0) (fun c => W c + shF a wt (m 0) c) := g_shareL1 hm s hA hA2 hW l t oa wa B A (m 0).toNat 0 2000 (by omega) (by omega)
theorem FZ.c {C a : Nat} {h h2 : Hp} (f : FZ (pA a) h h2) (h1 : C ≤ a) (h3 : a ≤ C + 11) : FZ (pC C) h h2 := f.mo (fun x j z => by unfold pA at z; unfold pC; omega)
theorem TM.c {C T : Nat} {h h2 : Hp} {m : Int → Int} (t : TM h T m) (hm : 0 ≤ m 5 ∧ m 5 ≤ 16) (hC : C = T + 148) (f : FZ (pC C) h h2) : TM h2 T m := t.fz hm f (fun x j z1 z2 z3 => by unfold pC at z3; omega)
theorem g_raiseL {C T : Nat} {m lo hi : Int → Int} (hm : (1 ≤ m 0 ∧ m 0 ≤ 4) ∧ 0 ≤ m 5 ∧ m 5 ≤ 16) (hb : ∀ c, 0 ≤ c → c < m 0 → (0 ≤ lo c ∧ lo c ≤ 1000000) ∧ 0 ≤ hi c ∧ hi c ≤ 1000000) : ∀ (d k : Nat) (h : Hp) (n : Nat), (k : Int) + d = m 0 → d < n → LK h C T → TM h T m → AR h (C + 1) (m 0) lo → AR h (C + 2) (m 0) (fun c => if c < k then max (hi c) (lo c) else hi c) →
    ∃ h2, f_X3_raiseMaximums_L2 n h C (iN k) = some (h2, .inr ()) ∧ FZ (pA (C + 2)) h h2 ∧ AR h2 (C + 2) (m 0) (fun c => max (hi c) (lo c)) := by
  intro d
  induction d with
  | zero =>
    intro k h n hk hn l t A1 A2
    obtain ⟨n, rfl⟩ : ∃ z, n = z + 1 := ⟨n - 1, by omega⟩
    refine ⟨h, ?_, FZ.rf, A2.cg (fun c z1 z2 => by rw [if_pos (by omega)])⟩
    show f_X3_raiseMaximums_B2 (f_X3_raiseMaximums_L2 n) h C (iN k) = _
    unfold f_X3_raiseMaximums_B2
    rw [chk_pos l.o, l.r0, chk_pos t.1.o, t.cs, if_pos (yleN (by omega) (by omega) (by omega))]
  | succ d ih =>
    intro k h n hk hn l t A1 A2
    obtain ⟨n, rfl⟩ : ∃ z, n = z + 1 := ⟨n - 1, by omega⟩
    have ct := l.ct
    have b := hb k (by omega) (by omega)
    have ak := A2 k (by omega) (by omega)
    simp only [Int.lt_irrefl, if_false] at ak
    have fa : FZ (pA (C + 2)) h (putI h (C + 2) (k : Int).toNat (iN (max (hi k) (lo k)))) := FZ.pa
    obtain ⟨h2, e2, f2, a2⟩ := ih (k + 1) _ n (by omega) (by omega) (l.ly fa.1) (t.c hm.2 ct (fa.c (by omega) (by omega))) (A1.ne (by omega)) ((A2.put (k := k) (v := max (hi k) (lo k)) (by omega)).cg (fun c z1 z2 => by
      unfold up
      by_cases hc2 : c = k
      · rw [if_pos hc2, if_pos (by omega), hc2]
      · rw [if_neg hc2]
        dsimp only
        by_cases hc : c < k
        · rw [if_pos hc, if_pos (by omega)]
        · rw [if_neg hc, if_neg (by omega)]))
    refine ⟨h2, ?_, fa.tr f2, a2⟩
    show f_X3_raiseMaximums_B2 (f_X3_raiseMaximums_L2 n) h C (iN k) = _
    unfold f_X3_raiseMaximums_B2
    rw [chk_pos l.o, l.r0, chk_pos t.1.o, t.cs, if_neg (nleN (by omega) (by omega) (by omega)), l.r2, chk_pos l.o2, l.w2, ck_in (by omega) (by omega) (by omega), l.r1, chk_pos l.o1, l.w1, ck_in (by omega) (by omega) (by omega), iN_cl (by omega) (by omega), ak, A1 k (by omega) (by omega), g_jmax ⟨by omega, by omega⟩ ⟨by omega, by omega⟩, lt_is, iN_add]
    exact e2
theorem g_raise {C T : Nat} {m lo hi : Int → Int} (hm : (1 ≤ m 0 ∧ m 0 ≤ 4) ∧ 0 ≤ m 5 ∧ m 5 ≤ 16) (hb : ∀ c, 0 ≤ c → c < m 0 → (0 ≤ lo c ∧ lo c ≤ 1000000) ∧ 0 ≤ hi c ∧ hi c ≤ 1000000) {h : Hp} (l : LK h C T) (t : TM h T m) (A1 : AR h (C + 1) (m 0) lo) (A2 : AR h (C + 2) (m 0) hi) :
    ∃ h2, f_X3_raiseMaximums h C = some (h2, .inr ()) ∧ FZ (pA (C + 2)) h h2 ∧ AR h2 (C + 2) (m 0) (fun c => max (hi c) (lo c)) := g_raiseL hm hb (m 0).toNat 0 h 2000 (by omega) (by omega) l t A1 (A2.cg (fun c z1 z2 => by rw [if_neg (by omega)]))
/-! who takes part in a cell's widening -/
abbrev inS (m : Int → Int) (i c : Int) : Prop := blk m i 1 < c + 1 ∧ c < blk m i 1 + blk m i 2
def alB (m : Int → Int) (i : Int) : Nat → Bool
  | 0 => true
  | k + 1 => alB m i k && decide (inS m i k → tyS (m (6 + k)) = 1)
abbrev shM (m : Int → Int) (i c : Int) : Prop := inS m i c ∧ (alB m i (m 0).toNat = true ∨ tyS (m (6 + c)) ≠ 1)
def wtM (m : Int → Int) (i : Int) (hi : Int → Int) (c : Int) : Int := if shM m i c then hi c else 0
theorem g_weighL1 {C T : Nat} {m : Int → Int} (w : WF m) {i : Int} (hi : 0 ≤ i ∧ i < m 5) {h : Hp} (l : LK h C T) (t : TM h T m) {Q : Option (Rs Unit)} (hQ : f_X3_weighByMaximums_L55 2000 h C (cA h T i) (bN (alB m i (m 0).toNat = true)) (iN 0) = Q) : ∀ (d k : Nat) (n : Nat), (k : Int) + d = m 0 → d < n →
    f_X3_weighByMaximums_L4 n h C (cA h T i) (bN (alB m i k = true)) (iN k) = Q := by
  have hm := w.1.2.2.2.2.2
  have h0 := w.1.1
  have cc := t.cc hi.1 hi.2
  have co := (w.2.2.1 i hi.1 hi.2).1
  unfold CO at co
  intro d
  induction d with
  | zero =>
    intro k n hk hn
    obtain ⟨n, rfl⟩ : ∃ z, n = z + 1 := ⟨n - 1, by omega⟩
    show f_X3_weighByMaximums_B4 (f_X3_weighByMaximums_L4 n) h C (cA h T i) _ (iN k) = _
    unfold f_X3_weighByMaximums_B4
    rw [chk_pos l.o, l.r0, chk_pos t.1.o, t.cs, if_pos (yleN (by omega) (by omega) (by omega)), show k = (m 0).toNat by omega, hQ]
  | succ d ih =>
    intro k n hk hn
    obtain ⟨n, rfl⟩ : ∃ z, n = z + 1 := ⟨n - 1, by omega⟩
    have nx := ih (k + 1) n (by omega) (by omega)
    have ty := (w.2.1 k (by omega) (by omega)).ty
    show f_X3_weighByMaximums_B4 (f_X3_weighByMaximums_L4 n) h C (cA h T i) _ (iN k) = _
    unfold f_X3_weighByMaximums_B4 f_X3_weighByMaximums_L45 f_X3_weighByMaximums_L41 f_X3_weighByMaximums_L46
    rw [chk_pos l.o, l.r0, chk_pos t.1.o, t.cs, if_neg (nleN (by omega) (by omega) (by omega)), iN_add]
    have e0 : ∀ b : Bool, alB m i (k + 1) = b → f_X3_weighByMaximums_L4 n h C (cA h T i) (bN (b = true)) (iN (k + 1 : Nat)) = Q := fun b hb => by rw [← hb]; exact nx
    by_cases hf : alB m i k = true
    · rw [if_neg (fun z => bN0.mp z hf), chk_pos (t.1.co (by omega)), g_overlaps (t.1.co (by omega)) cc (by omega) (by omega) (by omega), bnd_ret]
      by_cases ho : inS m i k
      · rw [if_neg (fun z => bN0.mp z ho), chk_pos l.o, l.r0, chk_pos t.1.o, t.1.r6, chk_pos t.1.o1, t.1.w1, ck_in (by omega) (by omega) (by omega), iN_cl (by omega) (by omega), t.ty k (by omega) (by omega)]
        dsimp only
        by_cases h1 : tyS (m (6 + k)) = 1
        · rw [if_pos (by rw [h1])]
          exact e0 true (by rw [alB, hf, Bool.true_and]; exact decide_eq_true (fun _ => h1))
        · rw [if_neg (neN h1 (by omega) (by omega) (by omega) (by omega))]
          exact e0 false (by rw [alB, hf, Bool.true_and]; exact decide_eq_false (fun z => h1 (z ho)))
      · rw [if_pos (bN0.mpr ho)]
        exact e0 true (by rw [alB, hf, Bool.true_and]; exact decide_eq_true (fun z => absurd z ho))
    · rw [if_pos (bN0.mpr hf)]
      exact e0 false (by rw [alB, show alB m i k = false by simpa using hf, Bool.false_and])
theorem g_weighL2 {C T : Nat} {m hi : Int → Int} (w : WF m) {i : Int} (hi1 : 0 ≤ i ∧ i < m 5) : ∀ (d k : Nat) (h : Hp) (n : Nat) (V : Int → Int), (k : Int) + d = m 0 → d < n → LK h C T → TM h T m → AR h (C + 2) (m 0) hi → AR h (C + 11) (m 0) (fun c => if c < k then wtM m i hi c else V c) →
    ∃ h2, f_X3_weighByMaximums_L55 n h C (cA h T i) (bN (alB m i (m 0).toNat = true)) (iN k) = some (h2, .inr ()) ∧ FZ (pA (C + 11)) h h2 ∧ AR h2 (C + 11) (m 0) (wtM m i hi) := by
  have hm := w.1.2.2.2.2.2
  have h0 := w.1.1
  have co := (w.2.2.1 i hi1.1 hi1.2).1
  unfold CO at co
  intro d
  induction d with
  | zero =>
    intro k h n V hk hn l t A2 A11
    obtain ⟨n, rfl⟩ : ∃ z, n = z + 1 := ⟨n - 1, by omega⟩
    refine ⟨h, ?_, FZ.rf, A11.cg (fun c z1 z2 => by rw [if_pos (by omega)])⟩
    show f_X3_weighByMaximums_B55 (f_X3_weighByMaximums_L55 n) h C (cA h T i) _ (iN k) = _
    unfold f_X3_weighByMaximums_B55
    rw [chk_pos l.o, l.r0, chk_pos t.1.o, t.cs, if_pos (yleN (by omega) (by omega) (by omega))]
  | succ d ih =>
    intro k h n V hk hn l t A2 A11
    obtain ⟨n, rfl⟩ : ∃ z, n = z + 1 := ⟨n - 1, by omega⟩
    have ct := l.ct
    have cc := t.cc hi1.1 hi1.2
    have ty := (w.2.1 k (by omega) (by omega)).ty
    have nx : ∀ v, v = wtM m i hi k → ∃ h2, f_X3_weighByMaximums_L119 (f_X3_weighByMaximums_L55 n) h C (cA h T i) (bN (alB m i (m 0).toNat = true)) (iN k) (iN v) (iN k) (C + 11) = some (h2, .inr ()) ∧ FZ (pA (C + 11)) h h2 ∧ AR h2 (C + 11) (m 0) (wtM m i hi) := by
      intro v hv
      have fa : FZ (pA (C + 11)) h (putI h (C + 11) (k : Int).toNat (iN v)) := FZ.pa
      obtain ⟨h2, e2, f2, a2⟩ := ih (k + 1) _ n V (by omega) (by omega) (l.ly fa.1) (t.c hm ct (fa.c (by omega) (by omega))) (A2.ne (by omega)) ((A11.put (k := k) (v := v) (by omega)).cg (fun c z1 z2 => by
        unfold up
        by_cases hc2 : c = k
        · rw [if_pos hc2, if_pos (by omega), hc2, hv]
        · rw [if_neg hc2]
          dsimp only
          by_cases hc : c < k
          · rw [if_pos hc, if_pos (by omega)]
          · rw [if_neg hc, if_neg (by omega)]))
      refine ⟨h2, ?_, fa.tr f2, a2⟩
      rw [cA_ly fa.1] at e2
      unfold f_X3_weighByMaximums_L119
      rw [chk_pos l.o11, l.w11, ck_in (by omega) (by omega) (by omega), iN_cl (by omega) (by omega), lt_is, iN_add]
      exact e2
    show ∃ h2, f_X3_weighByMaximums_B55 (f_X3_weighByMaximums_L55 n) h C (cA h T i) _ (iN k) = _ ∧ _
    unfold f_X3_weighByMaximums_B55 f_X3_weighByMaximums_L96 f_X3_weighByMaximums_L92 f_X3_weighByMaximums_L97
    rw [chk_pos l.o, l.r0, chk_pos t.1.o, t.cs, if_neg (nleN (by omega) (by omega) (by omega)), chk_pos (t.1.co (by omega)), g_overlaps (t.1.co (by omega)) cc (by omega) (by omega) (by omega), bnd_ret, l.r8, chk_pos l.o11, l.r2, chk_pos l.o2, l.w2, ck_in (by omega) (by omega) (by omega), iN_cl (by omega) (by omega), A2 k (by omega) (by omega), l.r0, t.1.r6]
    have i00 : iN 0 = 0 := rfl
    have i10 : ¬ iN 1 = 0 := by decide
    simp only [chk_pos l.o, chk_pos t.1.o, chk_pos t.1.o1, t.1.w1, ck_in (show 0 ≤ (k : Int) by omega) (show (k : Int) < ((4 : Nat) : Int) by omega) (show 4 < 2147483648 by omega), t.ty k (by omega) (by omega), if_pos i00, if_neg i10]
    by_cases ho : inS m i k
    · rw [if_neg (fun z => bN0.mp z ho)]
      by_cases hf : alB m i (m 0).toNat = true
      · rw [if_neg (fun z => bN0.mp z hf)]
        rw [chk_pos l.o11]
        exact nx _ (by unfold wtM; rw [if_pos ⟨ho, Or.inl hf⟩])
      · rw [if_pos (bN0.mpr hf)]
        by_cases h1 : tyS (m (6 + k)) = 1
        · rw [if_pos (by rw [h1])]
          exact nx _ (by unfold wtM; rw [if_neg (fun z => z.2.elim hf (fun z => z h1))])
        · rw [if_neg (neN h1 (by omega) (by omega) (by omega) (by omega))]
          rw [chk_pos l.o11]
          exact nx _ (by unfold wtM; rw [if_pos ⟨ho, Or.inr h1⟩])
    · rw [if_pos (bN0.mpr ho)]
      exact nx _ (by unfold wtM; rw [if_neg (fun z => ho z.1)])
theorem g_weigh {C T : Nat} {m hi V : Int → Int} (w : WF m) {i : Int} (hi1 : 0 ≤ i ∧ i < m 5) {h : Hp} (l : LK h C T) (t : TM h T m) (A2 : AR h (C + 2) (m 0) hi) (A11 : AR h (C + 11) (m 0) V) :
    ∃ h2, f_X3_weighByMaximums h C (cA h T i) = some (h2, .inr ()) ∧ FZ (pA (C + 11)) h h2 ∧ AR h2 (C + 11) (m 0) (wtM m i hi) := by
  have h0 := w.1.1
  obtain ⟨h2, e2, f2, a2⟩ := g_weighL2 w hi1 (m 0).toNat 0 h 2000 V (by omega) (by omega) l t A2 (A11.cg (fun c z1 z2 => by rw [if_neg (by omega)]))
  refine ⟨h2, ?_, f2, a2⟩
  exact g_weighL1 w hi1 l t e2 (m 0).toNat 0 2000 (by omega) (by omega)
