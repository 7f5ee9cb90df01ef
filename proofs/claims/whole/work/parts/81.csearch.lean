/-! ===== STAGE B: the class's search: its layout, bounds ===== -/
def LU (h : Hp) (S C T : Nat) : Prop := S = T + 160 ∧ (okr h S 6 ∧ qR h S 0 = T ∧ qR h S 1 = C ∧ qR h S 2 = S + 1 ∧ qR h S 3 = S + 2 ∧ qR h S 4 = S + 40 ∧ qR h S 7 = S + 41 ∧ qR h S 8 = S + 47) ∧
  (okr h (S + 1) 20 ∧ okr h (S + 2) 24 ∧ okr h (S + 40) 20 ∧ okr h (S + 41) 24 ∧ okr h (S + 47) 20) ∧ (qW h (S + 1) = 37 ∧ qW h (S + 2) = 37 ∧ qW h (S + 40) = 4 ∧ qW h (S + 41) = 5 ∧ qW h (S + 47) = 4) ∧
  (∀ x, x < 37 → qR h (S + 2) x = S + 3 + x ∧ okr h (S + 3 + x) 20 ∧ qW h (S + 3 + x) = 4) ∧ ∀ d, d < 5 → qR h (S + 41) d = S + 42 + d ∧ okr h (S + 42 + d) 20 ∧ qW h (S + 42 + d) = 6
theorem LU.ly {h h' : Hp} {S C T : Nat} (a : Ly h h') (l : LU h S C T) : LU h' S C T := by
  obtain ⟨h0, h1, h2, h3, h4, h5⟩ := l
  unfold LU
  rw [a.ok, a.ok, a.ok, a.ok, a.ok, a.ok, a.2.2.1, a.2.2.2.1]
  exact ⟨h0, h1, h2, h3, fun g hg => ⟨(h4 g hg).1, a.ok.mpr (h4 g hg).2.1, (h4 g hg).2.2⟩, fun g hg => ⟨(h5 g hg).1, a.ok.mpr (h5 g hg).2.1, (h5 g hg).2.2⟩⟩
theorem LU.o {h : Hp} {S C T : Nat} (l : LU h S C T) : okr h S 6 := l.2.1.1
theorem LU.r0 {h : Hp} {S C T : Nat} (l : LU h S C T) : qR h S 0 = T := l.2.1.2.1
theorem LU.r1 {h : Hp} {S C T : Nat} (l : LU h S C T) : qR h S 1 = C := l.2.1.2.2.1
theorem LU.r2 {h : Hp} {S C T : Nat} (l : LU h S C T) : qR h S 2 = S + 1 := l.2.1.2.2.2.1
theorem LU.r3 {h : Hp} {S C T : Nat} (l : LU h S C T) : qR h S 3 = S + 2 := l.2.1.2.2.2.2.1
theorem LU.r4 {h : Hp} {S C T : Nat} (l : LU h S C T) : qR h S 4 = S + 40 := l.2.1.2.2.2.2.2.1
theorem LU.r7 {h : Hp} {S C T : Nat} (l : LU h S C T) : qR h S 7 = S + 41 := l.2.1.2.2.2.2.2.2.1
theorem LU.r8 {h : Hp} {S C T : Nat} (l : LU h S C T) : qR h S 8 = S + 47 := l.2.1.2.2.2.2.2.2.2
theorem LU.o1 {h : Hp} {S C T : Nat} (l : LU h S C T) : okr h (S + 1) 20 := l.2.2.1.1
theorem LU.w1 {h : Hp} {S C T : Nat} (l : LU h S C T) : qW h (S + 1) = 37 := l.2.2.2.1.1
theorem LU.o2 {h : Hp} {S C T : Nat} (l : LU h S C T) : okr h (S + 2) 24 := l.2.2.1.2.1
theorem LU.w2 {h : Hp} {S C T : Nat} (l : LU h S C T) : qW h (S + 2) = 37 := l.2.2.2.1.2.1
theorem LU.o40 {h : Hp} {S C T : Nat} (l : LU h S C T) : okr h (S + 40) 20 := l.2.2.1.2.2.1
theorem LU.w40 {h : Hp} {S C T : Nat} (l : LU h S C T) : qW h (S + 40) = 4 := l.2.2.2.1.2.2.1
theorem LU.o41 {h : Hp} {S C T : Nat} (l : LU h S C T) : okr h (S + 41) 24 := l.2.2.1.2.2.2.1
theorem LU.w41 {h : Hp} {S C T : Nat} (l : LU h S C T) : qW h (S + 41) = 5 := l.2.2.2.1.2.2.2.1
theorem LU.o47 {h : Hp} {S C T : Nat} (l : LU h S C T) : okr h (S + 47) 20 := l.2.2.1.2.2.2.2
theorem LU.w47 {h : Hp} {S C T : Nat} (l : LU h S C T) : qW h (S + 47) = 4 := l.2.2.2.1.2.2.2.2
theorem LU.st {h : Hp} {S C T : Nat} (l : LU h S C T) : S = T + 160 := l.1
theorem LU.br {h : Hp} {S C T : Nat} (l : LU h S C T) {d : Int} (hd : 0 ≤ d ∧ d < 5) : qR h (S + 41) (iN d).toNatClampNeg = S + 42 + d.toNat := by rw [iN_cl hd.1 (by omega)]; exact (l.2.2.2.2.2 d.toNat (by omega)).1
theorem LU.bo {h : Hp} {S C T : Nat} (l : LU h S C T) {d : Nat} (hd : d < 5) : okr h (S + 42 + d) 20 := (l.2.2.2.2.2 d hd).2.1
theorem LU.bw {h : Hp} {S C T : Nat} (l : LU h S C T) {d : Nat} (hd : d < 5) : qW h (S + 42 + d) = 6 := (l.2.2.2.2.2 d hd).2.2
theorem LU.lr {h : Hp} {S C T : Nat} (l : LU h S C T) {x : Int} (hx : 0 ≤ x ∧ x < 37) : qR h (S + 2) (iN x).toNatClampNeg = S + 3 + x.toNat := by rw [iN_cl hx.1 (by omega)]; exact (l.2.2.2.2.1 x.toNat (by omega)).1
theorem LU.lo {h : Hp} {S C T : Nat} (l : LU h S C T) {x : Nat} (hx : x < 37) : okr h (S + 3 + x) 20 := (l.2.2.2.2.1 x hx).2.1
theorem LU.lw {h : Hp} {S C T : Nat} (l : LU h S C T) {x : Nat} (hx : x < 37) : qW h (S + 3 + x) = 4 := (l.2.2.2.2.1 x hx).2.2
theorem g_isFree {h : Hp} {S C T : Nat} {m : Int → Int} (w : WF m) (l : LU h S C T) (t : TM h T m) {c : Int} (hc : 0 ≤ c ∧ c < 4) : f_X6_isFree h S (iN c) = some (h, .inr (bN (¬ fxF m c = true))) := by
  have ty := (w.2.1 c hc.1 hc.2).ty
  have rt : qI h (T + 1) c.toNat = iN (tyS (m (6 + c))) := t.ty c hc.1 hc.2
  unfold f_X6_isFree bN fxF
  rw [chk_pos l.o, l.r0, chk_pos t.1.o, t.1.r6, chk_pos t.1.o1, t.1.w1, ck_in (by omega) (by omega) (by omega), iN_cl (by omega) (by omega), rt]
  by_cases h1 : tyS (m (6 + c)) = 1
  · rw [if_pos (by rw [h1]), if_neg (by simp [h1])]
  · rw [if_neg (neN h1 (by omega) (by omega) (by omega) (by omega)), if_pos (by simp [h1])]
theorem g_sumOfL {h : Hp} {S C T a : Nat} {m f : Int → Int} (w : WF m) (l : LU h S C T) (t : TM h T m) (oa : okr h a 20) (wa : qW h a = 6) (A : AR h a (m 4) f) : ∀ (d k : Nat) (n : Nat), (k : Int) + d = m 4 → d < n → f_X6_sumOf_L20 n h S a (iN (m 2 * (m 4 + 1) + sumF f 0 k)) (iN k) = some (h, .inr (iN (m 2 * (m 4 + 1) + sumF f 0 (m 4).toNat))) := by
  have h4 := w.1.2.2.2.2.1
  intro d
  induction d with
  | zero =>
    intro k n hk hn
    obtain ⟨n, rfl⟩ : ∃ z, n = z + 1 := ⟨n - 1, by omega⟩
    show f_X6_sumOf_B20 (f_X6_sumOf_L20 n) h S a _ (iN k) = _
    unfold f_X6_sumOf_B20
    rw [chk_pos l.o, l.r0, chk_pos t.1.o, t.rs, if_pos (yleN (by omega) (by omega) (by omega)), show (m 4).toNat = k by omega]
  | succ d ih =>
    intro k n hk hn
    obtain ⟨n, rfl⟩ : ∃ z, n = z + 1 := ⟨n - 1, by omega⟩
    have e2 := ih (k + 1) n (by omega) (by omega)
    rw [sumF, show (0 : Int) + (k : Int) = k by omega, ← Int.add_assoc] at e2
    show f_X6_sumOf_B20 (f_X6_sumOf_L20 n) h S a _ (iN k) = _
    unfold f_X6_sumOf_B20
    rw [chk_pos l.o, l.r0, chk_pos t.1.o, t.rs, if_neg (nleN (by omega) (by omega) (by omega)), chk_pos oa, wa, ck_in (by omega) (by omega) (by omega), iN_cl (by omega) (by omega), A k (by omega) (by omega), iN_add, iN_add]
    exact e2
theorem g_sumOf {h : Hp} {S C T a : Nat} {m f : Int → Int} (w : WF m) (l : LU h S C T) (t : TM h T m) (oa : okr h a 20) (wa : qW h a = 6) (A : AR h a (m 4) f) : f_X6_sumOf h S a = some (h, .inr (iN (m 2 * (m 4 + 1) + sumF f 0 (m 4).toNat))) := by
  have h4 := w.1.2.2.2.2.1
  have e := g_sumOfL w l t oa wa A (m 4).toNat 0 2000 (by omega) (by omega)
  rw [sumF, Int.add_zero] at e
  unfold f_X6_sumOf
  rw [chk_pos l.o, l.r0, chk_pos t.1.o, t.gp, t.rs, iN_add, iN_mul]
  exact e
/-- what a row of bounds says -/
def BP (m low t : Int → Int) (D : Int → Prop) (f : Int → Int) : Prop := ∀ r, 0 ≤ r → r < m 4 → (0 ≤ f r ∧ f r ≤ 28) ∧ (∀ i, 0 ≤ i → i < m 5 → blk m i 0 = r → D i → hC m i (wC m i t) ≤ f r) ∧ (f r = 0 ∨ ∃ i, 0 ≤ i ∧ i < m 5 ∧ blk m i 0 = r ∧ (f r = low i ∨ (D i ∧ f r = hC m i (wC m i t))))
theorem rhN_nn {m W : Int → Int} {r : Int} : ∀ k : Nat, 0 ≤ rhN m r W k
  | 0 => Int.le_refl 0
  | k + 1 => by
    have := rhN_nn (m := m) (W := W) (r := r) k
    rw [rhN]
    split <;> omega
theorem rhN_ge {m W : Int → Int} {r : Int} : ∀ (k i : Nat), i < k → blk m i 0 = r → hC m i (wC m i W) ≤ rhN m r W k
  | 0, i, h, _ => by omega
  | k + 1, i, h, hr => by
    rw [rhN]
    by_cases e : i = k
    · subst e
      rw [if_pos hr]; omega
    · have := rhN_ge (m := m) (W := W) k i (by omega) hr
      split <;> omega
theorem rhN_at {m W : Int → Int} {r : Int} : ∀ k : Nat, rhN m r W k = 0 ∨ ∃ i : Nat, i < k ∧ blk m i 0 = r ∧ rhN m r W k = hC m i (wC m i W)
  | 0 => Or.inl rfl
  | k + 1 => by
    rw [rhN]
    have ih := rhN_at (m := m) (W := W) (r := r) k
    by_cases h : blk m k 0 = r
    · rw [if_pos h]
      by_cases q : rhN m r W k ≤ hC m k (wC m k W)
      · rw [Int.max_eq_right q]
        exact Or.inr ⟨k, by omega, h, rfl⟩
      · rw [Int.max_eq_left (by omega)]
        exact ih.imp id (fun ⟨i, h1, h2, h3⟩ => ⟨i, by omega, h2, h3⟩)
    · rw [if_neg h]
      exact ih.imp id (fun ⟨i, h1, h2, h3⟩ => ⟨i, by omega, h2, h3⟩)
theorem BP_le {m low t t2 f : Int → Int} {D : Int → Prop} (bp : BP m low t D f) (h5 : 0 ≤ m 5) (hl : ∀ i, 0 ≤ i → i < m 5 → low i ≤ hC m i (wC m i t2)) (hD : ∀ i, 0 ≤ i → i < m 5 → D i → wC m i t = wC m i t2) : sumF f 0 (m 4).toNat ≤ sumF (fun r => rhN m r t2 (m 5).toNat) 0 (m 4).toNat := by
  refine sumF_mo _ (fun j hj => ?_)
  obtain ⟨-, -, h3⟩ := bp j (by omega) (by omega)
  have ge : ∀ i, 0 ≤ i → i < m 5 → blk m i 0 = j → hC m i (wC m i t2) ≤ rhN m j t2 (m 5).toNat := fun i i1 i2 i3 => by
    have := rhN_ge (m := m) (W := t2) (r := j) (m 5).toNat i.toNat (by omega) (by rw [Int.toNat_of_nonneg i1]; exact i3)
    rw [Int.toNat_of_nonneg i1] at this
    exact this
  rcases h3 with h3 | ⟨i, i1, i2, i3, h3 | ⟨h3, h4⟩⟩
  · rw [h3]; exact rhN_nn _
  · have := hl i i1 i2
    have := ge i i1 i2 i3
    omega
  · rw [h4, hD i i1 i2 h3]
    exact ge i i1 i2 i3
theorem BP_eq {m low t f : Int → Int} {D : Int → Prop} (bp : BP m low t D f) (h5 : 0 ≤ m 5) (hl : ∀ i, 0 ≤ i → i < m 5 → low i ≤ hC m i (wC m i t)) (hD : ∀ i, 0 ≤ i → i < m 5 → D i) : sumF f 0 (m 4).toNat = sumF (fun r => rhN m r t (m 5).toNat) 0 (m 4).toNat := by
  have a := BP_le bp h5 hl (fun i _ _ _ => rfl)
  have b : sumF (fun r => rhN m r t (m 5).toNat) 0 (m 4).toNat ≤ sumF f 0 (m 4).toNat := by
    refine sumF_mo _ (fun j hj => ?_)
    obtain ⟨h1, h2, -⟩ := bp j (by omega) (by omega)
    rcases rhN_at (m := m) (W := t) (r := j) (m 5).toNat with h | ⟨i, i1, i2, h⟩
    · rw [h]; exact h1.1
    · rw [h]; exact h2 i (by omega) (by omega) i2 (hD i (by omega) (by omega))
  omega
theorem wC_cg {m V W : Int → Int} {i c : Int} (hc : blk m i 1 + blk m i 2 ≤ c) (h : ∀ x, blk m i 1 ≤ x → x < c → V x = W x) : wC m i V = wC m i W := by
  unfold wC
  rw [sumF_cg (V := W) _ (fun j h1 h2 => h j h1 (by omega))]
/-- a cell whose columns all have their needs has its minimum -/
theorem mn_t {m t : Int → Int} (w : WF m) {i c : Int} (hi : 0 ≤ i ∧ i < m 5) (hc : blk m i 1 + blk m i 2 ≤ c) (ht : ∀ x, 0 ≤ x → x < c → ndF m x ≤ t x ∧ t x ≤ 100) : mnC m i ≤ wC m i t ∧ wC m i t ≤ 406 := by
  have co := (w.2.2.1 i hi.1 hi.2).1
  unfold CO at co
  have h0 := w.1.1
  have e : wC m i t = wC m i (fun x => if x < c then t x else ndF m x) := wC_cg hc (fun x _ h2 => by rw [if_pos h2])
  have g := nd_GW w hi
  have mo := wC_mo w (V := ndF m) (W := fun x => if x < c then t x else ndF m x) hi (fun x x1 x2 => by
    by_cases q : x < c
    · rw [if_pos q]; exact (ht x x1 q).1
    · rw [if_neg q]; omega)
  have e2 : wC m i t = wC m i (fun x => if x < c then t x else 1) := wC_cg hc (fun x _ h2 => by rw [if_pos h2])
  have le := wC_le w (W := fun x => if x < c then t x else 1) (B := 100) hi (fun x x1 x2 => by
    by_cases q : x < c
    · rw [if_pos q]
      have := ht x x1 q
      have := ndF_bd w (c := x) ⟨x1, x2⟩
      omega
    · rw [if_neg q]; omega) (by omega)
  omega
theorem hC_t {m t : Int → Int} (w : WF m) {i c : Int} (hi : 0 ≤ i ∧ i < m 5) (hc : blk m i 1 + blk m i 2 ≤ c) (ht : ∀ x, 0 ≤ x → x < c → ndF m x ≤ t x ∧ t x ≤ 100) : (4 ≤ blk m i 3 → 1 ≤ wC m i t - 2 * m 3) ∧ (0 ≤ wC m i t ∧ wC m i t ≤ 406) ∧ 0 ≤ hC m i (wC m i t) ∧ hC m i (wC m i t) ≤ 28 := by
  have a := mn_t w hi hc ht
  have wb := (w.2.2.1 i hi.1 hi.2).2
  have mb := mnB_bd wb
  have hp := w.1.2.2.2.1
  unfold mnC at a
  have h1 : 4 ≤ blk m i 3 → 1 ≤ wC m i t - 2 * m 3 := fun z => by have := mb.2.2 z; omega
  have := hB_bd wb (x := wC m i t - 2 * m 3) h1
  unfold hC
  exact ⟨h1, by omega, by omega, by omega⟩
theorem g_bw56 {S C T : Nat} {m low t : Int → Int} (w : WF m) {c : Int} (hc : 0 ≤ c ∧ c < m 0) (ht : ∀ x, 0 ≤ x → x < c + 1 → ndF m x ≤ t x ∧ t x ≤ 100) : ∀ (d k : Nat) (h : Hp) (n : Nat) (f : Int → Int), (k : Int) + d = m 5 → d < n → LU h S C T → TM h T m → AR h (S + 47) (c + 1) t → AR h (S + 42 + (c + 1).toNat) (m 4) f → BP m low t (fun i => blk m i 1 + blk m i 2 ≤ c ∨ (blk m i 1 + blk m i 2 = c + 1 ∧ i < k)) f →
    ∃ h2 f2, f_X6_boundWith_L56 n h S (iN c) (S + 42 + (c + 1).toNat) (iN (2 * m 3)) (iN k) = some (h2, .inr (iN (m 2 * (m 4 + 1) + sumF f2 0 (m 4).toNat))) ∧ FZ (fun x j => pH T x j ∨ x = S + 42 + (c + 1).toNat) h h2 ∧ TM h2 T m ∧ AR h2 (S + 42 + (c + 1).toNat) (m 4) f2 ∧ BP m low t (fun i => blk m i 1 + blk m i 2 ≤ c + 1) f2 := by
  have hm := w.1.2.2.2.2.2
  have h4 := w.1.2.2.2.2.1
  have h0 := w.1.1
  have h3 := w.1.2.2.2.1
  intro d
  induction d with
  | zero =>
    intro k h n f hk hn l tm At Af bp
    obtain ⟨n, rfl⟩ : ∃ z, n = z + 1 := ⟨n - 1, by omega⟩
    refine ⟨h, f, ?_, FZ.rf, tm, Af, fun r r1 r2 => ?_⟩
    · show f_X6_boundWith_B56 (f_X6_boundWith_L56 n) h S (iN c) _ _ (iN k) = _
      unfold f_X6_boundWith_B56
      rw [chk_pos l.o, l.r0, chk_pos tm.1.o, tm.ns, if_pos (yleN (by omega) (by omega) (by omega)), g_sumOf w l tm (l.bo (by omega)) (l.bw (by omega)) Af, bnd_ret]
    · obtain ⟨b1, b2, b3⟩ := bp r r1 r2
      refine ⟨b1, fun i i1 i2 i3 i4 => b2 i i1 i2 i3 (by omega), b3.imp id (fun ⟨i, i1, i2, i3, q⟩ => ⟨i, i1, i2, i3, q.imp id (fun q => ⟨by have := q.1; omega, q.2⟩)⟩)⟩
  | succ d ih =>
    intro k h n f hk hn l tm At Af bp
    obtain ⟨n, rfl⟩ : ∃ z, n = z + 1 := ⟨n - 1, by omega⟩
    have st := l.st
    have hki : 0 ≤ (k : Int) ∧ (k : Int) < m 5 := by omega
    have cc := tm.cc hki.1 hki.2
    have co := (w.2.2.1 k hki.1 hki.2).1
    have wb := (w.2.2.1 k hki.1 hki.2).2
    unfold CO at co
    show ∃ h2 f2, f_X6_boundWith_B56 (f_X6_boundWith_L56 n) h S (iN c) _ _ (iN k) = _ ∧ _
    unfold f_X6_boundWith_B56 f_X6_boundWith_L143
    rw [chk_pos l.o, l.r0, chk_pos tm.1.o, tm.ns, if_neg (nleN (by omega) (by omega) (by omega)), tm.1.r8, chk_pos tm.1.o3, tm.1.w3, ck_in (by omega) (by omega) (by omega), cA_eq (by omega) (by omega), chk_pos (tm.1.co (by omega)), cc.1.2.1, cc.1.2.2, iN_add, iN_add]
    by_cases he : blk m k 1 + blk m k 2 = c + 1
    · obtain ⟨q1, q2, q3⟩ := hC_t w hki (by omega) ht
      have cl := tm.1.cl (i := k) (by omega)
      obtain ⟨h3', e3, f3, c3⟩ := g_hw cl cc.2 wb (x := wC m k t - 2 * m 3) (by omega) q1
      obtain ⟨t3, f3'⟩ := tm.hw hm hki f3 c3
      have l3 := l.ly f3.1
      obtain ⟨b1, -, -⟩ := bp (blk m k 0) (by omega) (by omega)
      have ec : cA h3' T k = cA h T k := cA_ly f3.1
      have cc3 := t3.cc hki.1 hki.2
      have co3 := t3.1.co (i := k) (by omega)
      rw [ec] at cc3 co3
      have Af3 : AR h3' (S + 42 + (c + 1).toNat) (m 4) f := Af.fz f3' (fun j z => by unfold pH at z; omega)
      have At3 : AR h3' (S + 47) (c + 1) t := At.fz f3' (fun j z => by unfold pH at z; omega)
      have rf := Af3 (blk m k 0) (by omega) (by omega)
      have eh : hB (blk m k) (wC m k t - 2 * m 3) + 2 * m 3 = hC m k (wC m k t) := rfl
      generalize hv : max (f (blk m k 0)) (hC m k (wC m k t)) = v
      have fp : FZ (pA (S + 42 + (c + 1).toNat)) h3' (putI h3' (S + 42 + (c + 1).toNat) (blk m k 0).toNat (iN v)) := FZ.pa
      have t4 := t3.fz hm fp (fun x j z1 z2 z3 => by unfold pA at z3; omega)
      obtain ⟨h2, f2, e2, g2, t2, a2, bp2⟩ := ih (k + 1) _ n (up f (blk m k 0) v) (by omega) (by omega) (l3.ly fp.1) t4 (At3.ne (by omega)) (Af3.put (k := blk m k 0) (v := v) (by omega)) (by
        intro r r1 r2
        obtain ⟨a1, a2, a3⟩ := bp r r1 r2
        by_cases hr : r = blk m k 0
        · subst hr
          rw [up_eq]
          refine ⟨by clear a3; omega, fun i i1 i2 i3 i4 => ?_, ?_⟩
          · clear a3
            by_cases hik : i = k
            · rw [hik]; omega
            · have := a2 i i1 i2 i3 (by omega)
              omega
          · by_cases q : hC m k (wC m k t) ≤ f (blk m k 0)
            · rw [← hv, Int.max_eq_left q]
              exact a3.imp id (fun ⟨i, i1, i2, i3, q⟩ => ⟨i, i1, i2, i3, q.imp id (fun q => ⟨by have := q.1; omega, q.2⟩)⟩)
            · rw [← hv, Int.max_eq_right (by omega)]
              exact Or.inr ⟨k, hki.1, hki.2, rfl, Or.inr ⟨by omega, rfl⟩⟩
        · rw [up_ne hr]
          refine ⟨a1, fun i i1 i2 i3 i4 => a2 i i1 i2 i3 ?_, a3.imp id (fun ⟨i, i1, i2, i3, q⟩ => ⟨i, i1, i2, i3, q.imp id (fun q => ⟨by have := q.1; omega, q.2⟩)⟩)⟩
          have : i ≠ k := fun z => hr (by rw [← i3, z])
          omega)
      refine ⟨h2, f2, ?_, ((f3'.mo (fun x j z => Or.inl z)).tr (fp.mo (fun x j z => Or.inr z))).tr g2, t2, a2, bp2⟩
      rw [if_pos (by rw [he]), tm.1.cr (by omega), chk_pos cl.1, l.r8, chk_pos l.o47, g_widthInA tm (tm.1.co (by omega)) cc (K := c + 1) (by omega) (by omega) (by omega) l.o47 l.w47 At, bnd_ret, chk_pos cl.1, iN_sub]
      rw [show m 2 * (blk m k 2 - 1) + sumF t (blk m k 1) (blk m k 2).toNat = wC m k t from rfl, e3, bnd_ret, chk_pos co3, chk_pos (l3.bo (by omega)), cc3.1.1, l3.bw (by omega), ck_in (by omega) (by omega) (by omega), iN_cl (by omega) (by omega), rf, iN_add, eh, g_jmax ⟨by omega, by omega⟩ ⟨by omega, by omega⟩, hv, lt_is, iN_add]
      exact e2
    · obtain ⟨h2, f2, e2, g2, t2, a2, bp2⟩ := ih (k + 1) h n f (by omega) (by omega) l tm At Af (fun r r1 r2 => by
        obtain ⟨b1, b2, b3⟩ := bp r r1 r2
        refine ⟨b1, fun i i1 i2 i3 i4 => b2 i i1 i2 i3 ?_, b3.imp id (fun ⟨i, i1, i2, i3, q⟩ => ⟨i, i1, i2, i3, q.imp id (fun q => ⟨by have := q.1; omega, q.2⟩)⟩)⟩
        by_cases q : i = k
        · rw [q] at i4 ⊢; omega
        · omega)
      refine ⟨h2, f2, ?_, g2, t2, a2, bp2⟩
      rw [if_neg (neN he (by omega) (by omega) (by omega) (by omega)), iN_add]
      exact e2
