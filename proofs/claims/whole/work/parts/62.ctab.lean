/-! ===== STAGE B: the class's table: what it holds, its questions ===== -/
def CO (m b : Int → Int) : Prop := (0 ≤ b 0 ∧ b 0 < m 4) ∧ 0 ≤ b 1 ∧ 1 ≤ b 2 ∧ b 1 + b 2 ≤ m 0
def SpO (s : Int) : Prop := s = 0 ∨ (101 ≤ s ∧ s ≤ 136) ∨ (201 ≤ s ∧ s ≤ 300)
def WF (m : Int → Int) : Prop := ((1 ≤ m 0 ∧ m 0 ≤ 4) ∧ (8 ≤ m 1 ∧ m 1 ≤ 36) ∧ (0 ≤ m 2 ∧ m 2 ≤ 2) ∧ (0 ≤ m 3 ∧ m 3 ≤ 2) ∧ (0 ≤ m 4 ∧ m 4 ≤ 6) ∧ (0 ≤ m 5 ∧ m 5 ≤ 16)) ∧ (∀ c, 0 ≤ c → c < 4 → SpO (m (6 + c))) ∧ (∀ i, 0 ≤ i → i < m 5 → CO m (blk m i) ∧ WB (blk m i)) ∧ ∀ i j, 0 ≤ i → i < j → j < m 5 → blk m i 0 = blk m j 0 → (blk m i 1 + blk m i 2 ≤ blk m j 1 ∨ blk m j 1 + blk m j 2 ≤ blk m i 1)
def tyS (s : Int) : Int := if s < 100 then 0 else if s < 200 then 1 else 2
def vaS (s : Int) : Int := if s < 100 then 0 else if s < 200 then s - 100 else s - 200
def LTb (h : Hp) (T : Nat) : Prop := (okr h T 7 ∧ qR h T 6 = T + 1 ∧ qR h T 7 = T + 2 ∧ qR h T 8 = T + 3) ∧ (okr h (T + 1) 20 ∧ okr h (T + 2) 20 ∧ okr h (T + 3) 25) ∧ (qW h (T + 1) = 4 ∧ qW h (T + 2) = 4 ∧ qW h (T + 3) = 16) ∧ (∀ k, k < 16 → okr h (T + 4 + 9 * k) 1 ∧ qR h (T + 4 + 9 * k) 3 = T + 4 + 9 * k + 1 ∧ LC h (T + 4 + 9 * k + 1)) ∧ (∀ i, i < 16 → ∃ k, k < 16 ∧ qR h (T + 3) i = T + 4 + 9 * k) ∧ ∀ i j, i < 16 → j < 16 → qR h (T + 3) i = qR h (T + 3) j → i = j
theorem LTb.ly {h h' : Hp} {T : Nat} (a : Ly h h') (l : LTb h T) : LTb h' T := by
  obtain ⟨h1, h2, h3, h4, h5, h6⟩ := l
  unfold LTb
  rw [a.ok, a.ok, a.ok, a.ok, a.2.2.1, a.2.2.2.1]
  exact ⟨h1, h2, h3, fun k hk => ⟨a.ok.mpr (h4 k hk).1, (h4 k hk).2.1, (h4 k hk).2.2.ly a⟩, h5, h6⟩
def cA (h : Hp) (T : Nat) (i : Int) : Nat := qR h (T + 3) i.toNat
theorem cA_ly {h h' : Hp} {T : Nat} {i : Int} (a : Ly h h') : cA h' T i = cA h T i := by unfold cA; rw [a.2.2.2.1]
theorem LTb.at {h : Hp} {T : Nat} (l : LTb h T) {i : Int} (hi : 0 ≤ i ∧ i < 16) : ∃ k, k < 16 ∧ cA h T i = T + 4 + 9 * k := l.2.2.2.2.1 i.toNat (by omega)
theorem LTb.o {h : Hp} {T : Nat} (l : LTb h T) : okr h T 7 := l.1.1
theorem LTb.r6 {h : Hp} {T : Nat} (l : LTb h T) : qR h T 6 = T + 1 := l.1.2.1
theorem LTb.r7 {h : Hp} {T : Nat} (l : LTb h T) : qR h T 7 = T + 2 := l.1.2.2.1
theorem LTb.r8 {h : Hp} {T : Nat} (l : LTb h T) : qR h T 8 = T + 3 := l.1.2.2.2
theorem LTb.o1 {h : Hp} {T : Nat} (l : LTb h T) : okr h (T + 1) 20 := l.2.1.1
theorem LTb.o2 {h : Hp} {T : Nat} (l : LTb h T) : okr h (T + 2) 20 := l.2.1.2.1
theorem LTb.o3 {h : Hp} {T : Nat} (l : LTb h T) : okr h (T + 3) 25 := l.2.1.2.2
theorem LTb.w1 {h : Hp} {T : Nat} (l : LTb h T) : qW h (T + 1) = 4 := l.2.2.1.1
theorem LTb.w2 {h : Hp} {T : Nat} (l : LTb h T) : qW h (T + 2) = 4 := l.2.2.1.2.1
theorem LTb.w3 {h : Hp} {T : Nat} (l : LTb h T) : qW h (T + 3) = 16 := l.2.2.1.2.2
theorem LTb.co {h : Hp} {T : Nat} (l : LTb h T) {i : Int} (hi : 0 ≤ i ∧ i < 16) : okr h (cA h T i) 1 := by
  obtain ⟨k, hk, e⟩ := l.at hi
  rw [e]; exact (l.2.2.2.1 k hk).1
theorem LTb.cr {h : Hp} {T : Nat} (l : LTb h T) {i : Int} (hi : 0 ≤ i ∧ i < 16) : qR h (cA h T i) 3 = cA h T i + 1 := by
  obtain ⟨k, hk, e⟩ := l.at hi
  rw [e]; exact (l.2.2.2.1 k hk).2.1
theorem LTb.cl {h : Hp} {T : Nat} (l : LTb h T) {i : Int} (hi : 0 ≤ i ∧ i < 16) : LC h (cA h T i + 1) := by
  obtain ⟨k, hk, e⟩ := l.at hi
  rw [e]; exact (l.2.2.2.1 k hk).2.2
theorem LTb.inj {h : Hp} {T : Nat} (l : LTb h T) {i j : Int} (hi : 0 ≤ i ∧ i < 16) (hj : 0 ≤ j ∧ j < 16) (e : cA h T i = cA h T j) : i = j := by
  have := l.2.2.2.2.2 i.toNat j.toNat (by omega) (by omega) e
  omega
def CC (h : Hp) (a : Nat) (b : Int → Int) : Prop := (qI h a 0 = iN (b 0) ∧ qI h a 1 = iN (b 1) ∧ qI h a 2 = iN (b 2)) ∧ HC h (a + 1) b
def RT (h : Hp) (T : Nat) (m : Int → Int) : Prop := (qI h T 0 = iN (m 1) ∧ qI h T 1 = iN (m 2) ∧ qI h T 2 = iN (m 3) ∧ qI h T 3 = iN (m 0) ∧ qI h T 4 = iN (m 4) ∧ qI h T 5 = iN (m 5)) ∧ AR h (T + 1) 4 (fun c => tyS (m (6 + c))) ∧ AR h (T + 2) 4 (fun c => vaS (m (6 + c))) ∧ ∀ i, 0 ≤ i → i < m 5 → CC h (cA h T i) (blk m i)
def TM (h : Hp) (T : Nat) (m : Int → Int) : Prop := LTb h T ∧ RT h T m
def pH (T x _j : Nat) : Prop := T + 4 ≤ x ∧ x < T + 148 ∧ 7 ≤ (x - (T + 4)) % 9
theorem CC.cg {h h2 : Hp} {a : Nat} {b : Int → Int} (c : CC h a b) (e : ∀ x j, a ≤ x → x ≤ a + 8 → x ≠ a + 7 → qI h2 x j = qI h x j) : CC h2 a b := by
  refine ⟨⟨?_, ?_, ?_⟩, c.2.cg (fun x j h1 h2 h3 => e x j (by omega) (by omega) (by omega))⟩
  · rw [e a 0 (by omega) (by omega) (by omega)]; exact c.1.1
  · rw [e a 1 (by omega) (by omega) (by omega)]; exact c.1.2.1
  · rw [e a 2 (by omega) (by omega) (by omega)]; exact c.1.2.2
/-- a table is kept where its cells, arrays and contents are kept -/
theorem TM.cg {h h2 : Hp} {T : Nat} {m : Int → Int} (t : TM h T m) (y : Ly h h2) (hm : 0 ≤ m 5 ∧ m 5 ≤ 16) (e : ∀ x j, T ≤ x → x < T + 148 → ¬ pH T x j → qI h2 x j = qI h x j) (c : ∀ i, 0 ≤ i → i < m 5 → HC h2 (cA h T i + 1) (blk m i)) : TM h2 T m := by
  obtain ⟨l, ⟨r0, r1, r2, r3, r4, r5⟩, a1, a2, rc⟩ := t
  have ee : ∀ x j, T ≤ x → x ≤ T + 3 → qI h2 x j = qI h x j := fun x j z1 z2 => e x j z1 (by omega) (by unfold pH; omega)
  refine ⟨l.ly y, ⟨?_, ?_, ?_, ?_, ?_, ?_⟩, fun k z1 z2 => ?_, fun k z1 z2 => ?_, fun i z1 z2 => ?_⟩
  · rw [ee T 0 (by omega) (by omega)]; exact r0
  · rw [ee T 1 (by omega) (by omega)]; exact r1
  · rw [ee T 2 (by omega) (by omega)]; exact r2
  · rw [ee T 3 (by omega) (by omega)]; exact r3
  · rw [ee T 4 (by omega) (by omega)]; exact r4
  · rw [ee T 5 (by omega) (by omega)]; exact r5
  · rw [ee (T + 1) _ (by omega) (by omega)]; exact a1 k z1 z2
  · rw [ee (T + 2) _ (by omega) (by omega)]; exact a2 k z1 z2
  · rw [cA_ly y]
    obtain ⟨k, hk, ek⟩ := l.at (i := i) (by omega)
    have ci := rc i z1 z2
    refine ⟨⟨?_, ?_, ?_⟩, c i z1 z2⟩
    · rw [e _ 0 (by omega) (by omega) (by unfold pH; omega)]; exact ci.1.1
    · rw [e _ 1 (by omega) (by omega) (by unfold pH; omega)]; exact ci.1.2.1
    · rw [e _ 2 (by omega) (by omega) (by unfold pH; omega)]; exact ci.1.2.2
/-- nothing of the table differs -/
theorem TM.fz {P : Nat → Nat → Prop} {h h2 : Hp} {T : Nat} {m : Int → Int} (t : TM h T m) (hm : 0 ≤ m 5 ∧ m 5 ≤ 16) (f : FZ P h h2) (hp : ∀ x j, T ≤ x → x < T + 148 → ¬ P x j) : TM h2 T m := by
  refine t.cg f.1 hm (fun x j z1 z2 _ => f.2 x j (hp x j z1 z2)) (fun i z1 z2 => ?_)
  obtain ⟨k, hk, ek⟩ := t.1.at (i := i) (by omega)
  exact (t.2.2.2.2 i z1 z2).2.cg (fun x j q1 q2 _ => f.2 x j (hp x j (by omega) (by omega)))
/-- one cell's caches differ -/
theorem TM.hw {h h2 : Hp} {T : Nat} {m : Int → Int} (t : TM h T m) (hm : 0 ≤ m 5 ∧ m 5 ≤ 16) {i : Int} (hi : 0 ≤ i ∧ i < m 5) (f : FZ (pQ (cA h T i + 1)) h h2) (c : HC h2 (cA h T i + 1) (blk m i)) : TM h2 T m ∧ FZ (pH T) h h2 := by
  obtain ⟨k, hk, ek⟩ := t.1.at (i := i) (by omega)
  refine ⟨t.cg f.1 hm (fun x j z1 z2 z3 => f.2 x j (fun z => z3 (by unfold pQ at z; unfold pH; omega))) (fun j z1 z2 => ?_), f.mo (fun x j z => by unfold pQ at z; unfold pH; omega)⟩
  by_cases hij : j = i
  · rw [hij]; exact c
  · obtain ⟨k2, hk2, ek2⟩ := t.1.at (i := j) (by omega)
    have hne : k2 ≠ k := fun z => hij (t.1.inj (by omega) (by omega) (by rw [ek, ek2, z]))
    exact (t.2.2.2.2 j z1 z2).2.cg (fun x jj q1 q2 q3 => f.2 x jj (fun z => by unfold pQ at z; omega))
theorem g_usable {h : Hp} {T : Nat} {m : Int → Int} (t : TM h T m) {x : Int} : f_X7_usableWidth h T (iN x) = some (h, .inr (iN (x - m 2 * (m 0 + 1)))) := by
  unfold f_X7_usableWidth
  rw [chk_pos t.1.o, t.2.1.2.1, t.2.1.2.2.2.1, iN_add, iN_mul, iN_sub]
theorem g_overlaps {h : Hp} {a : Nat} {b : Int → Int} (o : okr h a 1) (c : CC h a b) (hb : (0 ≤ b 1 ∧ b 1 ≤ 100) ∧ 0 ≤ b 2 ∧ b 2 ≤ 100) {x s : Int} (hx : -1000 ≤ x ∧ x ≤ 1000) (hs : -1000 ≤ s ∧ s ≤ 1000) : f_X1_overlaps h a (iN x) (iN s) = some (h, .inr (bN (b 1 < x + s ∧ x < b 1 + b 2))) := by
  unfold f_X1_overlaps bN
  rw [chk_pos o, c.1.2.1, c.1.2.2, iN_add, iN_add]
  by_cases h1 : x + s ≤ b 1
  · rw [if_pos ((iN_leO (by omega) (by omega) (by omega) (by omega)).mpr h1), if_neg (by omega)]
  · rw [if_neg (fun z => h1 ((iN_leO (by omega) (by omega) (by omega) (by omega)).mp z))]
    by_cases h2 : b 1 + b 2 ≤ x
    · rw [if_pos ((iN_leO (by omega) (by omega) (by omega) (by omega)).mpr h2), if_neg (by omega)]
    · rw [if_neg (fun z => h2 ((iN_leO (by omega) (by omega) (by omega) (by omega)).mp z)), if_pos (by omega)]
theorem g_minimumOf {h : Hp} {T : Nat} {m : Int → Int} (t : TM h T m) (w : WF m) {i : Int} (hi : 0 ≤ i ∧ i < m 5) : f_X7_minimumOf h T (cA h T i) = some (h, .inr (iN (mnC m i))) := by
  have hm := w.1.2.2.2.2.2
  have hi2 : 0 ≤ i ∧ i < 16 := by omega
  unfold f_X7_minimumOf mnC
  rw [chk_pos (t.1.co hi2), t.1.cr hi2, chk_pos (t.1.cl hi2).1, g_minC (t.1.cl hi2) (t.2.2.2.2 i hi.1 hi.2).2 (w.2.2.1 i hi.1 hi.2).2, bnd_ret, chk_pos t.1.o, t.2.1.2.2.1, iN_mul, iN_add]
theorem g_maximumOf {h : Hp} {T : Nat} {m : Int → Int} (t : TM h T m) (w : WF m) {i : Int} (hi : 0 ≤ i ∧ i < m 5) : f_X7_maximumOf h T (cA h T i) = some (h, .inr (iN (mxC m i))) := by
  have hm := w.1.2.2.2.2.2
  have hi2 : 0 ≤ i ∧ i < 16 := by omega
  unfold f_X7_maximumOf mxC
  rw [chk_pos (t.1.co hi2), t.1.cr hi2, chk_pos (t.1.cl hi2).1, g_maxC (t.1.cl hi2) (t.2.2.2.2 i hi.1 hi.2).2 (w.2.2.1 i hi.1 hi.2).2, bnd_ret, chk_pos t.1.o, t.2.1.2.2.1, iN_mul, iN_add]
theorem g_heightWithin {h : Hp} {T : Nat} {m : Int → Int} (t : TM h T m) (w : WF m) {i : Int} (hi : 0 ≤ i ∧ i < m 5) {x : Int} (hx : -10000 ≤ x ∧ x ≤ 10000) (hx1 : 4 ≤ blk m i 3 → 1 ≤ x - 2 * m 3) : ∃ h2, f_X7_heightWithin h T (cA h T i) (iN x) = some (h2, .inr (iN (hC m i x))) ∧ FZ (pH T) h h2 ∧ TM h2 T m := by
  have hm := w.1.2.2.2.2.2
  have hp := w.1.2.2.2.1
  have hi2 : 0 ≤ i ∧ i < 16 := by omega
  obtain ⟨h2, e, f, c⟩ := g_hw (t.1.cl hi2) (t.2.2.2.2 i hi.1 hi.2).2 (w.2.2.1 i hi.1 hi.2).2 (x := x - 2 * m 3) (by omega) hx1
  obtain ⟨t2, f2⟩ := t.hw hm hi f c
  refine ⟨h2, ?_, f2, t2⟩
  unfold f_X7_heightWithin hC
  rw [chk_pos (t.1.co hi2), t.1.cr hi2, chk_pos (t.1.cl hi2).1, chk_pos t.1.o, t.2.1.2.2.1, iN_mul, iN_sub, e, bnd_ret, chk_pos t2.1.o, t2.2.1.2.2.1, iN_mul, iN_add]
/-- W(c) + .. + W(c+n-1) -/
def sumF (W : Int → Int) (c : Int) : Nat → Int
  | 0 => 0
  | n + 1 => sumF W c n + W (c + n)
def wC (m : Int → Int) (i : Int) (W : Int → Int) : Int := m 2 * (blk m i 2 - 1) + sumF W (blk m i 1) (blk m i 2).toNat
theorem sumF_cg {W V : Int → Int} {c : Int} : ∀ n : Nat, (∀ j, c ≤ j → j < c + n → W j = V j) → sumF W c n = sumF V c n
  | 0, _ => rfl
  | n + 1, e => by
    rw [sumF, sumF, sumF_cg n (fun j h1 h2 => e j h1 (by omega)), e (c + n) (by omega) (by omega)]
theorem g_widthInL {h : Hp} {a arr : Nat} {b : Int → Int} (o : okr h a 1) (c : CC h a b) {N : Nat} {K : Int} (hb : 0 ≤ b 1 ∧ 1 ≤ b 2 ∧ b 1 + b 2 ≤ K) (hK : K ≤ N) (hN : N < 1000) (oa : okr h arr 20) (wa : qW h arr = N) {W : Int → Int} (A : AR h arr K W) : ∀ (d k : Nat) (acc : Int) (n : Nat), (k : Int) + d = b 2 → d < n → f_X7_widthIn_L18 n h a arr (iN (acc + sumF W (b 1) k)) (iN (b 1 + k)) = some (h, .inr (iN (acc + sumF W (b 1) (b 2).toNat))) := by
  intro d
  induction d with
  | zero =>
    intro k acc n hk hn
    obtain ⟨n, rfl⟩ : ∃ z, n = z + 1 := ⟨n - 1, by omega⟩
    show f_X7_widthIn_B18 (f_X7_widthIn_L18 n) h a arr _ _ = _
    unfold f_X7_widthIn_B18
    rw [chk_pos o, c.1.2.1, c.1.2.2, iN_add, if_pos ((iN_leO (by omega) (by omega) (by omega) (by omega)).mpr (by omega)), show (b 2).toNat = k by omega]
  | succ d ih =>
    intro k acc n hk hn
    obtain ⟨n, rfl⟩ : ∃ z, n = z + 1 := ⟨n - 1, by omega⟩
    show f_X7_widthIn_B18 (f_X7_widthIn_L18 n) h a arr _ _ = _
    unfold f_X7_widthIn_B18
    rw [chk_pos o, c.1.2.1, c.1.2.2, iN_add, if_neg (fun z => by have := (iN_leO (by omega) (by omega) (by omega) (by omega)).mp z; omega), chk_pos oa, wa, ck_in (by omega) (by omega) (by omega), iN_cl (by omega) (by omega), A (b 1 + k) (by omega) (by omega), iN_add, iN_add, Int.add_assoc]
    have := ih (k + 1) acc n (by omega) (by omega)
    rw [sumF] at this
    rw [show b 1 + (k : Int) + 1 = b 1 + ((k + 1 : Nat) : Int) by omega]
    exact this
theorem g_widthInA {h : Hp} {T a arr : Nat} {b m : Int → Int} (t : TM h T m) (o : okr h a 1) (c : CC h a b) {N : Nat} {K : Int} (hb : 0 ≤ b 1 ∧ 1 ≤ b 2 ∧ b 1 + b 2 ≤ K) (hK : K ≤ N) (hN : N < 1000) (oa : okr h arr 20) (wa : qW h arr = N) {W : Int → Int} (A : AR h arr K W) : f_X7_widthIn h T a arr = some (h, .inr (iN (m 2 * (b 2 - 1) + sumF W (b 1) (b 2).toNat))) := by
  unfold f_X7_widthIn
  have := g_widthInL o c hb hK hN oa wa A (b 2).toNat 0 (m 2 * (b 2 - 1)) 2000 (by omega) (by omega)
  rw [show sumF W (b 1) 0 = 0 from rfl, Int.add_zero, show b 1 + ((0 : Nat) : Int) = b 1 by omega] at this
  rw [chk_pos t.1.o, chk_pos o, t.2.1.2.1, c.1.2.2, c.1.2.1, iN_sub, iN_mul]
  exact this
theorem g_widthIn {h : Hp} {T arr : Nat} {m : Int → Int} (t : TM h T m) (w : WF m) {i : Int} (hi : 0 ≤ i ∧ i < m 5) (oa : okr h arr 20) (wa : qW h arr = 4) {W : Int → Int} (A : AR h arr (m 0) W) : f_X7_widthIn h T (cA h T i) arr = some (h, .inr (iN (wC m i W))) := by
  have hm := w.1.2.2.2.2.2
  have hc := (w.2.2.1 i hi.1 hi.2).1
  have h0 := w.1.1
  unfold CO at hc
  exact g_widthInA t (t.1.co (by omega)) (t.2.2.2.2 i hi.1 hi.2) (by omega) (by omega) (by omega) oa wa A
/-- widths in which every cell has its minimum -/
def GW (m W : Int → Int) : Prop := ∀ i, 0 ≤ i → i < m 5 → mnC m i ≤ wC m i W ∧ wC m i W ≤ 5000
theorem S_brk_len (room : Int) : ∀ (r : List (Int × Int)) (L : List Int) (u : Int) (o : Bool), (S_brk room r L u o).length ≤ L.length + r.length
  | [], L, u, o => Nat.le_refl _
  | (l, b) :: r, L, u, o => by
    rw [S_brk]
    split
    · have := S_brk_len room r (L ++ [0 + kE1 l b]) (0 + kP1 l b) (decide (b ≠ 1))
      rw [List.length_append] at this
      simp only [List.length_cons, List.length_nil] at this ⊢
      omega
    · have := S_brk_len room r (L.dropLast ++ [u + kE1 l b]) (u + kP1 l b) (decide (b ≠ 1))
      rw [List.length_append, List.length_dropLast] at this
      simp only [List.length_cons, List.length_nil] at this ⊢
      omega
theorem hB_bd {b : Int → Int} (w : WB b) {x : Int} (hx : 4 ≤ b 3 → 1 ≤ x) : 0 ≤ hB b x ∧ hB b x ≤ 24 := by
  have w1 := w.1
  have w3 := w.2.2.1
  have w4 := w.2.2.2.1
  unfold hB
  by_cases h3 : b 3 ≤ 3
  · rw [if_pos h3]
    have h1 := S_brk_len (x - indOf (b 3)) (psB b) [] 0 false
    have h2 := (psB_ok w).2.1
    simp only [List.length_nil] at h1
    unfold lnB
    split <;> omega
  · rw [if_neg h3]
    by_cases h4 : b 3 = 4
    · rw [if_pos h4]
      unfold picN
      by_cases hw : b 5 ≤ x
      · rw [if_pos hw]; omega
      · rw [if_neg hw]
        obtain ⟨-, -, t3, t4, -⟩ := pic_all (wd := b 5) (x := x) (ht := b 6) (by omega) (by omega) (by omega) (by omega) (by omega)
        omega
    · rw [if_neg h4]; omega
theorem S_mx_ge : ∀ (r : List (Int × Int)) (m : Int), m ≤ S_mx r m
  | [], m => Int.le_refl m
  | (l, b) :: r, m => by
    rw [S_mx]
    have := S_mx_ge r (max m (kE1 l b))
    omega
theorem S_mx_bd : ∀ (r : List (Int × Int)) (m B : Int), m ≤ B → (∀ p ∈ r, kE1 p.1 p.2 ≤ B) → S_mx r m ≤ B
  | [], m, B, h, _ => h
  | (l, b) :: r, m, B, h, hr => by
    rw [S_mx]
    exact S_mx_bd r _ B (by have := hr (l, b) (List.mem_cons_self ..); simp only at this; omega) (fun p hp => hr p (List.mem_cons_of_mem _ hp))
theorem mnB_bd {b : Int → Int} (w : WB b) : 0 ≤ mnB b ∧ mnB b ≤ 159 ∧ (4 ≤ b 3 → 1 ≤ mnB b) := by
  have w1 := w.1
  have w3 := w.2.2.1
  have i2 := indOf_bd (b 3)
  unfold mnB S_min
  by_cases h3 : b 3 ≤ 3
  · rw [if_pos h3]
    have h1 := S_mx_ge (psB b) 0
    have h2 := S_mx_bd (psB b) 0 157 (by omega) (fun p hp => by have := (psB_ok w).1 p hp; unfold kE1; split <;> omega)
    omega
  · rw [if_neg h3]
    by_cases h4 : b 3 = 4
    · rw [if_pos h4, Int.tdiv_eq_ediv_of_nonneg (by omega)]; omega
    · rw [if_neg h4]; omega
/-- a row's height -/
def rhN (m : Int → Int) (r : Int) (W : Int → Int) : Nat → Int
  | 0 => 0
  | k + 1 => if blk m k 0 = r then max (rhN m r W k) (hC m k (wC m k W)) else rhN m r W k
def taH (m W : Int → Int) : Int := m 2 * (m 4 + 1) + sumF (fun r => rhN m r W (m 5).toNat) 0 (m 4).toNat
theorem hC_bd {m W : Int → Int} (w : WF m) (g : GW m W) {i : Int} (hi : 0 ≤ i ∧ i < m 5) : (4 ≤ blk m i 3 → 1 ≤ wC m i W - 2 * m 3) ∧ (0 ≤ wC m i W ∧ wC m i W ≤ 5000) ∧ 0 ≤ hC m i (wC m i W) ∧ hC m i (wC m i W) ≤ 28 := by
  have gi := g i hi.1 hi.2
  have wb := (w.2.2.1 i hi.1 hi.2).2
  have mb := mnB_bd wb
  have hp := w.1.2.2.2.1
  unfold mnC at gi
  have h1 : 4 ≤ blk m i 3 → 1 ≤ wC m i W - 2 * m 3 := fun z => by have := mb.2.2 z; omega
  have := hB_bd wb (x := wC m i W - 2 * m 3) h1
  unfold hC
  exact ⟨h1, by omega, by omega, by omega⟩
theorem rhN_bd {m W : Int → Int} (w : WF m) (g : GW m W) {r : Int} : ∀ k : Nat, k ≤ m 5 → 0 ≤ rhN m r W k ∧ rhN m r W k ≤ 28
  | 0, _ => by rw [rhN]; omega
  | k + 1, hk => by
    have h1 := rhN_bd w g (r := r) k (by omega)
    have h2 := (hC_bd w g (i := k) (by omega)).2.2
    rw [rhN]
    split <;> omega
theorem g_heightIn {h : Hp} {T arr : Nat} {m : Int → Int} (t : TM h T m) (w : WF m) {i : Int} (hi : 0 ≤ i ∧ i < m 5) (oa : okr h arr 20) (wa : qW h arr = 4) {W : Int → Int} (A : AR h arr (m 0) W) (g : GW m W) : ∃ h2, f_X7_heightIn h T (cA h T i) arr = some (h2, .inr (iN (hC m i (wC m i W)))) ∧ FZ (pH T) h h2 ∧ TM h2 T m := by
  obtain ⟨b1, b2, b3⟩ := hC_bd w g hi
  obtain ⟨h2, e, f, t2⟩ := g_heightWithin t w hi (x := wC m i W) (by omega) b1
  refine ⟨h2, ?_, f, t2⟩
  unfold f_X7_heightIn
  simp only [chk_pos t.1.o, g_widthIn t w hi oa wa A, bnd_ret, e]
