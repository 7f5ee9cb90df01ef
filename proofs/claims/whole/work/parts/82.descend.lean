/-! ===== STAGE B: the class's search: boundWith, keepTried, descend ===== -/
theorem g_bw22 {S C T : Nat} {m low t f V : Int → Int} (w : WF m) {c : Int} (hc : 0 ≤ c ∧ c < m 0) (ht : ∀ x, 0 ≤ x → x < c + 1 → ndF m x ≤ t x ∧ t x ≤ 100) (bp : BP m low t (fun i => blk m i 1 + blk m i 2 ≤ c) f) : ∀ (d k : Nat) (h : Hp) (n : Nat), (k : Int) + d = m 4 → d < n → LU h S C T → TM h T m → AR h (S + 47) (c + 1) t → AR h (S + 42 + c.toNat) (m 4) f → AR h (S + 42 + (c + 1).toNat) (m 4) (fun x => if x < k then f x else V x) →
    ∃ h2 f2, f_X6_boundWith_L22 n h S (iN c) (S + 42 + (c + 1).toNat) (iN (2 * m 3)) (iN k) = some (h2, .inr (iN (m 2 * (m 4 + 1) + sumF f2 0 (m 4).toNat))) ∧ FZ (fun x j => pH T x j ∨ x = S + 42 + (c + 1).toNat) h h2 ∧ TM h2 T m ∧ AR h2 (S + 42 + (c + 1).toNat) (m 4) f2 ∧ BP m low t (fun i => blk m i 1 + blk m i 2 ≤ c + 1) f2 := by
  have hm := w.1.2.2.2.2.2
  have h4 := w.1.2.2.2.2.1
  have h0 := w.1.1
  intro d
  induction d with
  | zero =>
    intro k h n hk hn l tm At Af Ag
    obtain ⟨n, rfl⟩ : ∃ z, n = z + 1 := ⟨n - 1, by omega⟩
    obtain ⟨h2, f2, e2, g2, t2, a2, bp2⟩ := g_bw56 (low := low) (t := t) w hc ht (m 5).toNat 0 h 2000 f (by omega) (by omega) l tm At (Ag.cg (fun x x1 x2 => by rw [if_pos (by omega)])) (fun r r1 r2 => by
      obtain ⟨b1, b2, b3⟩ := bp r r1 r2
      exact ⟨b1, fun i i1 i2 i3 i4 => b2 i i1 i2 i3 (by omega), b3.imp id (fun ⟨i, i1, i2, i3, q⟩ => ⟨i, i1, i2, i3, q.imp id (fun q => ⟨Or.inl q.1, q.2⟩)⟩)⟩)
    refine ⟨h2, f2, ?_, g2, t2, a2, bp2⟩
    show f_X6_boundWith_B22 (f_X6_boundWith_L22 n) h S (iN c) _ _ (iN k) = _
    unfold f_X6_boundWith_B22
    rw [chk_pos l.o, l.r0, chk_pos tm.1.o, tm.rs, if_pos (yleN (by omega) (by omega) (by omega))]
    exact e2
  | succ d ih =>
    intro k h n hk hn l tm At Af Ag
    obtain ⟨n, rfl⟩ : ∃ z, n = z + 1 := ⟨n - 1, by omega⟩
    have st := l.st
    have fk := Af k (by omega) (by omega)
    have fp : FZ (pA (S + 42 + (c + 1).toNat)) h (putI h (S + 42 + (c + 1).toNat) (k : Int).toNat (iN (f k))) := FZ.pa
    obtain ⟨h2, f2, e2, g2, t2, a2, bp2⟩ := ih (k + 1) _ n (by omega) (by omega) (l.ly fp.1) (tm.fz hm fp (fun x j z1 z2 z3 => by unfold pA at z3; omega)) (At.ne (by omega)) (Af.ne (by omega)) ((Ag.put (k := k) (v := f k) (by omega)).cg (fun x x1 x2 => by
      unfold up
      by_cases hc2 : x = k
      · rw [if_pos hc2, if_pos (by omega), hc2]
      · rw [if_neg hc2]
        dsimp only
        by_cases hc : x < k
        · rw [if_pos hc, if_pos (by omega)]
        · rw [if_neg hc, if_neg (by omega)]))
    refine ⟨h2, f2, ?_, (fp.mo (fun x j z => Or.inr z)).tr g2, t2, a2, bp2⟩
    have e0 := l.br (d := c) (by omega)
    have o0 := l.bo (d := c.toNat) (by omega)
    have w0 := l.bw (d := c.toNat) (by omega)
    have o1 := l.bo (d := (c + 1).toNat) (by omega)
    have w1 := l.bw (d := (c + 1).toNat) (by omega)
    show f_X6_boundWith_B22 (f_X6_boundWith_L22 n) h S (iN c) _ _ (iN k) = _
    unfold f_X6_boundWith_B22
    rw [chk_pos l.o, l.r0, chk_pos tm.1.o, tm.rs, if_neg (nleN (by omega) (by omega) (by omega)), l.r7, chk_pos l.o41, l.w41, ck_in (by omega) (by omega) (by omega), e0, chk_pos o0, w0, ck_in (by omega) (by omega) (by omega), chk_pos o1, w1, ck_in (by omega) (by omega) (by omega), iN_cl (z := (k : Int)) (by omega) (by omega), fk, lt_is, iN_add]
    exact e2
theorem g_boundWith {h : Hp} {S C T : Nat} {m low t f : Int → Int} (w : WF m) {c : Int} (hc : 0 ≤ c ∧ c < m 0) (ht : ∀ x, 0 ≤ x → x < c + 1 → ndF m x ≤ t x ∧ t x ≤ 100) (bp : BP m low t (fun i => blk m i 1 + blk m i 2 ≤ c) f) (l : LU h S C T) (tm : TM h T m) (At : AR h (S + 47) (c + 1) t) (Af : AR h (S + 42 + c.toNat) (m 4) f) :
    ∃ h2 f2, f_X6_boundWith h S (iN c) = some (h2, .inr (iN (m 2 * (m 4 + 1) + sumF f2 0 (m 4).toNat))) ∧ FZ (fun x j => pH T x j ∨ x = S + 42 + (c + 1).toNat) h h2 ∧ TM h2 T m ∧ AR h2 (S + 42 + (c + 1).toNat) (m 4) f2 ∧ BP m low t (fun i => blk m i 1 + blk m i 2 ≤ c + 1) f2 := by
  have h4 := w.1.2.2.2.2.1
  have h0 := w.1.1
  obtain ⟨V, Ag⟩ := AR.any h (S + 42 + (c + 1).toNat) (m 4)
  obtain ⟨h2, f2, e2, g2, t2, a2, bp2⟩ := g_bw22 (V := V) w hc ht bp (m 4).toNat 0 h 2000 (by omega) (by omega) l tm At Af (Ag.cg (fun x x1 x2 => by rw [if_neg (by omega)]))
  refine ⟨h2, f2, ?_, g2, t2, a2, bp2⟩
  have e1 := l.br (d := c + 1) (by omega)
  have o1 := l.bo (d := (c + 1).toNat) (by omega)
  unfold f_X6_boundWith
  rw [chk_pos l.o, l.r7, chk_pos l.o41, iN_add, l.w41, ck_in (by omega) (by omega) (by omega), e1, chk_pos o1, l.r0, chk_pos tm.1.o, tm.pd, iN_mul]
  exact e2
/-- the search's result so far: s, in the row of the asked width a -/
def CS (h : Hp) (S : Nat) (m : Int → Int) (L a : Int) (s : BS) : Prop := qI h S 11 = iN s.1 ∧ (s.1 < L → AR h (S + 3 + a.toNat) (m 0) s.2)
theorem g_keepL {S C T : Nat} {m t V : Int → Int} (w : WF m) {a : Int} (ha : 0 ≤ a ∧ a < 37) : ∀ (d k : Nat) (h : Hp) (n : Nat), (k : Int) + d = m 0 → d < n → LU h S C T → TM h T m → qI h S 10 = iN a → AR h (S + 47) (m 0) t → AR h (S + 3 + a.toNat) (m 0) (fun x => if x < k then t x else V x) →
    ∃ h2, f_X6_keepTried_L22 n h S (iN k) = some (h2, .inr ()) ∧ FZ (pA (S + 3 + a.toNat)) h h2 ∧ AR h2 (S + 3 + a.toNat) (m 0) t := by
  have hm := w.1.2.2.2.2.2
  have h0 := w.1.1
  intro d
  induction d with
  | zero =>
    intro k h n hk hn l tm q10 At A
    obtain ⟨n, rfl⟩ : ∃ z, n = z + 1 := ⟨n - 1, by omega⟩
    refine ⟨h, ?_, FZ.rf, A.cg (fun x x1 x2 => by rw [if_pos (by omega)])⟩
    show f_X6_keepTried_B22 (f_X6_keepTried_L22 n) h S (iN k) = _
    unfold f_X6_keepTried_B22
    rw [chk_pos l.o, l.r0, chk_pos tm.1.o, tm.cs, if_pos (yleN (by omega) (by omega) (by omega))]
  | succ d ih =>
    intro k h n hk hn l tm q10 At A
    obtain ⟨n, rfl⟩ : ∃ z, n = z + 1 := ⟨n - 1, by omega⟩
    have st := l.st
    have tk := At k (by omega) (by omega)
    have fp : FZ (pA (S + 3 + a.toNat)) h (putI h (S + 3 + a.toNat) (k : Int).toNat (iN (t k))) := FZ.pa
    obtain ⟨h2, e2, g2, a2⟩ := ih (k + 1) _ n (by omega) (by omega) (l.ly fp.1) (tm.fz hm fp (fun x j z1 z2 z3 => by unfold pA at z3; omega)) (by rw [rd_ne (by omega)]; exact q10) (At.ne (by omega)) ((A.put (k := k) (v := t k) (by omega)).cg (fun x x1 x2 => by
      unfold up
      by_cases hc2 : x = k
      · rw [if_pos hc2, if_pos (by omega), hc2]
      · rw [if_neg hc2]
        dsimp only
        by_cases hc : x < k
        · rw [if_pos hc, if_pos (by omega)]
        · rw [if_neg hc, if_neg (by omega)]))
    refine ⟨h2, ?_, fp.tr g2, a2⟩
    have e0 := l.lr (x := a) ha
    have o0 := l.lo (x := a.toNat) (by omega)
    have w0 := l.lw (x := a.toNat) (by omega)
    show f_X6_keepTried_B22 (f_X6_keepTried_L22 n) h S (iN k) = _
    unfold f_X6_keepTried_B22
    rw [chk_pos l.o, l.r0, chk_pos tm.1.o, tm.cs, if_neg (nleN (by omega) (by omega) (by omega)), l.r3, chk_pos l.o2, q10, l.w2, ck_in (by omega) (by omega) (by omega), e0, chk_pos o0, l.r8, chk_pos l.o47, l.w47, ck_in (by omega) (by omega) (by omega), w0, ck_in (by omega) (by omega) (by omega), iN_cl (z := (k : Int)) (by omega) (by omega), tk, lt_is, iN_add]
    exact e2
/-- what descending from column c may touch -/
def pD (T S : Nat) (c a : Int) (x j : Nat) : Prop := pH T x j ∨ (x = S ∧ j = 11) ∨ (x = S + 47 ∧ c.toNat ≤ j) ∨ (S + 43 + c.toNat ≤ x ∧ x ≤ S + 46) ∨ x = S + 3 + a.toNat
theorem g_keep9 {h : Hp} {S C T : Nat} {m t low f : Int → Int} (w : WF m) {a L : Int} (ha : 0 ≤ a ∧ a < 37) (l : LU h S C T) (tm : TM h T m) (q10 : qI h S 10 = iN a) (At : AR h (S + 47) (m 0) t) (Af : AR h (S + 42 + (m 0).toNat) (m 4) f) (bp : BP m low t (fun i => blk m i 1 + blk m i 2 ≤ m 0) f) (hl : ∀ i, 0 ≤ i → i < m 5 → low i ≤ hC m i (wC m i t)) :
    ∃ h2, f_X6_keepTried h S = some (h2, .inr ()) ∧ FZ (pD T S (m 0) a) h h2 ∧ TM h2 T m ∧ CS h2 S m L a (taH m t, t) := by
  have hm := w.1.2.2.2.2.2
  have h0 := w.1.1
  have st := l.st
  have es : m 2 * (m 4 + 1) + sumF f 0 (m 4).toNat = taH m t := by
    unfold taH
    rw [BP_eq bp hm.1 hl (fun i i1 i2 => by have := (w.2.2.1 i i1 i2).1; unfold CO at this; omega)]
  have f1 : FZ (pD T S (m 0) a) h (putI h S 11 (iN (taH m t))) := FZ.pI (Or.inr (Or.inl ⟨rfl, rfl⟩))
  have t1 := tm.fz (P := fun x j => x = S) hm (FZ.pI rfl : FZ (fun x j => x = S) h (putI h S 11 (iN (taH m t)))) (fun x j z1 z2 z3 => by omega)
  obtain ⟨V, A⟩ := AR.any (putI h S 11 (iN (taH m t))) (S + 3 + a.toNat) (m 0)
  obtain ⟨h2, e2, g2, a2⟩ := g_keepL (V := V) w ha (m 0).toNat 0 _ 2000 (by omega) (by omega) (l.ly f1.1) t1 (by rw [rd_nk (by omega)]; exact q10) (At.ne (by omega)) (A.cg (fun x x1 x2 => by rw [if_neg (by omega)]))
  refine ⟨h2, ?_, f1.tr (g2.mo (fun x j z => by unfold pA at z; exact Or.inr (Or.inr (Or.inr (Or.inr z))))), t1.fz hm g2 (fun x j z1 z2 z3 => by unfold pA at z3; omega), ?_, fun _ => a2⟩
  · have e1 := l.br (d := m 0) (by omega)
    have o1 := l.bo (d := (m 0).toNat) (by omega)
    have w1 := l.bw (d := (m 0).toNat) (by omega)
    unfold f_X6_keepTried
    rw [chk_pos l.o, l.r7, chk_pos l.o41, l.r0, chk_pos tm.1.o, tm.cs, l.w41, ck_in (by omega) (by omega) (by omega), e1, chk_pos o1, g_sumOf w l tm o1 w1 Af, bnd_ret, chk_pos l.o, es, lt_is]
    exact e2
  · rw [g2.2 S 11 (fun z => by unfold pA at z; omega), rd_eq]
theorem wloop_in {α : Type} {f : Int → List α} {x : α} : ∀ (k : Nat) (w v : Int), w ≤ v → v < w + k → x ∈ f v → x ∈ wloop f k w
  | 0, w, v, h1, h2, _ => by omega
  | k + 1, w, v, h1, h2, h => by
    rw [wloop, List.mem_append]
    by_cases e : v = w
    · rw [e] at h; exact Or.inl h
    · exact Or.inr (wloop_in k (w + 1) v (by omega) (by omega) h)
/-- the search below column c: state and frame -/
def Dsp (m low : Int → Int) (S C T : Nat) (a L sl0 : Int) (d n : Nat) : Prop := ∀ (h : Hp) (c sl : Int) (t f : Int → Int) (s : BS), 0 ≤ c → c + d = m 0 → 0 ≤ sl → (sl = 0 ∨ c ≤ lfF m (m 0).toNat) → LU h S C T → TM h T m → qI h S 10 = iN a → qI h S 6 = iN (lfF m (m 0).toNat) → AR h (S + 40) (m 0) (ndF m) → AR h (S + 47) c t → AR h (S + 42 + c.toNat) (m 4) f → BP m low t (fun i => blk m i 1 + blk m i 2 ≤ c) f → (∀ x, 0 ≤ x → x < c → ndF m x ≤ t x ∧ t x ≤ 100) → (∀ x, c ≤ x → x < m 0 → ndF m x + sl ≤ 100) → (∀ t2, t2 ∈ layC m (lfF m (m 0).toNat) d c sl t → t2 ∈ layC m (lfF m (m 0).toNat) (m 0).toNat 0 sl0 (fun _ => 0)) → CS h S m L a s → -10 ≤ s.1 → s.1 ≤ 2000000 → (d = 0 → m 2 * (m 4 + 1) + sumF f 0 (m 4).toNat < s.1) →
  ∃ h2, f_X6_descend n h S (iN c) (iN sl) = some (h2, .inr ()) ∧ FZ (pD T S c a) h h2 ∧ TM h2 T m ∧ CS h2 S m L a (foB (taH m) s (layC m (lfF m (m 0).toNat) d c sl t))
theorem foB_le {H : (Int → Int) → Int} : ∀ (L : List (Int → Int)) (s : BS), (foB H s L).1 ≤ s.1
  | [], s => Int.le_refl _
  | t :: L, s => by
    have := foB_le (H := H) L (stB H s t)
    show (foB H (stB H s t) L).1 ≤ s.1
    unfold stB at this ⊢
    split at this <;> split <;> first | omega | (exfalso; omega)
theorem foB_ge {H : (Int → Int) → Int} {B : Int} : ∀ (L : List (Int → Int)) (s : BS), B ≤ s.1 → (∀ t ∈ L, B ≤ H t) → B ≤ (foB H s L).1
  | [], s, h, _ => h
  | t :: L, s, h, hL => by
    refine foB_ge L (stB H s t) ?_ (fun x hx => hL x (List.mem_cons_of_mem _ hx))
    have := hL t (List.mem_cons_self ..)
    unfold stB
    split
    · exact this
    · exact h
