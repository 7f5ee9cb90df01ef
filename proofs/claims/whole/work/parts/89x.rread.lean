/-! ===== STAGE B: the reference reads ===== -/
abbrev jN (z : Int) : Int64 := Int64.ofInt z
theorem jN_toInt {z : Int} (h : -9000000000000000000 ≤ z ∧ z ≤ 9000000000000000000) : (jN z).toInt = z := by
  rw [Int64.toInt_ofInt, show Int64.size = 18446744073709551616 from rfl]
  rw [Int.bmod_def]
  split <;> omega
theorem jN_add (a b : Int) : jN a + jN b = jN (a + b) := (Int64.ofInt_add a b).symm
theorem jN_sub (a b : Int) : jN a - jN b = jN (a - b) := (Int64.ofInt_sub a b).symm
theorem jN_mul (a b : Int) : jN a * jN b = jN (a * b) := (Int64.ofInt_mul a b).symm
theorem jN_of {c : Int} (h : InR c) : Int32.toInt64 (iN c) = jN c := by
  unfold InR at h
  apply Int64.toInt_inj.mp
  rw [Int32.toInt_toInt64, iN_toInt h, jN_toInt (by omega)]
theorem lg_eq {a b : Int64} : lg_cmp a b = 0 ↔ a = b := by
  unfold lg_cmp
  by_cases h : a > b
  · rw [if_pos h]
    exact ⟨fun z => absurd z (by decide), fun z => by
      rw [z] at h
      exact absurd h Int64.lt_irrefl⟩
  · rw [if_neg h]
    by_cases e : a = b
    · rw [if_pos e]
      exact ⟨fun _ => e, fun _ => rfl⟩
    · rw [if_neg e]
      exact ⟨fun z => absurd z (by decide), fun z => absurd z e⟩
theorem lg_eqN {a b : Int} (ha : -9000000000000000000 ≤ a ∧ a ≤ 9000000000000000000) (hb : -9000000000000000000 ≤ b ∧ b ≤ 9000000000000000000) : lg_cmp (jN a) (jN b) = 0 ↔ a = b := by
  rw [lg_eq, ← Int64.toInt_inj, jN_toInt ha, jN_toInt hb]
theorem lg_geN {a : Int} (ha : -9000000000000000000 ≤ a ∧ a ≤ 9000000000000000000) : 0 ≤ lg_cmp (jN a) (Int64.ofNat 0) ↔ 0 ≤ a := by
  rw [lg_cmp_ge, show Int64.ofNat 0 = jN 0 from rfl, Int64.le_iff_toInt_le, jN_toInt ha, jN_toInt (by omega)]
/-! letters as a number -/
def encF (B : Int → Int) (p : Int) : Nat → Int
  | 0 => 0
  | n + 1 => 27 * encF B p n + B (p + n) - 97 + 1
theorem encF_bd {B : Int → Int} {p : Int} : ∀ n : Nat, (∀ k, p ≤ k → k < p + n → isL (B k)) → n ≤ 7 → 0 ≤ encF B p n ∧ encF B p n + 1 ≤ 27 ^ n ∧ (0 < n → 1 ≤ encF B p n)
  | 0, _, _ => by rw [encF]; decide
  | n + 1, h, hn => by
    have h1 := encF_bd n (fun k k1 k2 => h k k1 (by omega)) (by omega)
    have h2 := h (p + n) (by omega) (by omega)
    have h3 : (27 : Int) ^ (n + 1) = 27 ^ n * 27 := Int.pow_succ 27 n
    rw [encF]
    omega
theorem encF_inj {B C : Int → Int} {p q : Int} : ∀ (n k : Nat), (∀ j, p ≤ j → j < p + n → isL (B j)) → (∀ j, q ≤ j → j < q + k → isL (C j)) → n ≤ 7 → k ≤ 7 → encF B p n = encF C q k → n = k ∧ ∀ j : Nat, j < n → B (p + j) = C (q + j)
  | 0, 0, _, _, _, _, _ => ⟨rfl, fun j h => by omega⟩
  | 0, k + 1, h1, h2, n7, k7, e => by
    have := (encF_bd (k + 1) h2 k7).2.2 (by omega)
    rw [encF] at e
    omega
  | n + 1, 0, h1, h2, n7, k7, e => by
    have := (encF_bd (n + 1) h1 n7).2.2 (by omega)
    rw [encF.eq_1] at e
    omega
  | n + 1, k + 1, h1, h2, n7, k7, e => by
    have a := h1 (p + n) (by omega) (by omega)
    have b := h2 (q + k) (by omega) (by omega)
    rw [encF, encF] at e
    have e2 : encF B p n = encF C q k ∧ B (p + n) = C (q + k) := by omega
    obtain ⟨e3, e4⟩ := encF_inj n k (fun j j1 j2 => h1 j j1 (by omega)) (fun j j1 j2 => h2 j j1 (by omega)) (by omega) (by omega) e2.1
    subst e3
    refine ⟨rfl, fun j hj => ?_⟩
    by_cases z : j = n
    · rw [z]; exact e2.2
    · exact e4 j (by omega)
def stF (j : Nat) (k : Int) : Int := (stZ j).getD k.toNat 0
theorem st_let : ((List.range 10).all fun j => (List.range (stZ j).length).all fun i => decide (97 ≤ (stZ j).getD i 0 ∧ (stZ j).getD i 0 ≤ 122)) = true := by decide +kernel
theorem stF_let {j : Nat} (hj : j < 10) {k : Int} (h0 : 0 ≤ k) (h1 : k < 0 + ((stZ j).length : Int)) : isL (stF j k) := by
  have h := List.all_eq_true.mp st_let j (List.mem_range.mpr hj)
  have h2 := List.all_eq_true.mp h k.toNat (List.mem_range.mpr (by omega))
  rw [decide_eq_true_eq] at h2
  exact h2
theorem spB_iff {B : Int → Int} : ∀ (l : List Int) (p : Int), spB B p l = true ↔ ∀ i : Nat, i < l.length → B (p + i) = l.getD i 0
  | [], p => ⟨fun _ i h => absurd h (Nat.not_lt_zero i), fun _ => rfl⟩
  | c :: l, p => by
    rw [spB, Bool.and_eq_true, decide_eq_true_eq, spB_iff l (p + 1)]
    constructor
    · intro z i hi
      match i with
      | 0 =>
        rw [show p + ((0 : Nat) : Int) = p by omega]
        exact z.1
      | i + 1 =>
        rw [show p + ((i + 1 : Nat) : Int) = p + 1 + (i : Int) by omega]
        exact z.2 i (by rw [List.length_cons] at hi; omega)
    · intro z
      refine ⟨?_, fun i hi => ?_⟩
      · have := z 0 (by rw [List.length_cons]; omega)
        rw [show p + ((0 : Nat) : Int) = p by omega] at this
        exact this
      · have := z (i + 1) (by rw [List.length_cons]; omega)
        rw [show p + ((i + 1 : Nat) : Int) = p + 1 + (i : Int) by omega] at this
        exact this
/-- the number of a word that is read: more than seven letters are none of ours -/
def wvZ (B : Int → Int) (p q : Int) : Int := if q - p ≤ 7 then encF B p (q - p).toNat else -1
theorem wv_st {B : Int → Int} {p q : Int} {j : Nat} (hj : j < 10) (hq : p ≤ q) (hl : ∀ k, p ≤ k → k < q → isL (B k)) : wvZ B p q = encF (stF j) 0 (stZ j).length ↔ spW B p q (stZ j) = true := by
  have sl := st_len (show j < 12 by omega)
  have sb := encF_bd (B := stF j) (p := 0) (stZ j).length (fun k k1 k2 => stF_let hj k1 k2) (by omega)
  unfold wvZ spW
  rw [Bool.and_eq_true, decide_eq_true_eq, spB_iff]
  by_cases z : q - p ≤ 7
  · rw [if_pos z]
    constructor
    · intro e
      obtain ⟨e1, e2⟩ := encF_inj (q - p).toNat (stZ j).length (fun k k1 k2 => hl k k1 (by omega)) (fun k k1 k2 => stF_let hj k1 k2) (by omega) (by omega) e
      refine ⟨by omega, fun i hi => ?_⟩
      rw [e2 i (by omega)]
      unfold stF
      rw [show (0 + (i : Int)).toNat = i by omega]
    · intro ⟨e1, e2⟩
      rw [show (q - p).toNat = (stZ j).length by omega]
      have cg : ∀ n : Nat, n ≤ (stZ j).length → encF B p n = encF (stF j) 0 n := by
        intro n
        induction n with
        | zero => intro _; rfl
        | succ n ih =>
          intro hn
          rw [encF, encF, ih (by omega), e2 n (by omega)]
          unfold stF
          rw [show (0 + (n : Int)).toNat = n by omega]
      exact cg _ (Nat.le_refl _)
  · rw [if_neg z]
    constructor
    · intro e
      omega
    · intro ⟨e1, e2⟩
      omega
/-! the reader's state -/
def p9 (x j : Nat) : Prop := x = 632 ∧ (j = 7 ∨ j = 12 ∨ j = 15)
def Y9 (h : Hp) (m B : Int → Int) (L p : Int) : Prop := RM h 632 m ∧ qI h 632 6 = iN L ∧ AR h 636 L B ∧ qI h 632 12 = iN p ∧ qI h 632 7 = iN (-1)
theorem Y9.st {h h2 : Hp} {m B : Int → Int} {L p q : Int} (y : Y9 h m B L p) (f : FZ p9 h h2) (e : qI h2 632 12 = iN q) (e7 : qI h2 632 7 = iN (-1)) : Y9 h2 m B L q := ⟨y.1.fz f (fun j z => by unfold p9 at z; omega), (f.2 _ _ (fun z => by unfold p9 at z; omega)).trans y.2.1, y.2.2.1.fz f (fun j z => by unfold p9 at z; omega), e, e7⟩
def Of9 (h : Hp) (e : Int) : Prop := LM h 632 ∧ (0 ≤ e ∧ e ≤ 60) ∧ qI h 632 7 = iN e
def R9 {α : Type} (h : Hp) (r : PR) (V : Int → α) (x : Option (Rs α)) : Prop := match r with
  | .inl e => (0 ≤ e ∧ e ≤ 60) ∧ ∃ h2 w, x = some (h2, .inr w) ∧ FZ p9 h h2 ∧ qI h2 632 7 = iN e
  | .inr (q, v) => ∃ h2, x = some (h2, .inr (V v)) ∧ FZ p9 h h2 ∧ qI h2 632 12 = iN q ∧ qI h2 632 7 = iN (-1)
theorem R9.bd {α β : Type} {h : Hp} (lm : LM h 632) {r : PR} {V : Int → α} {W : Int → β} {x : Option (Rs α)} {k : Int → Int → PR} {kx : Hp → α → Option (Rs β)} (a : R9 h r V x) (b : ∀ h2 q v, r = .inr (q, v) → FZ p9 h h2 → qI h2 632 12 = iN q → qI h2 632 7 = iN (-1) → R9 h2 (k q v) W (kx h2 (V v))) (o : ∀ h2 w e, Of9 h2 e → ∃ h3 w3, kx h2 w = some (h3, .inr w3) ∧ FZ p9 h2 h3 ∧ qI h3 632 7 = iN e) : R9 h (bdP r k) W (bnd x kx) := by
  match r, a with
  | .inl e, a =>
    obtain ⟨eb, h2, w, e2, f2, q2⟩ := a
    obtain ⟨h3, w3, e3, f3, q3⟩ := o h2 w e ⟨lm.ly f2.1, eb, q2⟩
    exact ⟨eb, h3, w3, by rw [e2, bnd_ret, e3], f2.tr f3, q3⟩
  | .inr (q, v), a =>
    obtain ⟨h2, e2, f2, q2, q7⟩ := a
    have c := b h2 q v rfl f2 q2 q7
    rw [e2, bnd_ret]
    show R9 h (k q v) W (kx h2 (V v))
    revert c
    generalize k q v = r2
    intro c
    match r2, c with
    | .inl e, c =>
      obtain ⟨eb, h3, w3, e3, f3, q3⟩ := c
      exact ⟨eb, h3, w3, e3, f2.tr f3, q3⟩
    | .inr (q', v'), c =>
      obtain ⟨h3, e3, f3, q3⟩ := c
      exact ⟨h3, e3, f2.tr f3, q3⟩
theorem FZ.n7 {h : Hp} {v : Int32} : FZ p9 h (putI h 632 7 v) := FZ.pI ⟨rfl, Or.inl rfl⟩
theorem FZ.n12 {h : Hp} {v : Int32} : FZ p9 h (putI h 632 12 v) := FZ.pI ⟨rfl, Or.inr (Or.inl rfl)⟩
theorem FZ.n15 {h : Hp} {v : Int32} : FZ p9 h (putI h 632 15 v) := FZ.pI ⟨rfl, Or.inr (Or.inr rfl)⟩
theorem g_here {h : Hp} {m B : Int → Int} {L p : Int} (tx : TXo B L) (y : RM h 632 m ∧ qI h 632 6 = iN L ∧ AR h 636 L B ∧ qI h 632 12 = iN p) (hp : 0 ≤ p ∧ p ≤ 100) : f_X9_here h 632 = some (h, .inr (iN (chT B L p))) := by
  obtain ⟨r, y6, A, y12⟩ := y
  have hL := tx.1
  unfold f_X9_here
  rw [chk_pos r.1.1, y6, y12]
  by_cases z : p < L
  · rw [if_neg (nleN (by omega) (by omega) (by omega)), r.1.r5, chk_pos r.1.o5, r.1.w5, ck_in (by omega) (by omega) (by omega), iN_cl (by omega) (by omega), show qI h (632 + 4) p.toNat = iN (B p) from A p hp.1 z, chT_in z]
  · rw [if_pos (yleN (by omega) (by omega) (by omega)), show chT B L p = -1 from if_neg z]
theorem Y9.h {h : Hp} {m B : Int → Int} {L p : Int} (y : Y9 h m B L p) : RM h 632 m ∧ qI h 632 6 = iN L ∧ AR h 636 L B ∧ qI h 632 12 = iN p := ⟨y.1, y.2.1, y.2.2.1, y.2.2.2.1⟩
theorem g_isOff0 {h : Hp} (lm : LM h 632) (e : qI h 632 7 = iN (-1)) : f_X9_isOff h 632 = some (h, .inr (iN 0)) := by
  unfold f_X9_isOff
  rw [chk_pos lm.1, if_pos e]
theorem g_isOff1 {h : Hp} {e : Int} (o : Of9 h e) : f_X9_isOff h 632 = some (h, .inr (iN 1)) := by
  obtain ⟨lm, eb, q⟩ := o
  unfold f_X9_isOff
  rw [chk_pos lm.1, q, if_neg (neN (by omega) (by omega) (by omega) (by omega) (by omega))]
theorem g_off0 {h : Hp} {x : Int32} (lm : LM h 632) (e : qI h 632 7 = iN (-1)) : f_X9_off h 632 x = some (putI h 632 7 x, .inr ()) := by
  unfold f_X9_off f_X9_off_L16
  rw [chk_pos lm.1, g_isOff0 lm e, bnd_ret, if_pos (by decide), chk_pos lm.1, lt_is]
theorem g_off1 {h : Hp} {x : Int32} {e : Int} (o : Of9 h e) : f_X9_off h 632 x = some (putI h 632 7 (iN e), .inr ()) := by
  unfold f_X9_off f_X9_off_L16
  rw [chk_pos o.1.1, g_isOff1 o, bnd_ret, if_neg (by decide), chk_pos o.1.1, chk_pos o.1.1, lt_is, o.2.2]
theorem n_must {h : Hp} {c : Int32} {e : Int} (o : Of9 h e) : f_X9_must h 632 c = some (h, .inr ()) := by
  unfold f_X9_must
  rw [chk_pos o.1.1, g_isOff1 o, bnd_ret, if_neg (by decide)]
theorem n_digit {h : Hp} {e : Int} (o : Of9 h e) : f_X9_digit h 632 = some (h, .inr (iN 0)) := by
  unfold f_X9_digit
  rw [chk_pos o.1.1, g_isOff1 o, bnd_ret, if_neg (by decide)]
theorem n_L49 {h : Hp} {e : Int} {a b c v : Int32} (o : Of9 h e) : f_X9_number_L49 h 632 a b c v = some (h, .inr v) := by
  unfold f_X9_number_L49
  rw [chk_pos o.1.1, g_isOff1 o, bnd_ret, if_neg (by decide)]
theorem n_number {h : Hp} {e : Int} {a b : Int32} (o : Of9 h e) : f_X9_number h 632 a b = some (h, .inr (iN 0)) := by
  unfold f_X9_number
  rw [chk_pos o.1.1, n_digit o, bnd_ret, chk_pos o.1.1, g_isOff1 o, bnd_ret, if_neg (by decide), n_L49 o]
theorem n_column {h : Hp} {e : Int} (o : Of9 h e) : f_X9_columnHere h 632 = some (h, .inr (iN 0)) := by
  unfold f_X9_columnHere
  rw [chk_pos o.1.1, n_digit o, bnd_ret, chk_pos o.1.1, g_isOff1 o, bnd_ret, if_neg (by decide)]
theorem n_span {h : Hp} {e : Int} {c : Int32} (o : Of9 h e) : f_X9_spanHere h 632 c = some (h, .inr (iN 0)) := by
  unfold f_X9_spanHere
  rw [chk_pos o.1.1, n_digit o, bnd_ret, chk_pos o.1.1, g_isOff1 o, bnd_ret, if_neg (by decide)]
theorem Of9.st {h h2 : Hp} {e : Int} (o : Of9 h e) (ly : Ly h h2) (q : qI h2 632 7 = iN e) : Of9 h2 e := ⟨o.1.ly ly, o.2.1, q⟩
theorem n_word {h : Hp} {e : Int} (o : Of9 h e) : f_X9_word h 632 = some (putI h 632 15 (qI h 632 12), .inr (Int64.ofNat 0)) := by
  have o2 : Of9 (putI h 632 15 (qI h 632 12)) e := o.st Ly.pI ((rd_nk (by decide)).trans o.2.2)
  unfold f_X9_word
  rw [chk_pos o.1.1, lt_is]
  show f_X9_word_B10 (f_X9_word_L10 1999) (putI h 632 15 (qI h 632 12)) 632 (Int64.ofNat 0) = _
  unfold f_X9_word_B10
  rw [chk_pos o2.1.1, g_isOff1 o2, bnd_ret, if_neg (by decide)]
theorem r_must {h : Hp} {m B : Int → Int} {L p c : Int} (tx : TXo B L) (y : Y9 h m B L p) (hp : 0 ≤ p ∧ p ≤ L) (hc : 0 ≤ c ∧ c ≤ 200) : R9 h (skP c B L p) (fun _ => ()) (f_X9_must h 632 (iN c)) := by
  have hL := tx.1
  have cb := chT_bd tx hp.1
  have lm := y.1.1
  unfold f_X9_must skP
  rw [chk_pos lm.1, g_isOff0 lm y.2.2.2.2, bnd_ret, if_pos (show iN 0 = 0 by decide), chk_pos lm.1, g_here tx y.h ⟨hp.1, (by omega)⟩, bnd_ret, chk_pos lm.1, chk_pos lm.1, y.2.2.2.1, iN_add, lt_is, g_off0 lm y.2.2.2.2, bnd_ret]
  by_cases z : chT B L p = c
  · rw [if_pos z, if_pos (show iN (chT B L p) = iN c by rw [z])]
    exact ⟨_, rfl, FZ.n12, rd_eq, (rd_nk (by decide)).trans y.2.2.2.2⟩
  · rw [if_neg z, if_neg (neN z (by omega) (by omega) (by omega) (by omega))]
    exact ⟨⟨hp.1, (by omega)⟩, _, _, rfl, FZ.n7, rd_eq⟩
theorem r_digit {h : Hp} {m B : Int → Int} {L p : Int} (tx : TXo B L) (y : Y9 h m B L p) (hp : 0 ≤ p ∧ p ≤ L) : R9 h (dgP B L p) iN (f_X9_digit h 632) := by
  have hL := tx.1
  have cb := chT_bd tx hp.1
  have lm := y.1.1
  unfold f_X9_digit dgP
  rw [chk_pos lm.1, g_isOff0 lm y.2.2.2.2, bnd_ret, if_pos (show iN 0 = 0 by decide), chk_pos lm.1, g_here tx y.h ⟨hp.1, (by omega)⟩, bnd_ret, g_in ⟨(by omega), (by omega)⟩ ⟨(by omega), (by omega)⟩ ⟨(by omega), (by omega)⟩, bnd_ret, chk_pos lm.1, chk_pos lm.1, y.2.2.2.1, iN_add, lt_is, g_off0 lm y.2.2.2.2, bnd_ret]
  by_cases z : isD (chT B L p)
  · have pl : p < L := by
      by_cases w : p < L
      · exact w
      · have := cb.2.2.mpr (by omega)
        omega
    have l2 : LM (putI h 632 12 (iN (p + 1))) 632 := lm.ly Ly.pI
    have e12 : qI (putI h 632 12 (iN (p + 1))) 632 12 = iN (p + 1) := rd_eq
    rw [if_pos z, if_neg (fun w => bN0.mp w z), l2.r5, chk_pos l2.o5, l2.w5, e12, iN_sub, ck_in (by omega) (by omega) (by omega), iN_cl (by omega) (by omega), show qI (putI h 632 12 (iN (p + 1))) (632 + 4) (p + 1 - 1).toNat = iN (B p) by rw [rd_ne (by decide), show p + 1 - 1 = p by omega]; exact y.2.2.1 p hp.1 pl, iN_sub, chT_in pl]
    exact ⟨_, rfl, FZ.n12, rd_eq, (rd_nk (by decide)).trans y.2.2.2.2⟩
  · rw [if_neg z, if_pos (bN0.mpr z)]
    exact ⟨⟨hp.1, (by omega)⟩, _, _, rfl, FZ.n7, rd_eq⟩
theorem r_L49 {h : Hp} (lm : LM h 632) {lo hi p q v : Int} (hp : 0 ≤ p ∧ p ≤ 60) (e12 : qI h 632 12 = iN q) (e7 : qI h 632 7 = iN (-1)) (hv : InR v) (h1 : InR lo) (h2 : InR hi) : R9 h (nuE lo hi p q v) iN (f_X9_number_L49 h 632 (iN lo) (iN hi) (iN p) (iN v)) := by
  unfold f_X9_number_L49 nuE
  rw [chk_pos lm.1, g_isOff0 lm e7, bnd_ret, if_pos (show iN 0 = 0 by decide), g_in hv h1 h2, bnd_ret, chk_pos lm.1, g_off0 lm e7, bnd_ret]
  by_cases z : lo ≤ v ∧ v ≤ hi
  · rw [if_pos z, if_neg (fun w => bN0.mp w z)]
    exact ⟨h, rfl, FZ.rf, e12, e7⟩
  · rw [if_neg z, if_pos (bN0.mpr z)]
    exact ⟨hp, _, _, rfl, FZ.n7, rd_eq⟩
theorem r_number {h : Hp} {m B : Int → Int} {L p lo hi : Int} (tx : TXo B L) (y : Y9 h m B L p) (hp : 0 ≤ p ∧ p ≤ L) (h1 : InR lo) (hh : InR hi) : R9 h (nuP lo hi B L p) iN (f_X9_number h 632 (iN lo) (iN hi)) := by
  have hL := tx.1
  have lm := y.1.1
  unfold f_X9_number nuP
  rw [chk_pos lm.1, y.2.2.2.1]
  refine R9.bd lm (r_digit tx y hp) (fun h2 q v er f e12 e7 => ?_) (fun h2 w e o => ?_)
  · have b := dgP_bd er
    have yy := y.st f e12 e7
    have l2 := yy.1.1
    have cb := chT_bd tx (show 0 ≤ q by omega)
    rw [chk_pos l2.1, g_isOff0 l2 e7, bnd_ret, if_pos (show iN 0 = 0 by decide)]
    by_cases z : 0 < v
    · by_cases w : isD (chT B L q)
      · rw [if_pos (show 0 < v ∧ isD (chT B L q) from ⟨z, w⟩), if_neg (fun y => by have := (iN_le0 (by omega) (by omega)).mp y; omega), chk_pos l2.1, g_here tx yy.h ⟨(by omega), (by omega)⟩, bnd_ret, g_in ⟨(by omega), (by omega)⟩ ⟨(by omega), (by omega)⟩ ⟨(by omega), (by omega)⟩, bnd_ret, if_neg (fun y2 => bN0.mp y2 w), chk_pos l2.1]
        have e : dgP B L q = .inr (q + 1, chT B L q - 48) := if_pos w
        have c := r_digit tx yy (p := q) ⟨(by omega), (by omega)⟩
        rw [e] at c
        obtain ⟨h3, e4, f4, q4, q47⟩ := c
        have c2 := r_L49 (h := h3) (l2.ly f4.1) (lo := lo) (hi := hi) (p := p) (q := q + 1) (v := 10 * v + (chT B L q - 48)) ⟨(by omega), (by omega)⟩ q4 q47 ⟨(by omega), (by omega)⟩ h1 hh
        rw [e4, bnd_ret, iN_mul, iN_add]
        revert c2
        generalize nuE lo hi p (q + 1) (10 * v + (chT B L q - 48)) = r2
        intro c2
        match r2, c2 with
        | .inl e, c2 =>
          obtain ⟨eb, h3, w3, e3, f3, q3⟩ := c2
          exact ⟨eb, h3, w3, e3, f4.tr f3, q3⟩
        | .inr (q', v'), c2 =>
          obtain ⟨h3, e3, f3, q3⟩ := c2
          exact ⟨h3, e3, f4.tr f3, q3⟩
      · rw [if_neg (show ¬ (0 < v ∧ isD (chT B L q)) from fun z2 => w z2.2), if_neg (fun y => by have := (iN_le0 (by omega) (by omega)).mp y; omega), chk_pos l2.1, g_here tx yy.h ⟨(by omega), (by omega)⟩, bnd_ret, g_in ⟨(by omega), (by omega)⟩ ⟨(by omega), (by omega)⟩ ⟨(by omega), (by omega)⟩, bnd_ret, if_pos (bN0.mpr w)]
        exact r_L49 l2 ⟨(by omega), (by omega)⟩ e12 e7 ⟨(by omega), (by omega)⟩ h1 hh
    · rw [if_neg (show ¬ (0 < v ∧ isD (chT B L q)) from fun z2 => z z2.1), if_pos ((iN_le0 (by omega) (by omega)).mpr (by omega))]
      exact r_L49 l2 ⟨(by omega), (by omega)⟩ e12 e7 ⟨(by omega), (by omega)⟩ h1 hh
  · refine ⟨h2, w, ?_, FZ.rf, o.2.2⟩
    rw [chk_pos o.1.1, g_isOff1 o, bnd_ret, if_neg (by decide), n_L49 o]
theorem r_column {h : Hp} {m B : Int → Int} {L p : Int} (tx : TXo B L) (w : WF m) (y : Y9 h m B L p) (hp : 0 ≤ p ∧ p ≤ L) : R9 h (coP (m 0) B L p) iN (f_X9_columnHere h 632) := by
  have hL := tx.1
  have h0 := w.1.1
  have lm := y.1.1
  unfold f_X9_columnHere coP
  rw [chk_pos lm.1, y.2.2.2.1]
  refine R9.bd lm (r_digit tx y hp) (fun h2 q v er f e12 e7 => ?_) (fun h2 w e o => ?_)
  · have b := dgP_bd er
    have yy := y.st f e12 e7
    have l2 := yy.1.1
    rw [chk_pos l2.1, g_isOff0 l2 e7, bnd_ret, if_pos (show iN 0 = 0 by decide), chk_pos l2.1, g_isColumn yy.1 w ⟨(by omega), (by omega)⟩, bnd_ret, chk_pos l2.1, g_off0 l2 e7, bnd_ret]
    by_cases z : v < m 0
    · rw [if_pos z, if_neg (fun x => bN0.mp x (by omega))]
      exact ⟨h2, rfl, FZ.rf, e12, e7⟩
    · rw [if_neg z, if_pos (bN0.mpr (by omega))]
      exact ⟨⟨(by omega), (by omega)⟩, _, _, rfl, FZ.n7, rd_eq⟩
  · refine ⟨h2, w, ?_, FZ.rf, o.2.2⟩
    rw [chk_pos o.1.1, g_isOff1 o, bnd_ret, if_neg (by decide)]
theorem r_span {h : Hp} {m B : Int → Int} {L p col : Int} (tx : TXo B L) (w : WF m) (y : Y9 h m B L p) (hp : 0 ≤ p ∧ p ≤ L) (hc : 0 ≤ col ∧ col ≤ 9) : R9 h (spP (m 0) col B L p) iN (f_X9_spanHere h 632 (iN col)) := by
  have hL := tx.1
  have h0 := w.1.1
  have lm := y.1.1
  unfold f_X9_spanHere spP f_X9_spanHere_L33
  rw [chk_pos lm.1, y.2.2.2.1]
  refine R9.bd lm (r_digit tx y hp) (fun h2 q v er f e12 e7 => ?_) (fun h2 w e o => ?_)
  · have b := dgP_bd er
    have yy := y.st f e12 e7
    have l2 := yy.1.1
    rw [chk_pos l2.1, g_isOff0 l2 e7, bnd_ret, if_pos (show iN 0 = 0 by decide), chk_pos l2.1, g_off0 l2 e7, bnd_ret, chk_pos l2.1, l2.r1, chk_pos l2.o1, l2.w1, ck_in (by omega) (by omega) (by omega), g_rd yy.1 (by omega) (by omega), iN_add]
    by_cases z : v = 0
    · rw [if_neg (show ¬ (1 ≤ v ∧ col + v ≤ m 0) by omega), if_pos (show iN v = 0 by rw [z]; decide)]
      exact ⟨⟨(by omega), (by omega)⟩, _, _, rfl, FZ.n7, rd_eq⟩
    · by_cases x : col + v ≤ m 0
      · rw [if_pos (show 1 ≤ v ∧ col + v ≤ m 0 by omega), if_neg (eN0 z (by omega) (by omega)), if_pos (yleN (by omega) (by omega) (by omega))]
        exact ⟨h2, rfl, FZ.rf, e12, e7⟩
      · rw [if_neg (show ¬ (1 ≤ v ∧ col + v ≤ m 0) by omega), if_neg (eN0 z (by omega) (by omega)), if_neg (nleN (by omega) (by omega) (by omega))]
        exact ⟨⟨(by omega), (by omega)⟩, _, _, rfl, FZ.n7, rd_eq⟩
  · refine ⟨h2, w, ?_, FZ.rf, o.2.2⟩
    rw [chk_pos o.1.1, g_isOff1 o, bnd_ret, if_neg (by decide)]
