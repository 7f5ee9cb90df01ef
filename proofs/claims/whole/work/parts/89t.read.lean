/-! ===== STAGE B: the class reads ===== -/
def p5 (x j : Nat) : Prop := x = 566 ∧ (j = 3 ∨ j = 4)
/-- the class's reader at p -/
def T5 (h : Hp) (B : Int → Int) (L p : Int) : Prop := SL h ∧ qR h 566 6 = 210 ∧ qI h 566 2 = iN L ∧ qI h 566 3 = iN p ∧ AR h 567 L B
theorem T5.st {h h2 : Hp} {B : Int → Int} {L p q : Int} (t : T5 h B L p) (f : FZ p5 h h2) (e : qI h2 566 3 = iN q) : T5 h2 B L q := ⟨t.1.ly f.1, by rw [f.1.2.2.2.1]; exact t.2.1, (f.2 _ _ (fun z => by unfold p5 at z; omega)).trans t.2.2.1, e, t.2.2.2.2.fz f (fun j z => by unfold p5 at z; omega)⟩
def C5 {α : Type} (h : Hp) (r : PR) (V : Int → α) (x : Option (Rs α)) : Prop := match r with
  | .inl e => ∃ h2, x = some (bump h2, .inl 1) ∧ FZ p5 h h2 ∧ qI h2 566 4 = iN e
  | .inr (q, v) => ∃ h2, x = some (h2, .inr (V v)) ∧ FZ p5 h h2 ∧ qI h2 566 3 = iN q
theorem C5.bd {α β : Type} {h : Hp} {r : PR} {V : Int → α} {W : Int → β} {x : Option (Rs α)} {k : Int → Int → PR} {kx : Hp → α → Option (Rs β)} (a : C5 h r V x) (b : ∀ h2 q v, r = .inr (q, v) → FZ p5 h h2 → qI h2 566 3 = iN q → C5 h2 (k q v) W (kx h2 (V v))) : C5 h (bdP r k) W (bnd x kx) := by
  match r, a with
  | .inl e, a =>
    obtain ⟨h2, e2, f2, q2⟩ := a
    exact ⟨h2, by rw [e2, bnd_thr], f2, q2⟩
  | .inr (q, v), a =>
    obtain ⟨h2, e2, f2, q2⟩ := a
    have c := b h2 q v rfl f2 q2
    rw [e2, bnd_ret]
    show C5 h (k q v) W (kx h2 (V v))
    revert c
    generalize k q v = r2
    intro c
    match r2, c with
    | .inl e, c =>
      obtain ⟨h3, e3, f3, q3⟩ := c
      exact ⟨h3, e3, f2.tr f3, q3⟩
    | .inr (q', v'), c =>
      obtain ⟨h3, e3, f3, q3⟩ := c
      exact ⟨h3, e3, f2.tr f3, q3⟩
theorem FZ.p3 {h : Hp} {v : Int32} : FZ p5 h (putI h 566 3 v) := FZ.pI ⟨rfl, Or.inl rfl⟩
theorem FZ.p4 {h : Hp} {v : Int32} : FZ p5 h (putI h 566 4 v) := FZ.pI ⟨rfl, Or.inr rfl⟩
theorem SL.r80 {h : Hp} (s : SL h) : qR h 566 0 = 567 := s.2.2.2.2.1.2.1
theorem SL.o67 {h : Hp} (s : SL h) : okr h 567 23 := s.2.2.2.2.1.2.2.2.1
theorem SL.w67 {h : Hp} (s : SL h) : qW h 567 = 60 := s.2.2.2.2.1.2.2.2.2.1
theorem SL.r87 {h : Hp} (s : SL h) : qR h 566 7 = 568 := s.2.2.2.2.1.2.2.1
theorem SL.l68 {h : Hp} (s : SL h) : LC h 568 := s.2.2.2.2.1.2.2.2.2.2
theorem g_demF {h : Hp} (s : SL h) {e : Int} : f_X5_demand h 566 (iN 0) (iN e) = some (bump (putI h 566 4 (iN e)), .inl 1) := by
  unfold f_X5_demand
  rw [if_pos (by decide), chk_pos s.o8, lt_is]
theorem g_demT {h : Hp} {e : Int32} : f_X5_demand h 566 (iN 1) e = some (h, .inr ()) := by
  unfold f_X5_demand
  rw [if_neg (by decide)]
theorem g_isDg {h : Hp} {B : Int → Int} {L p x : Int} (tx : TXo B L) (t : T5 h B L p) (hx : 0 ≤ x ∧ x ≤ L) : f_X5_isDigitAt h 566 (iN x) = some (h, .inr (bN (isD (chT B L x)))) := by
  obtain ⟨s, t6, t2, t3, A⟩ := t
  have hL := tx.1
  unfold f_X5_isDigitAt
  rw [chk_pos s.o8, t2]
  by_cases z : x < L
  · have b := tx.2 x hx.1 z
    rw [if_neg (nleN (by omega) (by omega) (by omega)), s.r80, chk_pos s.o67, s.w67, ck_in (by omega) (by omega) (by omega), iN_cl (by omega) (by omega), A x hx.1 z, chT_in z]
    by_cases y : B x < 48
    · rw [if_pos (yltN (by omega) (by omega) (by omega)), bN_n (show ¬ isD (B x) by omega)]
    · rw [if_neg (nltN (by omega) (by omega) (by omega))]
      by_cases y2 : 57 < B x
      · rw [if_pos (yltN (by omega) (by omega) (by omega)), bN_n (show ¬ isD (B x) by omega)]
      · rw [if_neg (nltN (by omega) (by omega) (by omega)), bN_y (show isD (B x) by omega)]
  · have e : chT B L x = -1 := if_neg z
    rw [if_pos (yleN (by omega) (by omega) (by omega)), e, bN_n (by decide)]
theorem c_digit {h : Hp} {B : Int → Int} {L p : Int} (tx : TXo B L) (t : T5 h B L p) (hp : 0 ≤ p ∧ p ≤ L) : C5 h (dgP B L p) iN (f_X5_readDigit h 566) := by
  have e1 := g_isDg tx t hp
  obtain ⟨s, t6, t2, t3, A⟩ := t
  have hL := tx.1
  unfold f_X5_readDigit dgP f_X5_readDigit_L43
  rw [chk_pos s.o8, t3, e1, bnd_ret, chk_pos s.o8, t3]
  by_cases z : isD (chT B L p)
  · have pl : p < L := by
      by_cases y : p < L
      · exact y
      · unfold chT at z
        rw [if_neg y] at z
        omega
    rw [if_pos z, bN_y z, g_demT, bnd_ret, chk_pos s.o8, t2, t3, if_neg (nleN (by omega) (by omega) (by omega)), s.r80, chk_pos s.o67, s.w67, ck_in (by omega) (by omega) (by omega), iN_cl (by omega) (by omega), A p hp.1 pl, chk_pos s.o8, iN_add, lt_is, iN_sub, chT_in pl]
    exact ⟨_, rfl, FZ.p3, rd_eq⟩
  · rw [if_neg z, bN_n z, g_demF s, bnd_thr]
    exact ⟨_, rfl, FZ.p4, rd_eq⟩
theorem c_nuE {h : Hp} (s : SL h) {lo hi p q v : Int} (e3 : qI h 566 3 = iN q) (hv : InR v) (h1 : InR lo) (h2 : InR hi) : C5 h (nuE lo hi p q v) iN (f_X5_readNumber_L39 h 566 (iN lo) (iN hi) (iN p) (iN v)) := by
  unfold f_X5_readNumber_L39 nuE
  rw [g_isW hv h1 h2, bnd_ret, chk_pos s.o8]
  by_cases z : lo ≤ v ∧ v ≤ hi
  · rw [bN_y z, if_pos z, g_demT, bnd_ret]
    exact ⟨h, rfl, FZ.rf, e3⟩
  · rw [bN_n z, if_neg z, g_demF s, bnd_thr]
    exact ⟨_, rfl, FZ.p4, rd_eq⟩
theorem c_number {h : Hp} {B : Int → Int} {L p lo hi : Int} (tx : TXo B L) (t : T5 h B L p) (hp : 0 ≤ p ∧ p ≤ L) (h1 : InR lo) (hh : InR hi) : C5 h (nuP lo hi B L p) iN (f_X5_readNumber h 566 (iN lo) (iN hi)) := by
  have s := t.1
  unfold f_X5_readNumber nuP
  rw [chk_pos s.o8, t.2.2.2.1]
  refine C5.bd (c_digit tx t hp) (fun h2 q v er f e3 => ?_)
  have b := dgP_bd er
  have tt := t.st f e3
  have s2 := tt.1
  have eg := g_isDg tx tt (x := q) ⟨(by omega), (by omega)⟩
  by_cases z : 0 < v
  · by_cases y : isD (chT B L q)
    · rw [if_pos (show 0 < v ∧ isD (chT B L q) from ⟨z, y⟩), if_neg (fun y => by have := (iN_le0 (by omega) (by omega)).mp y; omega), chk_pos s2.o8, e3, eg, bnd_ret, if_neg (fun y2 => bN0.mp y2 y), chk_pos s2.o8]
      have e : dgP B L q = .inr (q + 1, chT B L q - 48) := if_pos y
      have c := c_digit tx tt (p := q) ⟨(by omega), (by omega)⟩
      rw [e] at c
      obtain ⟨h3, e4, f4, q4⟩ := c
      have c2 := c_nuE (h := h3) (lo := lo) (hi := hi) (p := p) (q := q + 1) (v := 10 * v + (chT B L q - 48)) (s2.ly f4.1) q4 ⟨(by omega), (by omega)⟩ h1 hh
      rw [e4, bnd_ret, iN_mul, iN_add]
      revert c2
      generalize nuE lo hi p (q + 1) (10 * v + (chT B L q - 48)) = r2
      intro c2
      match r2, c2 with
      | .inl e, c2 =>
        obtain ⟨h3, e3, f3, q3⟩ := c2
        exact ⟨h3, e3, f4.tr f3, q3⟩
      | .inr (q', v'), c2 =>
        obtain ⟨h3, e3, f3, q3⟩ := c2
        exact ⟨h3, e3, f4.tr f3, q3⟩
    · rw [if_neg (show ¬ (0 < v ∧ isD (chT B L q)) from fun z2 => y z2.2), if_neg (fun y => by have := (iN_le0 (by omega) (by omega)).mp y; omega), chk_pos s2.o8, e3, eg, bnd_ret, if_pos (bN0.mpr y)]
      exact c_nuE s2 e3 ⟨(by omega), (by omega)⟩ h1 hh
  · rw [if_neg (show ¬ (0 < v ∧ isD (chT B L q)) from fun z2 => z z2.1), if_pos ((iN_le0 (by omega) (by omega)).mpr (by omega))]
    exact c_nuE s2 e3 ⟨(by omega), (by omega)⟩ h1 hh
theorem c_skip {h : Hp} {B : Int → Int} {L p c : Int} (tx : TXo B L) (t : T5 h B L p) (hp : 0 ≤ p ∧ p ≤ L) (hc : 0 ≤ c ∧ c ≤ 200) : C5 h (skP c B L p) (fun _ => ()) (f_X5_skip h 566 (iN c)) := by
  obtain ⟨s, t6, t2, t3, A⟩ := t
  have hL := tx.1
  unfold f_X5_skip skP f_X5_skip_L29 f_X5_skip_L30
  rw [chk_pos s.o8, t2, t3, chk_pos s.o8, chk_pos s.o8, g_demF s, bnd_thr]
  by_cases pl : p < L
  · have b := tx.2 p hp.1 pl
    rw [if_neg (nleN (by omega) (by omega) (by omega)), s.r80, chk_pos s.o67, s.w67, ck_in (by omega) (by omega) (by omega), iN_cl (by omega) (by omega), A p hp.1 pl, chT_in pl]
    by_cases z : B p = c
    · rw [if_pos z, if_pos (by rw [z]), chk_pos s.o8, chk_pos s.o8, g_demT, bnd_ret, chk_pos s.o8, t3, iN_add, lt_is]
      exact ⟨_, rfl, FZ.p3, rd_eq⟩
    · rw [if_neg (neN z (by omega) (by omega) (by omega) (by omega)), if_neg z]
      exact ⟨_, rfl, FZ.p4, rd_eq⟩
  · have e : chT B L p = -1 := if_neg pl
    rw [if_pos (yleN (by omega) (by omega) (by omega)), e, if_neg (show ¬ (-1 : Int) = c by omega)]
    exact ⟨_, rfl, FZ.p4, rd_eq⟩
theorem c_column {h : Hp} {B : Int → Int} {L p K : Int} (tx : TXo B L) (t : T5 h B L p) (hp : 0 ≤ p ∧ p ≤ L) (hK : 1 ≤ K ∧ K ≤ 4) (eK : qI h 210 3 = iN K) : C5 h (coP K B L p) iN (f_X5_readColumn h 566) := by
  have s := t.1
  unfold f_X5_readColumn coP f_X5_readColumn_L27
  rw [chk_pos s.o8, t.2.2.2.1]
  refine C5.bd (c_digit tx t hp) (fun h2 q v er f e3 => ?_)
  have b := dgP_bd er
  have tt := t.st f e3
  have s2 := tt.1
  have eK2 : qI h2 210 3 = iN K := (f.2 _ _ (fun z => by unfold p5 at z; omega)).trans eK
  rw [chk_pos s2.o8, tt.2.1, chk_pos s2.2.1.2.1.o, eK2, chk_pos s2.o8, chk_pos s2.o8, g_demF s2, bnd_thr, g_demT, bnd_ret]
  by_cases z : v < K
  · rw [if_neg (nleN (by omega) (by omega) (by omega)), if_pos z]
    exact ⟨h2, rfl, FZ.rf, e3⟩
  · rw [if_pos (yleN (by omega) (by omega) (by omega)), if_neg z]
    exact ⟨_, rfl, FZ.p4, rd_eq⟩
theorem c_span {h : Hp} {B : Int → Int} {L p K col : Int} (tx : TXo B L) (t : T5 h B L p) (hp : 0 ≤ p ∧ p ≤ L) (hK : 1 ≤ K ∧ K ≤ 4) (hc : 0 ≤ col ∧ col ≤ 9) (eK : qI h 210 3 = iN K) : C5 h (spP K col B L p) iN (f_X5_readSpan h 566 (iN col)) := by
  have s := t.1
  unfold f_X5_readSpan spP f_X5_readSpan_L33 f_X5_readSpan_L34
  rw [chk_pos s.o8, t.2.2.2.1]
  refine C5.bd (c_digit tx t hp) (fun h2 q v er f e3 => ?_)
  have b := dgP_bd er
  have tt := t.st f e3
  have s2 := tt.1
  have eK2 : qI h2 210 3 = iN K := (f.2 _ _ (fun z => by unfold p5 at z; omega)).trans eK
  rw [chk_pos s2.o8, g_demF s2, bnd_thr, g_demT, bnd_ret, tt.2.1, chk_pos s2.2.1.2.1.o, eK2, iN_add, chk_pos s2.o8]
  by_cases z : v < 1
  · rw [if_pos (yltN (by omega) (by omega) (by omega)), if_neg (by omega)]
    exact ⟨_, rfl, FZ.p4, rd_eq⟩
  · rw [if_neg (nltN (by omega) (by omega) (by omega))]
    by_cases y : col + v ≤ K
    · rw [if_neg (nltN (by omega) (by omega) (by omega)), if_pos ⟨(by omega), y⟩, chk_pos s2.o8]
      exact ⟨h2, rfl, FZ.rf, e3⟩
    · rw [if_pos (yltN (by omega) (by omega) (by omega)), if_neg (fun x => y x.2)]
      exact ⟨_, rfl, FZ.p4, rd_eq⟩
theorem g_kindFor {h : Hp} {c : Int} (hc : -10 ≤ c ∧ c ≤ 1000) : f_X5_kindFor h (iN c) = some (h, .inr (iN (kdF c))) := by
  unfold f_X5_kindFor kdF
  by_cases c1 : c = 99
  · rw [if_pos (by rw [c1]), if_neg (by omega), if_neg (by omega), if_neg (by omega), if_pos c1]
  · rw [if_neg (neN c1 (by omega) (by omega) (by omega) (by omega))]
    by_cases c2 : c = 104
    · rw [if_pos (by rw [c2]), if_neg (by omega), if_pos c2]
    · rw [if_neg (neN c2 (by omega) (by omega) (by omega) (by omega))]
      by_cases c3 : c = 112
      · rw [if_pos (by rw [c3]), if_pos c3]
      · rw [if_neg (neN c3 (by omega) (by omega) (by omega) (by omega))]
        by_cases c4 : c = 113
        · rw [if_pos (by rw [c4]), if_neg c3, if_neg c2, if_pos c4]
        · rw [if_neg (neN c4 (by omega) (by omega) (by omega) (by omega)), if_neg c3, if_neg c2, if_neg c4, if_neg c1]
theorem g_breakFor {h : Hp} {c : Int} (hc : -10 ≤ c ∧ c ≤ 1000) : f_X5_breakFor h (iN c) = some (h, .inr (iN (mkF c))) := by
  unfold f_X5_breakFor mkF
  by_cases c1 : c = 45
  · rw [if_pos (by rw [c1]), if_neg (by omega), if_neg (by omega), if_neg (by omega), if_pos c1]
  · rw [if_neg (neN c1 (by omega) (by omega) (by omega) (by omega))]
    by_cases c2 : c = 47
    · rw [if_pos (by rw [c2]), if_neg (by omega), if_pos c2]
    · rw [if_neg (neN c2 (by omega) (by omega) (by omega) (by omega))]
      by_cases c3 : c = 95
      · rw [if_pos (by rw [c3]), if_pos c3]
      · rw [if_neg (neN c3 (by omega) (by omega) (by omega) (by omega))]
        by_cases c4 : c = 126
        · rw [if_pos (by rw [c4]), if_neg c3, if_neg c2, if_pos c4]
        · rw [if_neg (neN c4 (by omega) (by omega) (by omega) (by omega)), if_neg c3, if_neg c2, if_neg c4, if_neg c1]
theorem c_kind {h : Hp} {B : Int → Int} {L p : Int} (tx : TXo B L) (t : T5 h B L p) (hp : 0 ≤ p ∧ p ≤ L) : C5 h (kdP B L p) iN (f_X5_readKind h 566) := by
  obtain ⟨s, t6, t2, t3, A⟩ := t
  have hL := tx.1
  have cb := chT_bd tx hp.1
  have kb := kdF_bd (chT B L p)
  have e : f_X5_readKind h 566 = f_X5_readKind_L27 h 566 (iN (kdF (chT B L p))) := by
    unfold f_X5_readKind
    rw [chk_pos s.o8, t2, t3]
    by_cases pl : p < L
    · have b := tx.2 p hp.1 pl
      rw [if_neg (nleN (by omega) (by omega) (by omega)), s.r80, chk_pos s.o67, s.w67, ck_in (by omega) (by omega) (by omega), iN_cl (by omega) (by omega), A p hp.1 pl, g_kindFor (by omega), bnd_ret, chT_in pl]
    · have e : chT B L p = -1 := if_neg pl
      rw [if_pos (yleN (by omega) (by omega) (by omega)), e]
      rfl
  rw [e]
  unfold f_X5_readKind_L27 f_X5_readKind_L38 kdP
  rw [chk_pos s.o8, chk_pos s.o8, t3, g_demF s, bnd_thr, chk_pos s.o8, chk_pos s.o8, g_demT, bnd_ret, chk_pos s.o8, t3, iN_add, lt_is]
  by_cases z : 0 ≤ kdF (chT B L p)
  · rw [if_pos z, if_neg (fun y => by have := (iN_lt0 (by omega) (by omega)).mp y; omega)]
    exact ⟨_, rfl, FZ.p3, rd_eq⟩
  · rw [if_pos ((iN_lt0 (by omega) (by omega)).mpr (by omega)), if_neg z]
    exact ⟨_, rfl, FZ.p4, rd_eq⟩
theorem g_eolL {h : Hp} {B : Int → Int} {L p : Int} (tx : TXo B L) (t : T5 h B L p) : ∀ (d n : Nat) (x : Int), L - x = d → 0 ≤ x → d < n → f_X5_endOfLetters_L5 n h 566 (iN x) = some (h, .inr (iN (leF B L d x))) := by
  obtain ⟨s, t6, t2, t3, A⟩ := t
  have hL := tx.1
  intro d
  induction d with
  | zero =>
    intro n x hd hx hn
    obtain ⟨n, rfl⟩ : ∃ z, n = z + 1 := ⟨n - 1, by omega⟩
    show f_X5_endOfLetters_B5 (f_X5_endOfLetters_L5 n) h 566 (iN x) = _
    unfold f_X5_endOfLetters_B5
    rw [chk_pos s.o8, t2, if_pos (yleN (by omega) (by omega) (by omega)), leF]
  | succ d ih =>
    intro n x hd hx hn
    obtain ⟨n, rfl⟩ : ∃ z, n = z + 1 := ⟨n - 1, by omega⟩
    have b := tx.2 x hx (by omega)
    show f_X5_endOfLetters_B5 (f_X5_endOfLetters_L5 n) h 566 (iN x) = _
    unfold f_X5_endOfLetters_B5
    rw [chk_pos s.o8, t2, if_neg (nleN (by omega) (by omega) (by omega)), s.r80, chk_pos s.o67, s.w67, ck_in (by omega) (by omega) (by omega), iN_cl (by omega) (by omega), A x hx (by omega), leF, chT_in (by omega)]
    by_cases z : B x < 97
    · rw [if_pos (yltN (by omega) (by omega) (by omega)), if_neg (show ¬ isL (B x) by omega)]
    · rw [if_neg (nltN (by omega) (by omega) (by omega))]
      by_cases y : 122 < B x
      · rw [if_pos (yltN (by omega) (by omega) (by omega)), if_neg (show ¬ isL (B x) by omega)]
      · rw [if_neg (nltN (by omega) (by omega) (by omega)), if_pos (show isL (B x) by omega), iN_add]
        exact ih n (x + 1) (by omega) (by omega) (by omega)
theorem g_eol {h : Hp} {B : Int → Int} {L p : Int} (tx : TXo B L) (t : T5 h B L p) (hp : 0 ≤ p ∧ p ≤ L) : f_X5_endOfLetters h 566 = some (h, .inr (iN (leP B L p))) := by
  have hL := tx.1
  unfold f_X5_endOfLetters
  rw [chk_pos t.1.o8, t.2.2.2.1]
  exact g_eolL tx t (L - p).toNat 2000 p (by omega) (by omega) (by omega)
theorem c_word {h : Hp} {B : Int → Int} {L p : Int} (tx : TXo B L) (t : T5 h B L p) (hp : 0 ≤ p ∧ p ≤ L) : C5 h (woP B L p) iN (f_X5_readWord h 566) := by
  have e1 := g_eol tx t hp
  have s := t.1
  have t3 := t.2.2.2.1
  have hL := tx.1
  have lb := (leP_ok (B := B) hp.2).1
  unfold f_X5_readWord f_X5_readWord_L32 woP
  rw [chk_pos s.o8, e1, bnd_ret, chk_pos s.o8, t3, iN_add, g_jmin ⟨(by omega), (by omega)⟩ ⟨(by omega), (by omega)⟩, iN_sub, chk_pos s.o8, chk_pos s.o8, g_demF s, bnd_thr, g_demT, bnd_ret, chk_pos s.o8, chk_pos s.o8, lt_is]
  by_cases z : min (leP B L p) (p + 12) - p ≤ 0
  · rw [if_pos ((iN_le0 (by omega) (by omega)).mpr z), if_pos z]
    exact ⟨_, rfl, FZ.p4, rd_eq⟩
  · rw [if_neg z, if_neg (fun y => z ((iN_le0 (by omega) (by omega)).mp y)), chk_pos s.o8]
    exact ⟨_, rfl, FZ.p3, rd_eq⟩
theorem g_isMk {h : Hp} {B : Int → Int} {L p x : Int} (tx : TXo B L) (t : T5 h B L p) (hx : 0 ≤ x ∧ x ≤ L) : f_X5_isMarkAt h 566 (iN x) = some (h, .inr (bN (0 ≤ mkF (chT B L x)))) := by
  obtain ⟨s, t6, t2, t3, A⟩ := t
  have hL := tx.1
  have mb := mkF_bd (chT B L x)
  unfold f_X5_isMarkAt
  rw [chk_pos s.o8, t2]
  by_cases z : x < L
  · have b := tx.2 x hx.1 z
    rw [chT_in z] at mb ⊢
    rw [if_neg (nleN (by omega) (by omega) (by omega)), s.r80, chk_pos s.o67, s.w67, ck_in (by omega) (by omega) (by omega), iN_cl (by omega) (by omega), A x hx.1 z, g_breakFor (by omega), bnd_ret]
    by_cases y : 0 ≤ mkF (B x)
    · rw [if_neg (fun y2 => by have := (iN_lt0 (by omega) (by omega)).mp y2; omega), bN_y y]
    · rw [if_pos ((iN_lt0 (by omega) (by omega)).mpr (by omega)), bN_n y]
  · have e : chT B L x = -1 := if_neg z
    rw [if_pos (yleN (by omega) (by omega) (by omega)), e, bN_n (by decide)]
/-! strings -/
theorem st_ok {j : Nat} (hj : j < 12) : okS (1000000 + j) := ⟨by omega, by show 1000000 + j < 1000000 + 12; omega⟩
theorem st_tab : ((List.range 12).all fun j => decide (sLen (1000000 + j) = iN (stZ j).length) && decide (sLn (1000000 + j) = (stZ j).length) && (List.range (stZ j).length).all fun i => decide (sCh (1000000 + j) i = iN ((stZ j).getD i 0)) && decide (-200 ≤ (stZ j).getD i 0 ∧ (stZ j).getD i 0 ≤ 200)) = true := by decide +kernel
theorem st_at {j : Nat} (hj : j < 12) : (sLen (1000000 + j) = iN (stZ j).length ∧ sLn (1000000 + j) = (stZ j).length) ∧ ∀ i : Nat, i < (stZ j).length → sCh (1000000 + j) i = iN ((stZ j).getD i 0) ∧ -200 ≤ (stZ j).getD i 0 ∧ (stZ j).getD i 0 ≤ 200 := by
  have h := List.all_eq_true.mp st_tab j (List.mem_range.mpr hj)
  rw [Bool.and_eq_true, Bool.and_eq_true, decide_eq_true_eq, decide_eq_true_eq] at h
  refine ⟨h.1, fun i hi => ?_⟩
  have h2 := List.all_eq_true.mp h.2 i (List.mem_range.mpr hi)
  rw [Bool.and_eq_true, decide_eq_true_eq, decide_eq_true_eq] at h2
  exact h2
theorem st_len {j : Nat} (hj : j < 12) : 3 ≤ (stZ j).length ∧ (stZ j).length ≤ 5 := by
  have h : ((List.range 12).all fun j => decide (3 ≤ (stZ j).length) && decide ((stZ j).length ≤ 5)) = true := by decide +kernel
  have h2 := List.all_eq_true.mp h j (List.mem_range.mpr hj)
  rw [Bool.and_eq_true, decide_eq_true_eq, decide_eq_true_eq] at h2
  exact h2
theorem spB_drop {B : Int → Int} {l : List Int} : ∀ (d i : Nat) (p : Int), i + d = l.length → spB B (p + i) (l.drop i) = if i < l.length then decide (B (p + i) = l.getD i 0) && spB B (p + (i + 1 : Nat)) (l.drop (i + 1)) else true := by
  intro d i p h
  by_cases z : i < l.length
  · have eg : l.getD i 0 = l[i] := by rw [List.getD_eq_getElem?_getD, List.getElem?_eq_getElem z]; rfl
    rw [if_pos z, List.drop_eq_getElem_cons z, spB, eg, show p + (i : Int) + 1 = p + ((i + 1 : Nat) : Int) by omega]
  · rw [if_neg z, List.drop_eq_nil_of_le (by omega), spB]
theorem g_spL {h : Hp} {B : Int → Int} {L p x : Int} {j : Nat} (tx : TXo B L) (t : T5 h B L p) (hj : j < 12) (hx : 0 ≤ x ∧ x + (stZ j).length ≤ L) : ∀ (d i n : Nat), i + d = (stZ j).length → d < n → f_X5_spells_L20 n h 566 (iN x) (1000000 + j) (iN 1) (iN i) = some (h, .inr (if spB B (x + i) ((stZ j).drop i) = true then iN 1 else iN 0)) := by
  obtain ⟨s, t6, t2, t3, A⟩ := t
  have hL := tx.1
  have sl := st_len hj
  have sa := st_at hj
  intro d
  induction d with
  | zero =>
    intro i n hd hn
    obtain ⟨n, rfl⟩ : ∃ z, n = z + 1 := ⟨n - 1, by omega⟩
    show f_X5_spells_B20 (f_X5_spells_L20 n) h 566 (iN x) (1000000 + j) (iN 1) (iN i) = _
    unfold f_X5_spells_B20
    rw [if_neg (by decide), chk_pos (st_ok hj), sa.1.1, if_pos (yleN (by omega) (by omega) (by omega)), chk_pos (show iN 1 = 0 ∨ iN 1 = 1 from Or.inr rfl), if_pos (show spB B (x + i) ((stZ j).drop i) = true by rw [spB_drop 0 i x hd, if_neg (show ¬ i < (stZ j).length by omega)])]
  | succ d ih =>
    intro i n hd hn
    obtain ⟨n, rfl⟩ : ∃ z, n = z + 1 := ⟨n - 1, by omega⟩
    have b := tx.2 (x + i) (by omega) (by omega)
    have c := sa.2 i (by omega)
    show f_X5_spells_B20 (f_X5_spells_L20 n) h 566 (iN x) (1000000 + j) (iN 1) (iN i) = _
    unfold f_X5_spells_B20 f_X5_spells_L57
    rw [if_neg (by decide), chk_pos (st_ok hj), sa.1.1, if_neg (nleN (by omega) (by omega) (by omega)), chk_pos s.o8, s.r80, chk_pos s.o67, s.w67, iN_add, ck_in (by omega) (by omega) (by omega), chk_pos (st_ok hj), sa.1.2, ck_in (by omega) (by omega) (by omega), iN_cl (by omega) (by omega), A (x + i) (by omega) (by omega), show (iN (i : Int)).toNatClampNeg = i by rw [iN_cl (by omega) (by omega)]; omega, c.1, iN_add, spB_drop (d + 1) i x hd, if_pos (show i < (stZ j).length by omega)]
    by_cases z : B (x + i) = (stZ j).getD i 0
    · rw [if_pos (by rw [z]), decide_eq_true z, Bool.true_and]
      exact ih (i + 1) n (by omega) (by omega)
    · rw [if_neg (neN z (by omega) (by omega) (by omega) (by omega)), decide_eq_false z, Bool.false_and, if_neg (by decide)]
      obtain ⟨n, rfl⟩ : ∃ z, n = z + 1 := ⟨n - 1, by omega⟩
      show f_X5_spells_B20 (f_X5_spells_L20 n) h 566 (iN x) (1000000 + j) (iN 0) (iN (i + 1)) = _
      unfold f_X5_spells_B20
      rw [if_pos (by decide), chk_pos (show iN 0 = 0 ∨ iN 0 = 1 from Or.inl rfl)]
theorem g_spells {h : Hp} {B : Int → Int} {L p x q : Int} {j : Nat} (tx : TXo B L) (t : T5 h B L p) (hj : j < 12) (hx : 0 ≤ x ∧ x ≤ q ∧ q ≤ L) : f_X5_spells h 566 (iN x) (iN q) (1000000 + j) = some (h, .inr (bN (spW B x q (stZ j) = true))) := by
  have hL := tx.1
  have sl := st_len hj
  have sa := st_at hj
  unfold f_X5_spells f_X5_spells_L15 spW
  rw [chk_pos (st_ok hj), iN_sub, sa.1.1]
  by_cases z : q - x = (stZ j).length
  · rw [if_pos (by rw [z]), decide_eq_true z, Bool.true_and]
    have := g_spL tx t hj (x := x) (by omega) (stZ j).length 0 2000 (by omega) (by omega)
    rw [List.drop_zero] at this
    rw [show x + ((0 : Nat) : Int) = x by omega] at this
    exact this
  · rw [if_neg (neN z (by omega) (by omega) (by omega) (by omega)), decide_eq_false z, Bool.false_and, bN_n (by decide)]
    show f_X5_spells_B20 (f_X5_spells_L20 1999) h 566 (iN x) (1000000 + j) (iN 0) (iN 0) = _
    unfold f_X5_spells_B20
    rw [if_pos (by decide), chk_pos (show iN 0 = 0 ∨ iN 0 = 1 from Or.inl rfl)]
