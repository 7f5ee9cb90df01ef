/-! ===== STAGE B: the reference reads words, letters ===== -/
theorem g_toldL {h : Hp} {j : Nat} (hj : j < 10) : ∀ (d i n : Nat), i + d = (stZ j).length → d < n → f_X9_told_L4 n h (1000000 + j) (jN (encF (stF j) 0 i)) (iN i) = some (h, .inr (jN (encF (stF j) 0 (stZ j).length))) := by
  have hj2 : j < 12 := by omega
  have sl := st_len hj2
  have sa := st_at hj2
  intro d
  induction d with
  | zero =>
    intro i n hd hn
    obtain ⟨n, rfl⟩ : ∃ z, n = z + 1 := ⟨n - 1, by omega⟩
    show f_X9_told_B4 (f_X9_told_L4 n) h (1000000 + j) (jN (encF (stF j) 0 i)) (iN i) = _
    unfold f_X9_told_B4
    rw [chk_pos (st_ok hj2), sa.1.1, if_pos (yleN (by omega) (by omega) (by omega)), show i = (stZ j).length by omega]
  | succ d ih =>
    intro i n hd hn
    obtain ⟨n, rfl⟩ : ∃ z, n = z + 1 := ⟨n - 1, by omega⟩
    have c := sa.2 i (by omega)
    have e : ((27 : Int64) * jN (encF (stF j) 0 i) + Int32.toInt64 (iN ((stZ j).getD i 0))) - (97 : Int64) + Int64.ofNat 1 = jN (encF (stF j) 0 (i + 1)) := by
      rw [jN_of ⟨(by omega), (by omega)⟩, show (27 : Int64) = jN 27 from rfl, show (97 : Int64) = jN 97 from rfl, show Int64.ofNat 1 = jN 1 from rfl, jN_mul, jN_add, jN_sub, jN_add, encF]
      unfold stF
      rw [show (0 + (i : Int)).toNat = i by omega]
    show f_X9_told_B4 (f_X9_told_L4 n) h (1000000 + j) (jN (encF (stF j) 0 i)) (iN i) = _
    unfold f_X9_told_B4
    rw [chk_pos (st_ok hj2), sa.1.1, if_neg (nleN (by omega) (by omega) (by omega)), chk_pos (st_ok hj2), sa.1.2, ck_in (by omega) (by omega) (by omega), show (iN (i : Int)).toNatClampNeg = i by rw [iN_cl (by omega) (by omega)]; omega, c.1, e, iN_add]
    exact ih (i + 1) n (by omega) (by omega)
theorem g_told {h : Hp} {j : Nat} (hj : j < 10) : f_X9_told h (1000000 + j) = some (h, .inr (jN (encF (stF j) 0 (stZ j).length))) := by
  have sl := st_len (show j < 12 by omega)
  exact g_toldL hj (stZ j).length 0 2000 (by omega) (by omega)
theorem g_wordL {B : Int → Int} {L p : Int} {m : Int → Int} (tx : TXo B L) (hp : 0 ≤ p) : ∀ (d : Nat) (x : Int) (h : Hp) (n : Nat), L - x = d → d < n → p ≤ x → Y9 h m B L x → qI h 632 15 = iN p → (∀ k, p ≤ k → k < x → isL (B k)) →
    ∃ h2, f_X9_word_L10 n h 632 (jN (wvZ B p x)) = some (h2, .inr (jN (wvZ B p (leF B L d x)))) ∧ FZ p9 h h2 ∧ qI h2 632 12 = iN (leF B L d x) ∧ qI h2 632 7 = iN (-1) ∧ qI h2 632 15 = iN p := by
  have hL := tx.1
  intro d
  induction d with
  | zero =>
    intro x h n hd hn hx y e15 hl
    obtain ⟨n, rfl⟩ : ∃ z, n = z + 1 := ⟨n - 1, by omega⟩
    have lm := y.1.1
    have e : chT B L x = -1 := if_neg (by omega)
    refine ⟨h, ?_, FZ.rf, y.2.2.2.1, y.2.2.2.2, e15⟩
    show f_X9_word_B10 (f_X9_word_L10 n) h 632 (jN (wvZ B p x)) = _
    unfold f_X9_word_B10
    rw [chk_pos lm.1, g_isOff0 lm y.2.2.2.2, bnd_ret, if_pos (show iN 0 = 0 by decide), chk_pos lm.1, g_here tx y.h ⟨(by omega), (by omega)⟩, bnd_ret, e, g_in ⟨(by omega), (by omega)⟩ ⟨(by omega), (by omega)⟩ ⟨(by omega), (by omega)⟩, bnd_ret, if_pos (bN0.mpr (by decide)), leF]
  | succ d ih =>
    intro x h n hd hn hx y e15 hl
    obtain ⟨n, rfl⟩ : ∃ z, n = z + 1 := ⟨n - 1, by omega⟩
    have lm := y.1.1
    have bx := tx.2 x (by omega) (by omega)
    have e : chT B L x = B x := chT_in (by omega)
    rw [leF, e]
    by_cases z : isL (B x)
    · rw [if_pos z]
      have y2 : Y9 (putI h 632 12 (iN (x + 1))) m B L (x + 1) := y.st FZ.n12 rd_eq ((rd_nk (by decide)).trans y.2.2.2.2)
      obtain ⟨h4, e4, f4, r4⟩ := ih (x + 1) _ n (by omega) (by omega) (by omega) y2 ((rd_nk (by decide)).trans e15) (fun k k1 k2 => by
        by_cases e9 : k = x
        · rw [e9]; exact z
        · exact hl k k1 (by omega))
      refine ⟨h4, ?_, FZ.n12.tr f4, r4⟩
      have wl : wvZ B p x < 0 ∨ 0 ≤ wvZ B p x := by omega
      have wb : x - p ≤ 6 → wvZ B p x = encF B p (x - p).toNat ∧ 0 ≤ wvZ B p x ∧ wvZ B p x ≤ 27 ^ 7 := fun h6 => by
        have e9 : wvZ B p x = encF B p (x - p).toNat := if_pos (by omega)
        have b9 := encF_bd (B := B) (p := p) (x - p).toNat (fun k k1 k2 => hl k k1 (by omega)) (by omega)
        have b10 : (27 : Int) ^ (x - p).toNat ≤ 27 ^ 7 := by
          have : (x - p).toNat = 0 ∨ (x - p).toNat = 1 ∨ (x - p).toNat = 2 ∨ (x - p).toNat = 3 ∨ (x - p).toNat = 4 ∨ (x - p).toNat = 5 ∨ (x - p).toNat = 6 := by omega
          rcases this with h | h | h | h | h | h | h <;> rw [h] <;> decide
        exact ⟨e9, by omega, by omega⟩
      have nx : x - p ≤ 6 → wvZ B p (x + 1) = 27 * wvZ B p x + B x - 97 + 1 := fun h6 => by
        have e9 : wvZ B p (x + 1) = encF B p (x + 1 - p).toNat := if_pos (by omega)
        rw [e9, (wb h6).1, show (x + 1 - p).toNat = (x - p).toNat + 1 by omega, encF, show p + ((x - p).toNat : Int) = x by omega]
      have nx2 : ¬ x - p ≤ 6 → wvZ B p (x + 1) = -1 := fun h6 => if_neg (by omega)
      show f_X9_word_B10 (f_X9_word_L10 n) h 632 (jN (wvZ B p x)) = _
      unfold f_X9_word_B10 f_X9_word_L78
      rw [chk_pos lm.1, g_isOff0 lm y.2.2.2.2, bnd_ret, if_pos (show iN 0 = 0 by decide), chk_pos lm.1, g_here tx y.h ⟨(by omega), (by omega)⟩, bnd_ret, e, g_in ⟨(by omega), (by omega)⟩ ⟨(by omega), (by omega)⟩ ⟨(by omega), (by omega)⟩, bnd_ret, if_neg (fun w => bN0.mp w z), chk_pos lm.1, g_here tx y.h ⟨(by omega), (by omega)⟩, bnd_ret, e, y.2.2.2.1, e15, iN_sub, iN_add]
      by_cases h6 : x - p ≤ 6
      · have w7 := wb h6
        have e27 : (27 : Int) ^ 7 = 10460353203 := by decide
        rw [if_pos (yleN (by omega) (by omega) (by omega)), if_pos ((lg_geN (by omega)).mpr w7.2.1), chk_pos lm.1, lt_is, jN_of ⟨(by omega), (by omega)⟩, show (27 : Int64) = jN 27 from rfl, show (97 : Int64) = jN 97 from rfl, show Int64.ofNat 1 = jN 1 from rfl, jN_mul, jN_add, jN_sub, jN_add, ← nx h6]
        exact e4
      · rw [if_neg (nleN (by omega) (by omega) (by omega)), chk_pos lm.1, lt_is, show (-1 : Int64) = jN (-1) from rfl, ← nx2 h6]
        exact e4
    · rw [if_neg z]
      refine ⟨h, ?_, FZ.rf, y.2.2.2.1, y.2.2.2.2, e15⟩
      show f_X9_word_B10 (f_X9_word_L10 n) h 632 (jN (wvZ B p x)) = _
      unfold f_X9_word_B10
      rw [chk_pos lm.1, g_isOff0 lm y.2.2.2.2, bnd_ret, if_pos (show iN 0 = 0 by decide), chk_pos lm.1, g_here tx y.h ⟨(by omega), (by omega)⟩, bnd_ret, e, g_in ⟨(by omega), (by omega)⟩ ⟨(by omega), (by omega)⟩ ⟨(by omega), (by omega)⟩, bnd_ret, if_pos (bN0.mpr z)]
theorem g_word {h : Hp} {B : Int → Int} {L p : Int} {m : Int → Int} (tx : TXo B L) (y : Y9 h m B L p) (hp : 0 ≤ p ∧ p ≤ L) : ∃ h2, f_X9_word h 632 = some (h2, .inr (jN (wvZ B p (leP B L p)))) ∧ FZ p9 h h2 ∧ qI h2 632 12 = iN (leP B L p) ∧ qI h2 632 7 = iN (-1) ∧ qI h2 632 15 = iN p := by
  have hL := tx.1
  have y2 : Y9 (putI h 632 15 (iN p)) m B L p := y.st FZ.n15 ((rd_nk (by decide)).trans y.2.2.2.1) ((rd_nk (by decide)).trans y.2.2.2.2)
  obtain ⟨h2, e2, f2, r2⟩ := g_wordL tx hp.1 (L - p).toNat p _ 2000 (by omega) (by omega) (by omega) y2 rd_eq (fun k k1 k2 => by omega)
  refine ⟨h2, ?_, FZ.n15.tr f2, r2⟩
  have e0 : wvZ B p p = 0 := by
    unfold wvZ
    rw [if_pos (by omega), show (p - p).toNat = 0 by omega, encF]
  rw [e0] at e2
  unfold f_X9_word
  rw [chk_pos y.1.1.1, y.2.2.2.1, lt_is]
  exact e2
/-- the number of a letter in a list, the last one -/
def liF (c : Int) : List Int → Int → Int → Int
  | [], _, f => f
  | x :: r, i, f => liF c r (i + 1) (if c = x then i else f)
theorem g_letL {h : Hp} {B : Int → Int} {L p : Int} {m : Int → Int} {j : Nat} (tx : TXo B L) (y : Y9 h m B L p) (hp : 0 ≤ p ∧ p ≤ L) (hj : j < 12) : ∀ (d i n : Nat) (f : Int), i + d = (stZ j).length → d < n → -1 ≤ f → f ≤ 100 → f_X9_letterOf_L4 n h 632 (1000000 + j) (iN f) (iN i) = if liF (chT B L p) ((stZ j).drop i) i f = -1 then some (putI h 632 7 (iN p), .inr (iN (liF (chT B L p) ((stZ j).drop i) i f))) else some (putI h 632 12 (iN (p + 1)), .inr (iN (liF (chT B L p) ((stZ j).drop i) i f))) := by
  have hL := tx.1
  have sl := st_len hj
  have sa := st_at hj
  have lm := y.1.1
  have cb := chT_bd tx hp.1
  intro d
  induction d with
  | zero =>
    intro i n f hd hn f1 f2
    obtain ⟨n, rfl⟩ : ∃ z, n = z + 1 := ⟨n - 1, by omega⟩
    have e : liF (chT B L p) ((stZ j).drop i) i f = f := by
      rw [List.drop_eq_nil_of_le (by omega), liF]
    rw [e]
    show f_X9_letterOf_B4 (f_X9_letterOf_L4 n) h 632 (1000000 + j) (iN f) (iN i) = _
    unfold f_X9_letterOf_B4
    rw [chk_pos (st_ok hj), sa.1.1, if_pos (yleN (by omega) (by omega) (by omega)), chk_pos lm.1, y.2.2.2.1, g_off0 lm y.2.2.2.2, bnd_ret, chk_pos lm.1, iN_add, lt_is]
    by_cases z : f = -1
    · rw [if_pos (by rw [z]), if_pos z]
    · rw [if_neg (neN z (by omega) (by omega) (by omega) (by omega)), if_neg z]
  | succ d ih =>
    intro i n f hd hn f1 f2
    obtain ⟨n, rfl⟩ : ∃ z, n = z + 1 := ⟨n - 1, by omega⟩
    have hi : i < (stZ j).length := by omega
    have c := sa.2 i hi
    have eg : (stZ j).getD i 0 = (stZ j)[i] := by rw [List.getD_eq_getElem?_getD, List.getElem?_eq_getElem hi]; rfl
    have e : liF (chT B L p) ((stZ j).drop i) i f = liF (chT B L p) ((stZ j).drop (i + 1)) ((i + 1 : Nat) : Int) (if chT B L p = (stZ j).getD i 0 then (i : Int) else f) := by
      rw [List.drop_eq_getElem_cons hi, liF, eg, show (i : Int) + 1 = ((i + 1 : Nat) : Int) by omega]
    rw [e]
    show f_X9_letterOf_B4 (f_X9_letterOf_L4 n) h 632 (1000000 + j) (iN f) (iN i) = _
    unfold f_X9_letterOf_B4 f_X9_letterOf_L29
    rw [chk_pos (st_ok hj), sa.1.1, if_neg (nleN (by omega) (by omega) (by omega)), chk_pos lm.1, g_here tx y.h ⟨(by omega), (by omega)⟩, bnd_ret, chk_pos (st_ok hj), sa.1.2, ck_in (by omega) (by omega) (by omega), show (iN (i : Int)).toNatClampNeg = i by rw [iN_cl (by omega) (by omega)]; omega, c.1, iN_add]
    by_cases z : chT B L p = (stZ j).getD i 0
    · rw [if_pos (show iN (chT B L p) = iN ((stZ j).getD i 0) by rw [z]), if_pos z]
      exact ih (i + 1) n i (by omega) (by omega) (by omega) (by omega)
    · rw [if_neg (neN z (by omega) (by omega) (by omega) (by omega)), if_neg z]
      exact ih (i + 1) n f (by omega) (by omega) (by omega) (by omega)
theorem st10 : stZ 10 = [112, 104, 113, 99] := by decide +kernel
theorem st11 : stZ 11 = [95, 47, 126, 45] := by decide +kernel
theorem li10 (c : Int) : liF c (stZ 10) 0 (-1) = kdF c := by
  rw [st10]
  unfold kdF
  simp only [liF]
  repeat' split
  all_goals omega
theorem li11 (c : Int) : liF c (stZ 11) 0 (-1) = mkF c := by
  rw [st11]
  unfold mkF
  simp only [liF]
  repeat' split
  all_goals omega
theorem g_let10 {h : Hp} {B : Int → Int} {L p : Int} {m : Int → Int} (tx : TXo B L) (y : Y9 h m B L p) (hp : 0 ≤ p ∧ p ≤ L) : R9 h (kdP B L p) iN (f_X9_letterOf h 632 (1000000 + 10)) := by
  have hL := tx.1
  have kb := kdF_bd (chT B L p)
  have e := g_letL tx y hp (show 10 < 12 by omega) (stZ 10).length 0 2000 (-1) (by omega) (by rw [st10]; decide) (by omega) (by omega)
  rw [List.drop_zero, show (((0 : Nat) : Int)) = 0 from rfl, li10] at e
  have e' : f_X9_letterOf h 632 (1000000 + 10) = _ := e
  rw [e']
  unfold kdP
  by_cases z : 0 ≤ kdF (chT B L p)
  · rw [if_pos z, if_neg (show ¬ kdF (chT B L p) = -1 by omega)]
    exact ⟨_, rfl, FZ.n12, rd_eq, (rd_nk (by decide)).trans y.2.2.2.2⟩
  · rw [if_neg z, if_pos (show kdF (chT B L p) = -1 by omega)]
    exact ⟨⟨(by omega), (by omega)⟩, _, _, rfl, FZ.n7, rd_eq⟩
theorem g_let11 {h : Hp} {B : Int → Int} {L p : Int} {m : Int → Int} (tx : TXo B L) (y : Y9 h m B L p) (hp : 0 ≤ p ∧ p ≤ L) : f_X9_letterOf h 632 (1000000 + 11) = if 0 ≤ mkF (chT B L p) then some (putI h 632 12 (iN (p + 1)), .inr (iN (mkF (chT B L p)))) else some (putI h 632 7 (iN p), .inr (iN (-1))) := by
  have kb := mkF_bd (chT B L p)
  have e := g_letL tx y hp (show 11 < 12 by omega) (stZ 11).length 0 2000 (-1) (by omega) (by rw [st11]; decide) (by omega) (by omega)
  rw [List.drop_zero, show (((0 : Nat) : Int)) = 0 from rfl, li11] at e
  have e' : f_X9_letterOf h 632 (1000000 + 11) = _ := e
  rw [e']
  by_cases z : 0 ≤ mkF (chT B L p)
  · rw [if_pos z, if_neg (show ¬ mkF (chT B L p) = -1 by omega)]
  · rw [if_neg z, if_pos (show mkF (chT B L p) = -1 by omega), show mkF (chT B L p) = -1 by omega]
theorem g_wlL {B : Int → Int} {L p : Int} {m : Int → Int} (tx : TXo B L) (hp : 0 ≤ p ∧ p ≤ L) : ∀ (d : Nat) (c : Int) (h : Hp) (n : Nat), c + d = min (leP B L p - p) 12 → d + 2 < n → 0 ≤ c → Y9 h m B L (p + c) →
    ∃ h2, f_X9_wordLength_L2 n h 632 (iN c) = some (h2, .inr (iN (if 12 < leP B L p - p then 13 else leP B L p - p))) ∧ FZ p9 h h2 ∧ (if leP B L p = p then qI h2 632 7 = iN p else if 12 < leP B L p - p then qI h2 632 7 = iN (p + 12) else qI h2 632 12 = iN (leP B L p) ∧ qI h2 632 7 = iN (-1)) := by
  have hL := tx.1
  have lo := leP_ok (B := B) hp.2
  intro d
  induction d with
  | zero =>
    intro c h n hd hn hc y
    obtain ⟨n, rfl⟩ : ∃ z, n = z + 1 := ⟨n - 1, by omega⟩
    have lm := y.1.1
    have cb := chT_bd tx (show 0 ≤ p + c by omega)
    show ∃ h2, f_X9_wordLength_B2 (f_X9_wordLength_L2 n) h 632 (iN c) = _ ∧ _
    unfold f_X9_wordLength_B2 f_X9_wordLength_L50
    rw [chk_pos lm.1, g_isOff0 lm y.2.2.2.2, bnd_ret, if_pos (show iN 0 = 0 by decide), chk_pos lm.1, g_here tx y.h ⟨(by omega), (by omega)⟩, bnd_ret, g_in ⟨(by omega), (by omega)⟩ ⟨(by omega), (by omega)⟩ ⟨(by omega), (by omega)⟩, bnd_ret]
    by_cases z : 12 < leP B L p - p
    · have ec : c = 12 := by omega
      have il : isL (chT B L (p + c)) := by
        rw [chT_in (by omega)]
        exact lo.2.1 _ (by omega) (by omega)
      rw [if_neg (fun w => bN0.mp w il), if_pos (show iN c = iN 12 by rw [ec]), chk_pos lm.1, y.2.2.2.1, g_off0 lm y.2.2.2.2, bnd_ret, iN_add, if_pos z]
      obtain ⟨n, rfl⟩ : ∃ z, n = z + 1 := ⟨n - 1, by omega⟩
      have o : Of9 (putI h 632 7 (iN (p + c))) (p + c) := ⟨lm.ly Ly.pI, ⟨(by omega), (by omega)⟩, rd_eq⟩
      refine ⟨putI h 632 7 (iN (p + c)), ?_, FZ.n7, by rw [if_neg (show ¬ leP B L p = p by omega), if_pos z, rd_eq, ec]⟩
      show f_X9_wordLength_B2 (f_X9_wordLength_L2 n) (putI h 632 7 (iN (p + c))) 632 (iN (c + 1)) = _
      unfold f_X9_wordLength_B2 f_X9_wordLength_L56
      rw [chk_pos o.1.1, g_isOff1 o, bnd_ret, if_neg (by decide), chk_pos o.1.1, g_isOff1 o, bnd_ret, if_neg (by decide), show c + 1 = 13 by omega]
    · have ec : p + c = leP B L p := by omega
      have il : ¬ isL (chT B L (p + c)) := by
        rw [ec]
        exact lo.2.2
      unfold f_X9_wordLength_L56
      rw [if_pos (bN0.mpr il), if_neg z, chk_pos lm.1, g_isOff0 lm y.2.2.2.2, bnd_ret, if_pos (show iN 0 = 0 by decide), chk_pos lm.1, y.2.2.2.1, g_off0 lm y.2.2.2.2, bnd_ret]
      by_cases e : leP B L p = p
      · rw [if_pos (show iN c = 0 by rw [show c = 0 by omega]; decide)]
        exact ⟨_, by rw [show leP B L p - p = c by omega], FZ.n7, by rw [if_pos e, rd_eq, show p + c = p by omega]⟩
      · rw [if_neg (eN0 (show c ≠ 0 by omega) (by omega) (by omega))]
        exact ⟨_, by rw [show leP B L p - p = c by omega], FZ.rf, by rw [if_neg e, if_neg z]; exact ⟨by rw [← ec]; exact y.2.2.2.1, y.2.2.2.2⟩⟩
  | succ d ih =>
    intro c h n hd hn hc y
    obtain ⟨n, rfl⟩ : ∃ z, n = z + 1 := ⟨n - 1, by omega⟩
    have lm := y.1.1
    have cb := chT_bd tx (show 0 ≤ p + c by omega)
    have il : isL (chT B L (p + c)) := by
      rw [chT_in (by omega)]
      exact lo.2.1 _ (by omega) (by omega)
    have y2 : Y9 (putI h 632 12 (iN (p + c + 1))) m B L (p + (c + 1)) := by
      rw [show p + (c + 1) = p + c + 1 by omega]
      exact y.st FZ.n12 rd_eq ((rd_nk (by decide)).trans y.2.2.2.2)
    obtain ⟨h4, e4, f4, r4⟩ := ih (c + 1) _ n (by omega) (by omega) (by omega) y2
    refine ⟨h4, ?_, FZ.n12.tr f4, r4⟩
    show f_X9_wordLength_B2 (f_X9_wordLength_L2 n) h 632 (iN c) = _
    unfold f_X9_wordLength_B2 f_X9_wordLength_L50
    rw [chk_pos lm.1, g_isOff0 lm y.2.2.2.2, bnd_ret, if_pos (show iN 0 = 0 by decide), chk_pos lm.1, g_here tx y.h ⟨(by omega), (by omega)⟩, bnd_ret, g_in ⟨(by omega), (by omega)⟩ ⟨(by omega), (by omega)⟩ ⟨(by omega), (by omega)⟩, bnd_ret, if_neg (fun w => bN0.mp w il), if_neg (neN (by omega) (by omega) (by omega) (by omega) (by omega)), chk_pos lm.1, y.2.2.2.1, iN_add, lt_is, iN_add]
    exact e4
theorem g_wordLen {h : Hp} {B : Int → Int} {L p : Int} {m : Int → Int} (tx : TXo B L) (y : Y9 h m B L p) (hp : 0 ≤ p ∧ p ≤ L) : ∃ h2, f_X9_wordLength h 632 = some (h2, .inr (iN (if 12 < leP B L p - p then 13 else leP B L p - p))) ∧ FZ p9 h h2 ∧ (if leP B L p = p then qI h2 632 7 = iN p else if 12 < leP B L p - p then qI h2 632 7 = iN (p + 12) else qI h2 632 12 = iN (leP B L p) ∧ qI h2 632 7 = iN (-1)) := by
  have lo := (leP_ok (B := B) hp.2).1
  exact g_wlL tx hp (min (leP B L p - p) 12).toNat 0 h 2000 (by omega) (by omega) (by omega) (by rw [Int.add_zero]; exact y)
