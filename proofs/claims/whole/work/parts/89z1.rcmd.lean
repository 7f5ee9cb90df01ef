/-! ===== STAGE B: the reference does commands ===== -/
def p9s (x j : Nat) : Prop := p9 x j ∨ x = 633
def p9u (x j : Nat) : Prop := p9 x j ∨ x = 633 ∨ (x = 632 ∧ j = 14)
theorem FZ.s9 {h h2 : Hp} (f : FZ p9 h h2) : FZ p9s h h2 := f.mo (fun x j z => Or.inl z)
theorem FZ.u9 {h h2 : Hp} (f : FZ p9s h h2) : FZ p9u h h2 := f.mo (fun x j z => z.elim Or.inl (fun y => Or.inr (Or.inl y)))
def D9 (h : Hp) (p0 q : Int) (o : Option (Int → Int)) (x : Option (Rs Unit)) : Prop := match o with
  | some n => ∃ h2, x = some (h2, .inr ()) ∧ FZ p9s h h2 ∧ RM h2 632 n ∧ qI h2 632 12 = iN q ∧ qI h2 632 7 = iN (-1)
  | none => ∃ h2, x = some (h2, .inr ()) ∧ FZ p9u h h2 ∧ qI h2 632 7 = iN p0 ∧ qI h2 632 14 = iN 1
def E9 (h : Hp) (m : Int → Int) (d p0 : Int) (r : CR1) (x : Option (Rs Unit)) : Prop := match r with
  | .inl e => d = 0 → (0 ≤ e ∧ e ≤ 60) ∧ ∃ h2, x = some (h2, .inr ()) ∧ FZ p9 h h2 ∧ qI h2 632 7 = iN e
  | .inr (q, ef) => (d = 0 → ∃ h2, x = some (h2, .inr ()) ∧ FZ p9 h h2 ∧ qI h2 632 12 = iN q ∧ qI h2 632 7 = iN (-1)) ∧ (d = 1 → D9 h p0 q (ef m) x)
theorem D9.pre {h h1 : Hp} {p0 q : Int} {o : Option (Int → Int)} {x : Option (Rs Unit)} (f : FZ p9 h h1) (a : D9 h1 p0 q o x) : D9 h p0 q o x := by
  match o, a with
  | some n, a =>
    obtain ⟨h2, e2, f2, r2⟩ := a
    exact ⟨h2, e2, f.s9.tr f2, r2⟩
  | none, a =>
    obtain ⟨h2, e2, f2, r2⟩ := a
    exact ⟨h2, e2, f.s9.u9.tr f2, r2⟩
theorem E9.pre {h h1 : Hp} {m : Int → Int} {d p0 : Int} {r : CR1} {x : Option (Rs Unit)} (f : FZ p9 h h1) (a : E9 h1 m d p0 r x) : E9 h m d p0 r x := by
  match r, a with
  | .inl e, a =>
    intro hd
    obtain ⟨eb, h2, e2, f2, q2⟩ := a hd
    exact ⟨eb, h2, e2, f.tr f2, q2⟩
  | .inr (q, ef), a =>
    refine ⟨fun hd => ?_, fun hd => (a.2 hd).pre f⟩
    obtain ⟨h2, e2, f2, q2⟩ := a.1 hd
    exact ⟨h2, e2, f.tr f2, q2⟩
/-- what runs over an error leaves it -/
def OfU {α : Type} (kx : Hp → α → Option (Rs Unit)) : Prop := ∀ h2 w e, Of9 h2 e → qI h2 632 13 = 0 → ∃ h3, kx h2 w = some (h3, .inr ()) ∧ FZ p9 h2 h3 ∧ qI h3 632 7 = iN e
theorem E9.bd {α : Type} {h : Hp} {m : Int → Int} {d p0 : Int} (lm : LM h 632) (hd : qI h 632 13 = iN d) {r : PR} {V : Int → α} {x : Option (Rs α)} {k : Int → Int → CR1} {kx : Hp → α → Option (Rs Unit)} (a : R9 h r V x) (c : ∀ h2 q v, r = .inr (q, v) → FZ p9 h h2 → qI h2 632 12 = iN q → qI h2 632 7 = iN (-1) → E9 h2 m d p0 (k q v) (kx h2 (V v))) (o : OfU kx) : E9 h m d p0 (bdP r k) (bnd x kx) := by
  match r, a with
  | .inl e, a =>
    intro d0
    obtain ⟨eb, h2, w, e2, f2, q2⟩ := a
    obtain ⟨h3, e3, f3, q3⟩ := o h2 w e ⟨lm.ly f2.1, eb, q2⟩ (by rw [f2.2 632 13 (fun z => by unfold p9 at z; omega), hd, d0]; decide)
    exact ⟨eb, h3, by rw [e2, bnd_ret, e3], f2.tr f3, q3⟩
  | .inr (q, v), a =>
    obtain ⟨h2, e2, f2, q2, q7⟩ := a
    rw [e2, bnd_ret]
    exact (c h2 q v rfl f2 q2 q7).pre f2
/-- the reader before a command -/
def Z9 (h : Hp) (m B : Int → Int) (L p d : Int) : Prop := Y9 h m B L p ∧ qI h 632 13 = iN d ∧ qI h 632 14 = iN 0
theorem Z9.st {h h2 : Hp} {m B : Int → Int} {L p q d : Int} (z : Z9 h m B L p d) (f : FZ p9 h h2) (e : qI h2 632 12 = iN q) (e7 : qI h2 632 7 = iN (-1)) : Z9 h2 m B L q d := ⟨z.1.st f e e7, (f.2 _ _ (fun y => by unfold p9 at y; omega)).trans z.2.1, (f.2 _ _ (fun y => by unfold p9 at y; omega)).trans z.2.2⟩
theorem r_me27 {h : Hp} {m B : Int → Int} {L p d p0 lo hi wi : Int} (tx : TXo B L) (z : Z9 h m B L p d) (hd : d = 0 ∨ d = 1) (hp : 0 ≤ p ∧ p ≤ L) (h1 : InR lo) (hh : InR hi) (hw : 0 ≤ wi ∧ wi ≤ 2) : E9 h m d p0 (bdP (nuP lo hi B L p) fun p2 v => bdP (skP 59 B L p2) fun p3 _ => .inr (p3, fun m => some (up m (1 + wi) v))) (f_X9_measures_L27 h 632 (iN wi) (iN hi) (iN lo) 632) := by
  have lm := z.1.1.1
  unfold f_X9_measures_L27
  rw [chk_pos lm.1]
  refine E9.bd lm z.2.1 (r_number tx z.1 hp h1 hh) (fun h2 q v er f e12 e7 => ?_) (fun h2 w e o e13 => ?_)
  · have b := nuP_bd er
    have z2 := z.st f e12 e7
    have l2 := z2.1.1.1
    rw [chk_pos l2.1]
    refine E9.bd l2 z2.2.1 (r_must tx z2.1 ⟨(by omega), (by omega)⟩ (c := 59) (by omega)) (fun h3 q3 v3 er3 f3 e123 e73 => ?_) (fun h3 w e o e13 => ?_)
    · have z3 := z2.st f3 e123 e73
      have l3 := z3.1.1.1
      rw [chk_pos l3.1, z3.2.1, l3.r1, chk_pos l3.o1, l3.w1, iN_add, ck_in (by omega) (by omega) (by omega), lt_is, iN_cl (by omega) (by omega)]
      refine ⟨fun d0 => ?_, fun d1 => ?_⟩
      · rw [if_pos (show iN d = 0 by rw [d0]; decide)]
        exact ⟨h3, rfl, FZ.rf, e123, e73⟩
      · rw [if_neg (show ¬ iN d = 0 by rw [d1]; decide)]
        exact ⟨_, rfl, FZ.pI (Or.inr rfl), z3.1.1.up (by omega), (rd_ne (by decide)).trans e123, (rd_ne (by decide)).trans e73⟩
    · refine ⟨h3, ?_, FZ.rf, o.2.2⟩
      rw [chk_pos o.1.1, if_pos e13]
  · refine ⟨h2, ?_, FZ.rf, o.2.2⟩
    rw [chk_pos o.1.1, n_must o, bnd_ret, chk_pos o.1.1, if_pos e13]
theorem n_me27 {h : Hp} {e : Int} {wi lo hi : Int32} (o : Of9 h e) (e13 : qI h 632 13 = 0) : f_X9_measures_L27 h 632 wi hi lo 632 = some (h, .inr ()) := by
  unfold f_X9_measures_L27
  rw [chk_pos o.1.1, n_number o, bnd_ret, chk_pos o.1.1, n_must o, bnd_ret, chk_pos o.1.1, if_pos e13]
theorem r_measures {h : Hp} {m B : Int → Int} {L p d p0 lo hi wi : Int} (tx : TXo B L) (z : Z9 h m B L p d) (hd : d = 0 ∨ d = 1) (hp : 0 ≤ p ∧ p ≤ L) (hw : (wi = 0 ∧ lo = 8 ∧ hi = 36) ∨ (wi = 1 ∧ lo = 0 ∧ hi = 2) ∨ (wi = 2 ∧ lo = 0 ∧ hi = 2)) : E9 h m d p0 (meP lo hi (1 + wi) B L p) (f_X9_measures h 632 (iN wi)) := by
  have lm := z.1.1.1
  unfold f_X9_measures f_X9_measures_L17 meP
  rw [chk_pos lm.1]
  refine E9.bd lm z.2.1 (r_must tx z.1 hp (c := 61) (by omega)) (fun h2 q v er f e12 e7 => ?_) (fun h2 w e o e13 => ?_)
  · have b := skP_bd (by decide) er
    have z2 := z.st f e12 e7
    rcases hw with ⟨rfl, rfl, rfl⟩ | ⟨rfl, rfl, rfl⟩ | ⟨rfl, rfl, rfl⟩
    · rw [if_pos (show iN 0 = 0 by decide), if_pos (show iN 0 = 0 by decide)]
      exact r_me27 tx z2 hd ⟨(by omega), (by omega)⟩ ⟨(by omega), (by omega)⟩ ⟨(by omega), (by omega)⟩ (by omega)
    · rw [if_neg (show ¬ iN 1 = 0 by decide), if_neg (show ¬ iN 1 = 0 by decide)]
      exact r_me27 tx z2 hd ⟨(by omega), (by omega)⟩ ⟨(by omega), (by omega)⟩ ⟨(by omega), (by omega)⟩ (by omega)
    · rw [if_neg (show ¬ iN 2 = 0 by decide), if_neg (show ¬ iN 2 = 0 by decide)]
      exact r_me27 tx z2 hd ⟨(by omega), (by omega)⟩ ⟨(by omega), (by omega)⟩ ⟨(by omega), (by omega)⟩ (by omega)
  · refine ⟨h2, ?_, FZ.rf, o.2.2⟩
    rw [n_me27 o e13, n_me27 o e13, n_me27 o e13, n_me27 o e13]
    repeat' split
    all_goals rfl
theorem r_seq {h : Hp} {m B : Int → Int} {L p d p0 c v : Int} (tx : TXo B L) (z : Z9 h m B L p d) (hd : d = 0 ∨ d = 1) (hp : 0 ≤ p ∧ p ≤ L) (hc : 0 ≤ c ∧ c < 4) : E9 h m d p0 (seP c v B L p) (f_X9_specifies_L96 h 632 (iN c) (iN v)) := by
  have lm := z.1.1.1
  unfold f_X9_specifies_L96 seP
  rw [chk_pos lm.1]
  refine E9.bd lm z.2.1 (r_must tx z.1 hp (c := 59) (by omega)) (fun h3 q3 v3 er3 f3 e123 e73 => ?_) (fun h3 w e o e13 => ?_)
  · have z3 := z.st f3 e123 e73
    have l3 := z3.1.1.1
    rw [chk_pos l3.1, z3.2.1, l3.r1, chk_pos l3.o1, l3.w1, iN_add, ck_in (by omega) (by omega) (by omega), lt_is, iN_cl (by omega) (by omega)]
    refine ⟨fun d0 => ?_, fun d1 => ?_⟩
    · rw [if_pos (show iN d = 0 by rw [d0]; decide)]
      exact ⟨h3, rfl, FZ.rf, e123, e73⟩
    · rw [if_neg (show ¬ iN d = 0 by rw [d1]; decide)]
      exact ⟨_, rfl, FZ.pI (Or.inr rfl), z3.1.1.up (by omega), (rd_ne (by decide)).trans e123, (rd_ne (by decide)).trans e73⟩
  · refine ⟨h3, ?_, FZ.rf, o.2.2⟩
    rw [chk_pos o.1.1, if_pos e13]
theorem n_seq {h : Hp} {e : Int} {c v : Int32} (o : Of9 h e) (e13 : qI h 632 13 = 0) : f_X9_specifies_L96 h 632 c v = some (h, .inr ()) := by
  unfold f_X9_specifies_L96
  rw [chk_pos o.1.1, n_must o, bnd_ret, chk_pos o.1.1, if_pos e13]
theorem r_specifies {h : Hp} {m B : Int → Int} {L p d p0 : Int} (tx : TXo B L) (w : WF m) (z : Z9 h m B L p d) (hd : d = 0 ∨ d = 1) (hp : 0 ≤ p ∧ p ≤ L) : E9 h m d p0 (clP (m 0) B L p) (f_X9_specifies h 632) := by
  have hL := tx.1
  have h0 := w.1.1
  have lm := z.1.1.1
  unfold f_X9_specifies clP
  rw [chk_pos lm.1]
  refine E9.bd lm z.2.1 (r_column tx w z.1 hp) (fun h2 q2 c er f e12 e7 => ?_) (fun h2 w e o e13 => ?_)
  · have b := coP_bd er
    have z2 := z.st f e12 e7
    have l2 := z2.1.1.1
    rw [chk_pos l2.1]
    refine E9.bd l2 z2.2.1 (r_must tx z2.1 ⟨(by omega), (by omega)⟩ (c := 61) (by omega)) (fun h3 q3 v3 er3 f3 e123 e73 => ?_) (fun h3 w e o e13 => ?_)
    · have b3 := skP_bd (by decide) er3
      have z3 := z2.st f3 e123 e73
      have l3 := z3.1.1.1
      have lb := (leP_ok (B := B) (L := L) (p := q3) (by omega)).1
      have ll := (leP_ok (B := B) (L := L) (p := q3) (by omega)).2.1
      obtain ⟨h4, e4, f4, e124, e74, e154⟩ := g_word tx z3.1 ⟨(by omega), (by omega)⟩
      have z4 := z3.st f4 e124 e74
      have l4 := z4.1.1.1
      have cmp : ∀ j, j < 10 → (lg_cmp (jN (wvZ B q3 (leP B L q3))) (jN (encF (stF j) 0 (stZ j).length)) = 0 ↔ spW B q3 (leP B L q3) (stZ j) = true) := fun j hj => by
        have sl := st_len (show j < 12 by omega)
        have eb := encF_bd (B := stF j) (p := 0) (stZ j).length (fun k k1 k2 => stF_let hj k1 k2) (by omega)
        have e5 : (27 : Int) ^ (stZ j).length ≤ 27 ^ 5 := by
          have : (stZ j).length = 3 ∨ (stZ j).length = 4 ∨ (stZ j).length = 5 := by omega
          rcases this with h | h | h <;> rw [h] <;> decide
        have e27 : (27 : Int) ^ 5 = 14348907 := by decide
        have wb : -1 ≤ wvZ B q3 (leP B L q3) ∧ wvZ B q3 (leP B L q3) ≤ 27 ^ 7 := by
          unfold wvZ
          by_cases y : leP B L q3 - q3 ≤ 7
          · rw [if_pos y]
            have b9 := encF_bd (B := B) (p := q3) (leP B L q3 - q3).toNat (fun k k1 k2 => ll k k1 (by omega)) (by omega)
            have b10 : (27 : Int) ^ (leP B L q3 - q3).toNat ≤ 27 ^ 7 := by
              have : (leP B L q3 - q3).toNat = 0 ∨ (leP B L q3 - q3).toNat = 1 ∨ (leP B L q3 - q3).toNat = 2 ∨ (leP B L q3 - q3).toNat = 3 ∨ (leP B L q3 - q3).toNat = 4 ∨ (leP B L q3 - q3).toNat = 5 ∨ (leP B L q3 - q3).toNat = 6 ∨ (leP B L q3 - q3).toNat = 7 := by omega
              rcases this with h | h | h | h | h | h | h | h <;> rw [h] <;> decide
            omega
          · rw [if_neg y]
            decide
        have e77 : (27 : Int) ^ 7 = 10460353203 := by decide
        rw [lg_eqN (by omega) (by omega)]
        exact wv_st hj lb.1 ll
      rw [chk_pos l3.1, e4, bnd_ret, chk_pos l4.1, g_isOff0 l4 e74, bnd_ret, if_pos (show iN 0 = 0 by decide), g_told (show 0 < 10 by omega), bnd_ret]
      refine E9.pre f4 ?_
      by_cases z0 : spW B q3 (leP B L q3) (stZ 0) = true
      · rw [if_pos z0, if_pos ((cmp 0 (by omega)).mpr z0), chk_pos l4.1]
        refine E9.bd l4 z4.2.1 (r_number tx z4.1 ⟨(by omega), (by omega)⟩ ⟨(by omega), (by omega)⟩ ⟨(by omega), (by omega)⟩) (fun h7 q7 v7 er7 f7 e127 e77 => ?_) (fun h7 w e o e13 => ⟨h7, n_seq o e13, FZ.rf, o.2.2⟩)
        have b7 := nuP_bd er7
        rw [iN_add]
        exact r_seq tx (z4.st f7 e127 e77) hd ⟨(by omega), (by omega)⟩ (by omega)
      · rw [if_neg z0, if_neg (fun y => z0 ((cmp 0 (by omega)).mp y)), g_told (show 1 < 10 by omega), bnd_ret]
        by_cases z1 : spW B q3 (leP B L q3) (stZ 1) = true
        · rw [if_pos z1, if_pos ((cmp 1 (by omega)).mpr z1), chk_pos l4.1]
          refine E9.bd l4 z4.2.1 (r_number tx z4.1 ⟨(by omega), (by omega)⟩ ⟨(by omega), (by omega)⟩ ⟨(by omega), (by omega)⟩) (fun h7 q7 v7 er7 f7 e127 e77 => ?_) (fun h7 w e o e13 => ⟨h7, n_seq o e13, FZ.rf, o.2.2⟩)
          have b7 := nuP_bd er7
          rw [iN_add]
          exact r_seq tx (z4.st f7 e127 e77) hd ⟨(by omega), (by omega)⟩ (by omega)
        · rw [if_neg z1, if_neg (fun y => z1 ((cmp 1 (by omega)).mp y)), g_told (show 2 < 10 by omega), bnd_ret]
          by_cases z2' : spW B q3 (leP B L q3) (stZ 2) = true
          · rw [if_pos z2', if_pos ((cmp 2 (by omega)).mpr z2')]
            exact r_seq tx z4 hd ⟨(by omega), (by omega)⟩ (by omega)
          · rw [if_neg z2', if_neg (fun y => z2' ((cmp 2 (by omega)).mp y)), chk_pos l4.1, e154, g_off0 l4 e74, bnd_ret]
            intro d0
            have o : Of9 (putI h4 632 7 (iN q3)) q3 := ⟨l4.ly Ly.pI, ⟨(by omega), (by omega)⟩, rd_eq⟩
            exact ⟨⟨(by omega), (by omega)⟩, _, n_seq o ((rd_nk (by decide)).trans (by rw [z4.2.1, d0]; decide)), FZ.n7, rd_eq⟩
    · have o2 : Of9 (putI h3 632 15 (qI h3 632 12)) e := o.st Ly.pI ((rd_nk (by decide)).trans o.2.2)
      refine ⟨putI h3 632 15 (qI h3 632 12), ?_, FZ.n15, o2.2.2⟩
      rw [chk_pos o.1.1, n_word o, bnd_ret, chk_pos o2.1.1, g_isOff1 o2, bnd_ret, if_neg (by decide)]
  · have o2 : Of9 (putI h2 632 15 (qI h2 632 12)) e := o.st Ly.pI ((rd_nk (by decide)).trans o.2.2)
    refine ⟨putI h2 632 15 (qI h2 632 12), ?_, FZ.n15, o2.2.2⟩
    rw [chk_pos o.1.1, n_must o, bnd_ret, chk_pos o.1.1, n_word o, bnd_ret, chk_pos o2.1.1, g_isOff1 o2, bnd_ret, if_neg (by decide)]
theorem g_undone {h : Hp} (lm : LM h 632) {p0 : Int} (e14 : qI h 632 14 = iN 0) (e13 : qI h 632 13 = iN 1) : f_X9_undone h 632 (iN p0) = some (putI (putI h 632 14 (iN 1)) 632 7 (iN p0), .inr ()) := by
  unfold f_X9_undone
  rw [chk_pos lm.1, e14, if_pos (by decide), e13, if_neg (by decide), lt_is, lt_is]
theorem FZ.un {h : Hp} {v w : Int32} : FZ p9u h (putI (putI h 632 14 v) 632 7 w) := (FZ.pI (Or.inr (Or.inr ⟨rfl, rfl⟩))).tr (FZ.pI (Or.inl ⟨rfl, Or.inl rfl⟩))
theorem r_rows {h : Hp} {m B : Int → Int} {L p d p0 : Int} (tx : TXo B L) (w : WF m) (z : Z9 h m B L p d) (hd : d = 0 ∨ d = 1) (hp : 0 ≤ p ∧ p ≤ L) : E9 h m d p0 (rwP B L p) (f_X9_rows h 632 (iN p0)) := by
  have lm := z.1.1.1
  have h4 := w.1.2.2.2.2.1
  unfold f_X9_rows rwP
  rw [chk_pos lm.1]
  refine E9.bd lm z.2.1 (r_must tx z.1 hp (c := 59) (by omega)) (fun h3 q3 v3 er3 f3 e123 e73 => ?_) (fun h3 w e o e13 => ?_)
  · have z3 := z.st f3 e123 e73
    have l3 := z3.1.1.1
    have e32 : f_X9_rows_L32 h3 632 = if iN d = 0 then some (h3, .inr ()) else some (putI h3 (632 + 1) (4 : Int).toNat (iN (m 4 + 1)), .inr ()) := by
      unfold f_X9_rows_L32
      rw [chk_pos l3.1, z3.2.1, l3.r1, chk_pos l3.o1, l3.w1, ck_in (by omega) (by omega) (by omega), lt_is, g_rd z3.1.1 (by omega) (by omega), iN_add, iN_cl (by omega) (by omega)]
    rw [chk_pos l3.1, z3.2.1, l3.r1, chk_pos l3.o1, l3.w1, ck_in (by omega) (by omega) (by omega), g_rd z3.1.1 (by omega) (by omega), e32]
    refine ⟨fun d0 => ?_, fun d1 => ?_⟩
    · rw [if_pos (show iN d = 0 by rw [d0]; decide), if_pos (show iN d = 0 by rw [d0]; decide)]
      exact ⟨h3, rfl, FZ.rf, e123, e73⟩
    · rw [if_neg (show ¬ iN d = 0 by rw [d1]; decide), if_neg (show ¬ iN d = 0 by rw [d1]; decide)]
      by_cases y : m 4 < 6
      · have ef : (fun m : Int → Int => if m 4 < 6 then some (up m 4 (m 4 + 1)) else none) m = some (up m 4 (m 4 + 1)) := if_pos y
        rw [ef, if_neg (neN (by omega) (by omega) (by omega) (by omega) (by omega))]
        exact ⟨_, rfl, FZ.pI (Or.inr rfl), z3.1.1.up (by omega), (rd_ne (by decide)).trans e123, (rd_ne (by decide)).trans e73⟩
      · have ef : (fun m : Int → Int => if m 4 < 6 then some (up m 4 (m 4 + 1)) else none) m = none := if_neg y
        rw [ef, if_pos (show iN (m 4) = iN 6 by rw [show m 4 = 6 by omega]), g_undone l3 z3.2.2 (by rw [z3.2.1, d1]), bnd_ret]
        exact ⟨_, rfl, FZ.un, rd_eq, (rd_nk (by decide)).trans rd_eq⟩
  · refine ⟨h3, ?_, FZ.rf, o.2.2⟩
    unfold f_X9_rows_L32
    rw [chk_pos o.1.1, if_pos e13, chk_pos o.1.1, if_pos e13]
