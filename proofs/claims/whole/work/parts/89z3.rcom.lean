/-! ===== STAGE B: the reference's commands ===== -/
theorem W0.e {h : Hp} {m : Int → Int} {p0 c sp : Int} {r : Int ⊕ (Int × (Int → Int))} {x : Option (Rs Unit)} (a : W0 h r x) : E9 h m 0 p0 (efP c sp r) x := by
  match r, a with
  | .inl e, a => exact fun _ => a
  | .inr (q, b), a => exact ⟨fun _ => a, fun d1 => by omega⟩
theorem w_53 {h : Hp} {s0 : Int32} (lm : LM h 632) (e7 : qI h 632 7 = iN (-1)) : f_X9_writes_L53 h 632 s0 = f_X9_writes_L72 2000 h 632 s0 (iN 1) (iN 1) := by
  unfold f_X9_writes_L53 f_X9_writes_L67
  rw [chk_pos lm.1, g_isOff0 lm e7, bnd_ret, if_pos (show iN 0 = 0 from rfl)]
theorem w_53o {h : Hp} {s0 : Int32} {e : Int} (o : Of9 h e) : f_X9_writes_L53 h 632 s0 = some (h, .inr ()) := by
  unfold f_X9_writes_L53 f_X9_writes_L67
  rw [chk_pos o.1.1, g_isOff1 o, bnd_ret, if_neg (by decide), show (2000 : Nat) = 1999 + 1 from rfl, w_end o.1, n_must o, bnd_ret]
theorem w_un {h : Hp} (lm : LM h 632) {p0 : Int} (hp : 0 ≤ p0 ∧ p0 ≤ 60) : Of9 (putI (putI h 632 14 (iN 1)) 632 7 (iN p0)) p0 := ⟨(lm.ly Ly.pI).ly Ly.pI, hp, rd_eq⟩
theorem r_wtail {h : Hp} {B : Int → Int} {L p d p0 c sp kd : Int} {m : Int → Int} (tx : TXo B L) (w : WF m) (z : Z9 h m B L p d) (hd : d = 0 ∨ d = 1) (hp : 0 ≤ p ∧ p ≤ L) (hp0 : 0 ≤ p0 ∧ p0 ≤ 60) (hc : 0 ≤ c ∧ c < 50) (hs : 1 ≤ sp ∧ sp < 50) : E9 h m d p0 (efP c sp (wdP B L 11 p (nwB 0 0 0 kd))) (bnd (f_X9_addsHere h 632 (iN c) (iN sp) (iN kd) (iN p0)) fun h22 r23 => f_X9_writes_L53 h22 632 r23) := by
  have lm := z.1.1.1
  have h5 := w.1.2.2.2.2.2
  rcases hd with rfl | rfl
  · rw [r_adds0 lm z.2.1, bnd_ret, w_53 lm z.1.2.2.2.2]
    exact (r_wd0 (m := m) tx 11 h 2000 p (nwB 0 0 0 kd) (by omega) (by omega) z hp.1 hp.2).e
  · generalize er : wdP B L 11 p (nwB 0 0 0 kd) = r
    match r, er with
    | .inl e, er => exact fun d0 => by omega
    | .inr (q, b2), er =>
      refine ⟨fun d0 => by omega, fun _ => ?_⟩
      show D9 h p0 q (puE c sp b2 m) _
      have a := r_adds1 (b := b2) (kd := kd) (p0 := p0) z.1.1 w z.2.1 z.2.2 hc hs
      by_cases y : 0 < m 4 ∧ m 5 < 16 ∧ frB m (m 4 - 1) c sp (m 5).toNat = true
      · have ep : puE c sp b2 m = some (plN m (wB (m 4 - 1) c sp b2)) := if_pos y
        rw [ep] at a ⊢
        obtain ⟨h6, e6, f6, r6, m16⟩ := a
        rw [nwB_wB] at r6
        have z6 := z.pu f6 r6
        obtain ⟨h2, e2, f2, r2⟩ := r_wd1 (r := m 4 - 1) (c := c) (sp := sp) tx ⟨h5.1, m16⟩ 11 h6 2000 p q (nwB 0 0 0 kd) b2 (by omega) (by omega) z6 hp.1 hp.2 (Int.le_refl 0) (show (0 : Int) + 11 ≤ 11 by decide) er
        rw [e6, bnd_ret, w_53 z6.1.1.1 z6.1.2.2.2.2]
        exact ⟨h2, e2, f6.s33.tr f2, r2⟩
      · have ep : puE c sp b2 m = none := if_neg y
        rw [ep] at a ⊢
        have a2 : f_X9_addsHere h 632 (iN c) (iN sp) (iN kd) (iN p0) = some (putI (putI h 632 14 (iN 1)) 632 7 (iN p0), .inr (iN (-1))) := a
        rw [a2, bnd_ret, w_53o (w_un lm hp0)]
        exact ⟨_, rfl, FZ.un, rd_eq, (rd_nk (by decide)).trans rd_eq⟩
theorem r_writes {h : Hp} {B : Int → Int} {L p d p0 : Int} {m : Int → Int} (tx : TXo B L) (w : WF m) (z : Z9 h m B L p d) (hd : d = 0 ∨ d = 1) (hp : 0 ≤ p ∧ p ≤ L) (hp0 : 0 ≤ p0 ∧ p0 ≤ 60) : E9 h m d p0 (cePt (m 0) B L p) (f_X9_writes h 632 (iN p0)) := by
  have h0 := w.1.1
  have hL := tx.1
  have lm := z.1.1.1
  unfold f_X9_writes cePt
  rw [chk_pos lm.1]
  refine E9.bd lm z.2.1 (r_column tx w z.1 hp) (fun h2 q2 c er2 f2 e12 e7 => ?_) (fun h2 v e o e13 => ⟨h2, by rw [chk_pos o.1.1, n_span o, bnd_ret, chk_pos o.1.1, g_isOff1 o, bnd_ret, if_neg (by decide)], FZ.rf, o.2.2⟩)
  have b2 := coP_bd er2
  have z2 := z.st f2 e12 e7
  have l2 := z2.1.1.1
  rw [chk_pos l2.1]
  refine E9.bd l2 z2.2.1 (r_span tx w z2.1 ⟨(by omega), (by omega)⟩ ⟨(by omega), (by omega)⟩) (fun h5 q5 sp er5 f5 e125 e75 => ?_) (fun h5 v e o e13 => ⟨h5, by rw [chk_pos o.1.1, g_isOff1 o, bnd_ret, if_neg (by decide)], FZ.rf, o.2.2⟩)
  have b5 := spP_bd er5
  have z5 := z2.st f5 e125 e75
  have l5 := z5.1.1.1
  rw [chk_pos l5.1, g_isOff0 l5 e75, bnd_ret, if_pos (show iN 0 = 0 from rfl), chk_pos l5.1]
  refine E9.bd l5 z5.2.1 (g_let10 tx z5.1 ⟨(by omega), (by omega)⟩) (fun h6 q6 kd er6 f6 e126 e76 => ?_) (fun h6 v e o e13 => ⟨h6, by rw [chk_pos o.1.1, n_must o, bnd_ret, chk_pos o.1.1, g_isOff1 o, bnd_ret, if_neg (by decide), w_53o o], FZ.rf, o.2.2⟩)
  have b6 := kdP_bd er6
  have z6 := z5.st f6 e126 e76
  have l6 := z6.1.1.1
  rw [chk_pos l6.1]
  refine E9.bd l6 z6.2.1 (r_must tx z6.1 ⟨(by omega), (by omega)⟩ (c := 61) (by omega)) (fun h7 q7 v7 er7 f7 e127 e77 => ?_) (fun h7 v e o e13 => ⟨h7, by rw [chk_pos o.1.1, g_isOff1 o, bnd_ret, if_neg (by decide), w_53o o], FZ.rf, o.2.2⟩)
  have b7 := skP_bd (by decide) er7
  have z7 := z6.st f7 e127 e77
  have l7 := z7.1.1.1
  rw [chk_pos l7.1, g_isOff0 l7 e77, bnd_ret, if_pos (show iN 0 = 0 from rfl), chk_pos l7.1]
  exact r_wtail tx w z7 hd ⟨(by omega), (by omega)⟩ hp0 ⟨(by omega), (by omega)⟩ ⟨(by omega), (by omega)⟩
theorem up_pl {m b : Int → Int} {k v : Int} (hk : 0 ≤ k ∧ k < 31) : up (plN m b) (10 + 31 * m 5 + k) v = plN m (up b k v) := by
  funext j
  unfold up plN
  dsimp only
  by_cases y : 10 + 31 * m 5 ≤ j ∧ j < 10 + 31 * m 5 + 31
  · rw [if_pos y, if_pos y]
    by_cases y2 : j = 10 + 31 * m 5 + k
    · rw [if_pos y2, if_pos (by omega)]
    · rw [if_neg y2, if_neg (by omega)]
  · rw [if_neg y, if_neg y, if_neg (by omega)]
theorem up_wB {r c sp k v : Int} {b : Int → Int} (hk : 3 ≤ k) : up (wB r c sp b) k v = wB r c sp (up b k v) := by
  funext j
  unfold up wB
  dsimp only
  repeat' split
  all_goals first | rfl | omega
theorem r_dtail {h : Hp} {B : Int → Int} {L p d p0 c sp wd ht : Int} {m : Int → Int} (w : WF m) (z : Z9 h m B L p d) (hd : d = 0 ∨ d = 1) (hc : 0 ≤ c ∧ c < 50) (hs : 1 ≤ sp ∧ sp < 50) : E9 h m d p0 (.inr (p, puE c sp (up (up (nwB 0 0 0 4) 5 wd) 6 ht))) (bnd (f_X9_addsHere h 632 (iN c) (iN sp) (iN 4) (iN p0)) fun h27 r28 => f_X9_draws_L66 h27 632 (iN wd) (iN ht) r28) := by
  have lm := z.1.1.1
  have h5 := w.1.2.2.2.2.2
  rcases hd with rfl | rfl
  · rw [r_adds0 lm z.2.1, bnd_ret]
    unfold f_X9_draws_L66
    rw [if_pos rfl]
    exact ⟨fun _ => ⟨h, rfl, FZ.rf, z.1.2.2.2.1, z.1.2.2.2.2⟩, fun d1 => by omega⟩
  · refine ⟨fun d0 => by omega, fun _ => ?_⟩
    have a := r_adds1 (b := up (up (nwB 0 0 0 4) 5 wd) 6 ht) (kd := 4) (p0 := p0) z.1.1 w z.2.1 z.2.2 hc hs
    by_cases y : 0 < m 4 ∧ m 5 < 16 ∧ frB m (m 4 - 1) c sp (m 5).toNat = true
    · have ep : puE c sp (up (up (nwB 0 0 0 4) 5 wd) 6 ht) m = some (plN m (wB (m 4 - 1) c sp (up (up (nwB 0 0 0 4) 5 wd) 6 ht))) := if_pos y
      rw [ep] at a ⊢
      obtain ⟨h6, e6, f6, r6, m16⟩ := a
      rw [nwB_wB] at r6
      have z6 := z.pu f6 r6
      have l6 := z6.1.1.1
      have ra := z6.1.1.up (k := 10 + 31 * m 5 + 5) (v := wd) (by omega)
      rw [up_pl (by omega), up_wB (by omega)] at ra
      have rb := ra.up (k := 10 + 31 * m 5 + 6) (v := ht) (by omega)
      rw [up_pl (by omega), up_wB (by omega)] at rb
      have la := ra.1
      rw [e6, bnd_ret]
      unfold f_X9_draws_L66
      rw [if_neg (neN (by omega) (by omega) (by omega) (by omega) (by omega)), chk_pos l6.1, l6.r1, chk_pos l6.o1, l6.w1, iN_mul, iN_add, iN_add, iN_add, ck_in (by omega) (by omega) (by omega), lt_is, iN_cl (by omega) (by omega), la.r1, chk_pos la.o1, la.w1, ck_in (by omega) (by omega) (by omega), lt_is, iN_cl (by omega) (by omega)]
      exact ⟨_, rfl, f6.s33.tr ((FZ.pI (Or.inr rfl)).tr (FZ.pI (Or.inr rfl))), rb, (rd_ne (by decide)).trans ((rd_ne (by decide)).trans z6.1.2.2.2.1), (rd_ne (by decide)).trans ((rd_ne (by decide)).trans z6.1.2.2.2.2)⟩
    · have ep : puE c sp (up (up (nwB 0 0 0 4) 5 wd) 6 ht) m = none := if_neg y
      rw [ep] at a ⊢
      have a2 : f_X9_addsHere h 632 (iN c) (iN sp) (iN 4) (iN p0) = some (putI (putI h 632 14 (iN 1)) 632 7 (iN p0), .inr (iN (-1))) := a
      rw [a2, bnd_ret]
      unfold f_X9_draws_L66
      rw [if_pos rfl]
      exact ⟨_, rfl, FZ.un, rd_eq, (rd_nk (by decide)).trans rd_eq⟩
theorem d_66o {h : Hp} {a b : Int32} : f_X9_draws_L66 h 632 a b (iN (-1)) = some (h, .inr ()) := by
  unfold f_X9_draws_L66
  rw [if_pos rfl]
theorem r_draws {h : Hp} {B : Int → Int} {L p d p0 : Int} {m : Int → Int} (tx : TXo B L) (w : WF m) (z : Z9 h m B L p d) (hd : d = 0 ∨ d = 1) (hp : 0 ≤ p ∧ p ≤ L) : E9 h m d p0 (piPt (m 0) B L p) (f_X9_draws h 632 (iN p0)) := by
  have h0 := w.1.1
  have hL := tx.1
  have lm := z.1.1.1
  unfold f_X9_draws piPt
  rw [chk_pos lm.1]
  refine E9.bd lm z.2.1 (r_column tx w z.1 hp) (fun h2 q2 c er2 f2 e12 e7 => ?_) (fun h2 v e o e13 => ⟨h2, by rw [chk_pos o.1.1, n_span o, bnd_ret, chk_pos o.1.1, n_must o, bnd_ret, chk_pos o.1.1, n_number o, bnd_ret, chk_pos o.1.1, n_must o, bnd_ret, chk_pos o.1.1, n_number o, bnd_ret, chk_pos o.1.1, n_must o, bnd_ret, chk_pos o.1.1, g_isOff1 o, bnd_ret, if_neg (by decide), d_66o], FZ.rf, o.2.2⟩)
  have b2 := coP_bd er2
  have z2 := z.st f2 e12 e7
  have l2 := z2.1.1.1
  rw [chk_pos l2.1]
  refine E9.bd l2 z2.2.1 (r_span tx w z2.1 ⟨(by omega), (by omega)⟩ ⟨(by omega), (by omega)⟩) (fun h5 q5 sp er5 f5 e125 e75 => ?_) (fun h5 v e o e13 => ⟨h5, by rw [chk_pos o.1.1, n_must o, bnd_ret, chk_pos o.1.1, n_number o, bnd_ret, chk_pos o.1.1, n_must o, bnd_ret, chk_pos o.1.1, n_number o, bnd_ret, chk_pos o.1.1, n_must o, bnd_ret, chk_pos o.1.1, g_isOff1 o, bnd_ret, if_neg (by decide), d_66o], FZ.rf, o.2.2⟩)
  have b5 := spP_bd er5
  have z5 := z2.st f5 e125 e75
  have l5 := z5.1.1.1
  rw [chk_pos l5.1]
  refine E9.bd l5 z5.2.1 (r_must tx z5.1 ⟨(by omega), (by omega)⟩ (c := 61) (by omega)) (fun h6 q6 v6 er6 f6 e126 e76 => ?_) (fun h6 v e o e13 => ⟨h6, by rw [chk_pos o.1.1, n_number o, bnd_ret, chk_pos o.1.1, n_must o, bnd_ret, chk_pos o.1.1, n_number o, bnd_ret, chk_pos o.1.1, n_must o, bnd_ret, chk_pos o.1.1, g_isOff1 o, bnd_ret, if_neg (by decide), d_66o], FZ.rf, o.2.2⟩)
  have b6 := skP_bd (by decide) er6
  have z6 := z5.st f6 e126 e76
  have l6 := z6.1.1.1
  rw [chk_pos l6.1]
  refine E9.bd l6 z6.2.1 (r_number tx z6.1 ⟨(by omega), (by omega)⟩ ⟨(by omega), (by omega)⟩ ⟨(by omega), (by omega)⟩) (fun h7 q7 wd er7 f7 e127 e77 => ?_) (fun h7 v e o e13 => ⟨h7, by rw [chk_pos o.1.1, n_must o, bnd_ret, chk_pos o.1.1, n_number o, bnd_ret, chk_pos o.1.1, n_must o, bnd_ret, chk_pos o.1.1, g_isOff1 o, bnd_ret, if_neg (by decide), d_66o], FZ.rf, o.2.2⟩)
  have b7 := nuP_bd er7
  have z7 := z6.st f7 e127 e77
  have l7 := z7.1.1.1
  rw [chk_pos l7.1]
  refine E9.bd l7 z7.2.1 (r_must tx z7.1 ⟨(by omega), (by omega)⟩ (c := 120) (by omega)) (fun h8 q8 v8 er8 f8 e128 e78 => ?_) (fun h8 v e o e13 => ⟨h8, by rw [chk_pos o.1.1, n_number o, bnd_ret, chk_pos o.1.1, n_must o, bnd_ret, chk_pos o.1.1, g_isOff1 o, bnd_ret, if_neg (by decide), d_66o], FZ.rf, o.2.2⟩)
  have b8 := skP_bd (by decide) er8
  have z8 := z7.st f8 e128 e78
  have l8 := z8.1.1.1
  rw [chk_pos l8.1]
  refine E9.bd l8 z8.2.1 (r_number tx z8.1 ⟨(by omega), (by omega)⟩ ⟨(by omega), (by omega)⟩ ⟨(by omega), (by omega)⟩) (fun h9 q9 ht er9 f9 e129 e79 => ?_) (fun h9 v e o e13 => ⟨h9, by rw [chk_pos o.1.1, n_must o, bnd_ret, chk_pos o.1.1, g_isOff1 o, bnd_ret, if_neg (by decide), d_66o], FZ.rf, o.2.2⟩)
  have b9 := nuP_bd er9
  have z9 := z8.st f9 e129 e79
  have l9 := z9.1.1.1
  rw [chk_pos l9.1]
  refine E9.bd l9 z9.2.1 (r_must tx z9.1 ⟨(by omega), (by omega)⟩ (c := 59) (by omega)) (fun h10 q10 v10 er10 f10 e1210 e710 => ?_) (fun h10 v e o e13 => ⟨h10, by rw [chk_pos o.1.1, g_isOff1 o, bnd_ret, if_neg (by decide), d_66o], FZ.rf, o.2.2⟩)
  have z10 := z9.st f10 e1210 e710
  have l10 := z10.1.1.1
  rw [chk_pos l10.1, g_isOff0 l10 e710, bnd_ret, if_pos (show iN 0 = 0 from rfl), chk_pos l10.1]
  exact r_dtail w z10 hd ⟨(by omega), (by omega)⟩ ⟨(by omega), (by omega)⟩
theorem bnd_u {x : Option (Rs Unit)} : (bnd x fun h _ => some (h, .inr ())) = x := by
  match x with
  | none => rfl
  | some (h, .inl e) => rfl
  | some (h, .inr ()) => rfl
/-- the reference compares a word by its number -/
theorem cmpW {B : Int → Int} {p q : Int} {j : Nat} (hj : j < 10) (hq : p ≤ q) (ll : ∀ k, p ≤ k → k < q → isL (B k)) : lg_cmp (jN (wvZ B p q)) (jN (encF (stF j) 0 (stZ j).length)) = 0 ↔ spW B p q (stZ j) = true := by
  have sl := st_len (show j < 12 by omega)
  have eb := encF_bd (B := stF j) (p := 0) (stZ j).length (fun k k1 k2 => stF_let hj k1 k2) (by omega)
  have e5 : (27 : Int) ^ (stZ j).length ≤ 27 ^ 5 := by
    have : (stZ j).length = 3 ∨ (stZ j).length = 4 ∨ (stZ j).length = 5 := by omega
    rcases this with h | h | h <;> rw [h] <;> decide
  have e27 : (27 : Int) ^ 5 = 14348907 := by decide
  have wb : -1 ≤ wvZ B p q ∧ wvZ B p q ≤ 27 ^ 7 := by
    unfold wvZ
    by_cases y : q - p ≤ 7
    · rw [if_pos y]
      have b9 := encF_bd (B := B) (p := p) (q - p).toNat (fun k k1 k2 => ll k k1 (by omega)) (by omega)
      have b10 : (27 : Int) ^ (q - p).toNat ≤ 27 ^ 7 := by
        have : (q - p).toNat = 0 ∨ (q - p).toNat = 1 ∨ (q - p).toNat = 2 ∨ (q - p).toNat = 3 ∨ (q - p).toNat = 4 ∨ (q - p).toNat = 5 ∨ (q - p).toNat = 6 ∨ (q - p).toNat = 7 := by omega
        rcases this with h | h | h | h | h | h | h | h <;> rw [h] <;> decide
      omega
    · rw [if_neg y]
      decide
  have e77 : (27 : Int) ^ 7 = 10460353203 := by decide
  rw [lg_eqN (by omega) (by omega)]
  exact wv_st hj hq ll
theorem spW_0 {B : Int → Int} {p : Int} {j : Nat} (hj : j < 12) : ¬ spW B p p (stZ j) = true := by
  have sl := st_len hj
  unfold spW
  rw [decide_eq_false (show ¬ (p - p = ((stZ j).length : Int)) by omega)]
  exact Bool.false_ne_true
theorem r_command {h : Hp} {B : Int → Int} {L p d : Int} {m : Int → Int} (tx : TXo B L) (w : WF m) (z : Z9 h m B L p d) (hd : d = 0 ∨ d = 1) (hp : 0 ≤ p ∧ p ≤ L) : E9 h m d p (cmP (m 0) B L p) (f_X9_command h 632) := by
  have hL := tx.1
  have lm := z.1.1.1
  have lb := (leP_ok (B := B) (L := L) (p := p) (by omega)).1
  have ll := (leP_ok (B := B) (L := L) (p := p) (by omega)).2.1
  obtain ⟨h4, e4, f4, e124, e74, e154⟩ := g_word tx z.1 ⟨(by omega), (by omega)⟩
  have z4 := z.st f4 e124 e74
  have l4 := z4.1.1.1
  unfold f_X9_command
  rw [chk_pos lm.1, e4, bnd_ret, chk_pos l4.1, e124, z.1.2.2.2.1]
  refine E9.pre f4 ?_
  by_cases y0 : leP B L p = p
  · have ec : cmP (m 0) B L p = .inl p := by
      unfold cmP
      rw [y0, if_neg (spW_0 (by omega)), if_neg (spW_0 (by omega)), if_neg (spW_0 (by omega)), if_neg (spW_0 (by omega)), if_neg (spW_0 (by omega)), if_neg (spW_0 (by omega)), if_neg (spW_0 (by omega))]
    rw [if_pos (by rw [y0]), y0, g_off0 l4 e74, bnd_ret, ec]
    exact fun d0 => ⟨⟨(by omega), (by omega)⟩, _, rfl, FZ.n7, rd_eq⟩
  · have cm : ∀ j, j < 10 → (lg_cmp (jN (wvZ B p (leP B L p))) (jN (encF (stF j) 0 (stZ j).length)) = 0 ↔ spW B p (leP B L p) (stZ j) = true) := fun j hj => cmpW hj lb.1 ll
    rw [if_neg (neN y0 (by omega) (by omega) (by omega) (by omega)), g_told (show 3 < 10 by omega), bnd_ret]
    unfold cmP
    by_cases s3 : spW B p (leP B L p) (stZ 3) = true
    · rw [if_pos s3, if_pos ((cm 3 (by omega)).mpr s3), chk_pos l4.1, bnd_u]
      exact r_measures tx z4 hd ⟨(by omega), (by omega)⟩ (Or.inl ⟨rfl, rfl, rfl⟩)
    · rw [if_neg s3, if_neg (fun y => s3 ((cm 3 (by omega)).mp y)), g_told (show 4 < 10 by omega), bnd_ret]
      by_cases s4 : spW B p (leP B L p) (stZ 4) = true
      · rw [if_pos s4, if_pos ((cm 4 (by omega)).mpr s4), chk_pos l4.1, bnd_u]
        exact r_measures tx z4 hd ⟨(by omega), (by omega)⟩ (Or.inr (Or.inl ⟨rfl, rfl, rfl⟩))
      · rw [if_neg s4, if_neg (fun y => s4 ((cm 4 (by omega)).mp y)), g_told (show 5 < 10 by omega), bnd_ret]
        by_cases s5 : spW B p (leP B L p) (stZ 5) = true
        · rw [if_pos s5, if_pos ((cm 5 (by omega)).mpr s5), chk_pos l4.1, bnd_u]
          exact r_measures tx z4 hd ⟨(by omega), (by omega)⟩ (Or.inr (Or.inr ⟨rfl, rfl, rfl⟩))
        · rw [if_neg s5, if_neg (fun y => s5 ((cm 5 (by omega)).mp y)), g_told (show 6 < 10 by omega), bnd_ret]
          by_cases s6 : spW B p (leP B L p) (stZ 6) = true
          · rw [if_pos s6, if_pos ((cm 6 (by omega)).mpr s6), chk_pos l4.1, bnd_u]
            exact r_specifies tx w z4 hd ⟨(by omega), (by omega)⟩
          · rw [if_neg s6, if_neg (fun y => s6 ((cm 6 (by omega)).mp y)), g_told (show 7 < 10 by omega), bnd_ret]
            by_cases s7 : spW B p (leP B L p) (stZ 7) = true
            · rw [if_pos s7, if_pos ((cm 7 (by omega)).mpr s7), chk_pos l4.1, bnd_u]
              exact r_rows tx w z4 hd ⟨(by omega), (by omega)⟩
            · rw [if_neg s7, if_neg (fun y => s7 ((cm 7 (by omega)).mp y)), g_told (show 8 < 10 by omega), bnd_ret]
              by_cases s8 : spW B p (leP B L p) (stZ 8) = true
              · rw [if_pos s8, if_pos ((cm 8 (by omega)).mpr s8), chk_pos l4.1, bnd_u]
                exact r_writes tx w z4 hd ⟨(by omega), (by omega)⟩ ⟨(by omega), (by omega)⟩
              · rw [if_neg s8, if_neg (fun y => s8 ((cm 8 (by omega)).mp y)), g_told (show 9 < 10 by omega), bnd_ret]
                by_cases s9 : spW B p (leP B L p) (stZ 9) = true
                · rw [if_pos s9, if_pos ((cm 9 (by omega)).mpr s9), chk_pos l4.1, bnd_u]
                  exact r_draws tx w z4 hd ⟨(by omega), (by omega)⟩
                · rw [if_neg s9, if_neg (fun y => s9 ((cm 9 (by omega)).mp y)), chk_pos l4.1, g_off0 l4 e74, bnd_ret]
                  exact fun d0 => ⟨⟨(by omega), (by omega)⟩, _, rfl, FZ.n7, rd_eq⟩
