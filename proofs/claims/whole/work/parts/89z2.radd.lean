/-! ===== STAGE B: the reference's cells and pictures ===== -/
theorem r_adds0 {h : Hp} (lm : LM h 632) (e13 : qI h 632 13 = 0) {c sp kd p0 : Int32} : f_X9_addsHere h 632 c sp kd p0 = some (h, .inr (iN (-1))) := by
  unfold f_X9_addsHere
  rw [chk_pos lm.1, if_pos e13]
theorem nwB_wB {r c sp kd : Int} : nwB r c sp kd = wB r c sp (nwB 0 0 0 kd) := by
  funext k
  unfold nwB wB
  dsimp only
  repeat' split
  all_goals omega
def AdO (h : Hp) (p0 : Int) (m b : Int → Int) (o : Option (Int → Int)) (x : Option (Rs Int32)) : Prop := match o with
  | some _ => ∃ h2, x = some (h2, .inr (iN (m 5))) ∧ FZ (fun x _ => x = 633) h h2 ∧ RM h2 632 (plN m b) ∧ m 5 < 16
  | none => x = some (putI (putI h 632 14 (iN 1)) 632 7 (iN p0), .inr (iN (-1)))
theorem r_adds1 {h : Hp} {m b : Int → Int} {c sp kd p0 : Int} (rm : RM h 632 m) (w : WF m) (e13 : qI h 632 13 = iN 1) (e14 : qI h 632 14 = iN 0) (hc : 0 ≤ c ∧ c < 50) (hs : 1 ≤ sp ∧ sp < 50) : AdO h p0 m (nwB (m 4 - 1) c sp kd) (puE c sp b m) (f_X9_addsHere h 632 (iN c) (iN sp) (iN kd) (iN p0)) := by
  have lm := rm.1
  have h4 := w.1.2.2.2.2.1
  have h5 := w.1.2.2.2.2.2
  have L46 : f_X9_addsHere_L46 h 632 (iN p0) = some (putI (putI h 632 14 (iN 1)) 632 7 (iN p0), .inr (iN (-1))) := by
    unfold f_X9_addsHere_L46
    rw [chk_pos lm.1, g_undone lm e14 e13, bnd_ret]
  unfold f_X9_addsHere
  rw [chk_pos lm.1, if_neg (by rw [e13]; decide), lm.r1, chk_pos lm.o1, lm.w1, ck_in (by omega) (by omega) (by omega), ck_in (by omega) (by omega) (by omega), g_rd rm (by omega) (by omega), g_rd rm (by omega) (by omega), iN_sub]
  unfold puE
  by_cases y4 : m 4 = 0
  · rw [if_neg (show ¬ (0 < m 4 ∧ m 5 < 16 ∧ frB m (m 4 - 1) c sp (m 5).toNat = true) from fun z => by omega), if_pos (by rw [y4]; decide)]
    exact L46
  · rw [if_neg (show ¬ iN (m 4) = 0 from neN y4 (by omega) (by omega) (by omega) (by omega))]
    by_cases y5 : m 5 = 16
    · rw [if_neg (show ¬ (0 < m 4 ∧ m 5 < 16 ∧ frB m (m 4 - 1) c sp (m 5).toNat = true) from fun z => by omega), if_pos (by rw [y5])]
      exact L46
    · obtain ⟨g, eg, hg⟩ := g_isFree9 rm w (r := m 4 - 1) (c := c) (s := sp) ⟨(by omega), (by omega)⟩ hc hs
      have ff := frB_iff (m := m) (r := m 4 - 1) (c := c) (s := sp) (m 5).toNat
      rw [if_neg (neN y5 (by omega) (by omega) (by omega) (by omega)), eg, bnd_ret]
      by_cases y : g = true
      · have fr : frB m (m 4 - 1) c sp (m 5).toNat = true := ff.mpr (fun i h1 h2 => hg.mp y i h1 (by omega))
        obtain ⟨h6, e6, f6, r6⟩ := g_adds rm (r := m 4 - 1) (c := c) (sp := sp) (kd := kd) (by omega)
        rw [if_pos (show 0 < m 4 ∧ m 5 < 16 ∧ frB m (m 4 - 1) c sp (m 5).toNat = true from ⟨(by omega), (by omega), fr⟩), if_neg (fun z => bN0.mp z y), chk_pos lm.1, lm.r1, chk_pos lm.o1, lm.w1, ck_in (by omega) (by omega) (by omega), g_rd rm (by omega) (by omega), iN_sub, e6, bnd_ret]
        exact ⟨h6, rfl, f6, r6, (by omega)⟩
      · rw [if_neg (show ¬ (0 < m 4 ∧ m 5 < 16 ∧ frB m (m 4 - 1) c sp (m 5).toNat = true) from fun z => y (hg.mpr (fun i h1 h2 => ff.mp z.2.2 i h1 (by omega)))), if_pos (bN0.mpr y)]
        exact L46
theorem puN_pl {m b : Int → Int} {n br : Int} (hb : 0 ≤ b 4 ∧ b 4 < 12) : puN (plN m b) (m 5) n br = plN m (pshB b n br) := by
  funext j
  have e4 : blk (plN m b) (m 5) 4 = b 4 := plN_new (by omega)
  unfold puN
  rw [e4]
  unfold plN pshB up
  dsimp only
  by_cases y : 10 + 31 * m 5 ≤ j ∧ j < 10 + 31 * m 5 + 31
  · rw [if_pos y, if_pos y]
    repeat' split
    all_goals first | rfl | omega
  · rw [if_neg y, if_neg y, if_neg (by omega), if_neg (by omega), if_neg (by omega)]
theorem psh_wB {r c sp n br : Int} {b : Int → Int} (hb : 0 ≤ b 4) : pshB (wB r c sp b) n br = wB r c sp (pshB b n br) := by
  funext j
  have e4 : wB r c sp b 4 = b 4 := rfl
  unfold pshB up
  rw [e4]
  unfold wB
  dsimp only
  repeat' split
  all_goals first | rfl | omega
def W0 (h : Hp) (r : Int ⊕ (Int × (Int → Int))) (x : Option (Rs Unit)) : Prop := match r with
  | .inl e => (0 ≤ e ∧ e ≤ 60) ∧ ∃ h2, x = some (h2, .inr ()) ∧ FZ p9 h h2 ∧ qI h2 632 7 = iN e
  | .inr (q, _) => ∃ h2, x = some (h2, .inr ()) ∧ FZ p9 h h2 ∧ qI h2 632 12 = iN q ∧ qI h2 632 7 = iN (-1)
theorem W0.pre {h h1 : Hp} {r : Int ⊕ (Int × (Int → Int))} {x : Option (Rs Unit)} (f : FZ p9 h h1) (a : W0 h1 r x) : W0 h r x := by
  match r, a with
  | .inl e, a =>
    obtain ⟨eb, h2, e2, f2, q2⟩ := a
    exact ⟨eb, h2, e2, f.tr f2, q2⟩
  | .inr (q, b), a =>
    obtain ⟨h2, e2, f2, q2⟩ := a
    exact ⟨h2, e2, f.tr f2, q2⟩
/-- no more words -/
theorem w_end {h : Hp} {n : Nat} {i5 i7 : Int32} (lm : LM h 632) : f_X9_writes_L72 (n + 1) h 632 i5 (iN 0) i7 = bnd (f_X9_must h 632 (iN 59)) fun h3 _ => some (h3, .inr ()) := by
  show f_X9_writes_B72 (f_X9_writes_L72 n) h 632 i5 (iN 0) i7 = _
  unfold f_X9_writes_B72
  rw [if_pos (show iN 0 = 0 from rfl), chk_pos lm.1]
theorem w_t0 {h : Hp} {n : Nat} {i7 i8 : Int32} (lm : LM h 632) : f_X9_writes_L111 (f_X9_writes_L72 (n + 1)) h 632 (iN (-1)) i7 i8 = bnd (f_X9_must h 632 (iN 59)) fun h3 _ => some (h3, .inr ()) := by
  unfold f_X9_writes_L111 f_X9_writes_L112
  rw [if_pos (show iN 0 = 0 from rfl)]
  unfold f_X9_writes_L135 f_X9_writes_L136
  rw [if_pos (show iN 0 = 0 from rfl)]
  unfold f_X9_writes_L158
  rw [if_pos rfl]
  unfold f_X9_writes_L181
  rw [if_pos (show iN 0 = 0 from rfl)]
  unfold f_X9_writes_L197 f_X9_writes_L198
  exact w_end lm
theorem w_off {h : Hp} {n : Nat} {i7 i8 i10 : Int32} {e : Int} (o : Of9 h e) : f_X9_writes_L158 (f_X9_writes_L72 (n + 1)) h 632 (iN (-1)) i7 i8 (iN 1) i10 = some (h, .inr ()) := by
  unfold f_X9_writes_L158
  rw [if_pos rfl]
  unfold f_X9_writes_L181
  rw [if_neg (by decide), chk_pos o.1.1, g_isOff1 o, bnd_ret, if_neg (by decide)]
  unfold f_X9_writes_L197 f_X9_writes_L198
  rw [w_end o.1, n_must o, bnd_ret]
theorem mk_let {c : Int} (h : isL c) : ¬ 0 ≤ mkF c := by
  unfold mkF
  rw [if_neg (by omega), if_neg (by omega), if_neg (by omega), if_neg (by omega)]
  decide
theorem wdA_sk {B : Int → Int} {L q n : Int} {k : Nat} {b : Int → Int} (h : ¬ 0 ≤ mkF (chT B L q)) : wdA B L k q n b = bdP (skP 59 B L q) fun q2 _ => .inr (q2, pshB b n 0) := by
  match k with
  | 0 => rfl
  | k + 1 => exact if_neg h
theorem skP_n {B : Int → Int} {L q c : Int} (h : ¬ chT B L q = c) : skP c B L q = .inl q := if_neg h
/-- words are read, the first time -/
theorem r_wd0 {B : Int → Int} {L : Int} {m : Int → Int} (tx : TXo B L) : ∀ (k : Nat) (h : Hp) (f : Nat) (p : Int) (b : Int → Int), k + 1 < f → k ≤ 11 → Z9 h m B L p 0 → 0 ≤ p → p ≤ L → W0 h (wdP B L k p b) (f_X9_writes_L72 f h 632 (iN (-1)) (iN 1) (iN (12 - (k : Int))))
  | k, h, 0, p, b, hf, h11, z, p0, p1 => absurd hf (Nat.not_lt_zero _)
  | k, h, 1, p, b, hf, h11, z, p0, p1 => by omega
  | k, h, f + 2, p, b, hf, h11, z, p0, p1 => by
    have hL := tx.1
    have lm := z.1.1.1
    obtain ⟨l1, l2, l3⟩ := leP_ok (B := B) (L := L) (p := p) p1
    obtain ⟨h2, e2, f2, c2⟩ := g_wordLen tx z.1 ⟨p0, p1⟩
    have l2m := lm.ly f2.1
    show W0 h (wdP B L k p b) (f_X9_writes_B72 (f_X9_writes_L72 (f + 1)) h 632 (iN (-1)) (iN 1) (iN (12 - (k : Int))))
    unfold f_X9_writes_B72
    rw [if_neg (show ¬ iN 1 = 0 by decide), chk_pos lm.1, e2, bnd_ret, chk_pos l2m.1, wdP_A]
    refine W0.pre f2 ?_
    by_cases y0 : leP B L p = p
    · rw [if_pos y0] at c2
      have o : Of9 h2 p := ⟨l2m, ⟨p0, (by omega)⟩, c2⟩
      have ew : woP B L p = .inl p := if_pos (by omega)
      rw [g_isOff1 o, bnd_ret, if_neg (by decide), w_t0 l2m, n_must o, bnd_ret, ew]
      exact ⟨o.2.1, h2, rfl, FZ.rf, c2⟩
    · rw [if_neg y0] at c2
      by_cases y1 : 12 < leP B L p - p
      · rw [if_pos y1] at c2
        have o : Of9 h2 (p + 12) := ⟨l2m, ⟨(by omega), (by omega)⟩, c2⟩
        have ew : woP B L p = .inr (p + 12, 12) := by
          unfold woP
          rw [show min (leP B L p) (p + 12) = p + 12 by omega, if_neg (by omega), show p + 12 - p = 12 by omega]
        have il : isL (chT B L (p + 12)) := by
          rw [chT_in (by omega)]
          exact l2 _ (by omega) (by omega)
        rw [g_isOff1 o, bnd_ret, if_neg (by decide), w_t0 l2m, n_must o, bnd_ret, ew]
        show W0 h2 (wdA B L k (p + 12) 12 b) _
        rw [wdA_sk (mk_let il), skP_n (by omega)]
        exact ⟨o.2.1, h2, rfl, FZ.rf, c2⟩
      · rw [if_neg y1] at c2
        have ew : woP B L p = .inr (leP B L p, leP B L p - p) := by
          unfold woP
          rw [show min (leP B L p) (p + 12) = leP B L p by omega, if_neg (by omega)]
        have z2 := z.st f2 c2.1 c2.2
        rw [ew, if_neg y1, g_isOff0 l2m c2.2, bnd_ret, if_pos (show iN 0 = 0 from rfl), chk_pos l2m.1, g_here tx z2.1.h ⟨(by omega), (by omega)⟩, bnd_ret]
        show W0 h2 (wdA B L k (leP B L p) (leP B L p - p) b) _
        generalize leP B L p = q at *
        have cb := chT_bd tx (show 0 ≤ q by omega)
        have tail : ¬ 0 ≤ mkF (chT B L q) → W0 h2 (wdA B L k q (q - p) b) (bnd (f_X9_must h2 632 (iN 59)) fun h3 _ => some (h3, .inr ())) := fun y => by
          rw [wdA_sk y]
          have a := r_must tx z2.1 ⟨(by omega), (by omega)⟩ (c := 59) (by omega)
          revert a
          generalize skP 59 B L q = r
          intro a
          match r, a with
          | .inl e, a =>
            obtain ⟨eb, h3, w3, e3, f3, q3⟩ := a
            rw [e3, bnd_ret]
            exact ⟨eb, h3, rfl, f3, q3⟩
          | .inr (q2, v), a =>
            obtain ⟨h3, e3, f3, q3⟩ := a
            rw [e3, bnd_ret]
            exact ⟨h3, rfl, f3, q3⟩
        have mb := mkF_bd (chT B L q)
        by_cases y2 : chT B L q = 59
        · rw [if_pos (show iN (chT B L q) = iN 59 by rw [y2]), w_t0 l2m]
          exact tail (by omega)
        · rw [if_neg (neN y2 (by omega) (by omega) (by omega) (by omega)), chk_pos l2m.1, g_here tx z2.1.h ⟨(by omega), (by omega)⟩, bnd_ret]
          by_cases y3 : chT B L q = -1
          · rw [if_pos (show iN (chT B L q) = iN (-1) by rw [y3]), w_t0 l2m]
            exact tail (by omega)
          · rw [if_neg (neN y3 (by omega) (by omega) (by omega) (by omega))]
            have lt : q < L := by omega
            unfold f_X9_writes_L112
            rw [if_neg (show ¬ iN 1 = 0 by decide)]
            have er : Of9 (putI h2 632 7 (iN q)) q := ⟨l2m.ly Ly.pI, ⟨(by omega), (by omega)⟩, rd_eq⟩
            match k, hf, h11 with
            | 0, hf, h11 =>
              rw [if_pos (yleN (by omega) (by omega) (by omega))]
              unfold f_X9_writes_L135 f_X9_writes_L136
              rw [if_neg (show ¬ iN 1 = 0 by decide), if_pos (show iN (12 - ((0 : Nat) : Int)) = iN 12 from rfl), chk_pos l2m.1, c2.1, g_off0 l2m c2.2, bnd_ret, w_off er]
              show W0 h2 (bdP (skP 59 B L q) fun q2 _ => .inr (q2, pshB b (q - p) 0)) _
              rw [skP_n y2]
              exact ⟨⟨(by omega), (by omega)⟩, _, rfl, FZ.n7, rd_eq⟩
            | k + 1, hf, h11 =>
              rw [if_neg (nleN (by omega) (by omega) (by omega)), chk_pos l2m.1, g_let11 tx z2.1 ⟨(by omega), (by omega)⟩]
              by_cases y4 : 0 ≤ mkF (chT B L q)
              · have z3 : Z9 (putI h2 632 12 (iN (q + 1))) m B L (q + 1) 0 := z2.st FZ.n12 rd_eq ((rd_nk (by decide)).trans c2.2)
                have l3m := z3.1.1.1
                rw [if_pos y4, bnd_ret]
                unfold f_X9_writes_L136
                rw [if_neg (show ¬ iN 1 = 0 by decide), if_neg (neN (by omega) (by omega) (by omega) (by omega) (by omega))]
                unfold f_X9_writes_L158
                rw [if_pos rfl]
                unfold f_X9_writes_L181
                rw [if_neg (show ¬ iN 1 = 0 by decide), chk_pos l3m.1, g_isOff0 l3m z3.1.2.2.2.2, bnd_ret, if_pos (show iN 0 = 0 from rfl)]
                unfold f_X9_writes_L198
                rw [iN_add, show 12 - ((k + 1 : Nat) : Int) + 1 = 12 - (k : Int) by omega]
                have ea : wdA B L (k + 1) q (q - p) b = wdP B L k (q + 1) (pshB b (q - p) (mkF (chT B L q))) := if_pos y4
                rw [ea]
                exact (r_wd0 tx k _ (f + 1) (q + 1) _ (by omega) (by omega) z3 (by omega) (by omega)).pre FZ.n12
              · rw [if_neg y4, bnd_ret]
                unfold f_X9_writes_L136
                rw [if_neg (show ¬ iN 1 = 0 by decide), if_neg (neN (by omega) (by omega) (by omega) (by omega) (by omega)), w_off er, wdA_sk y4, skP_n y2]
                exact ⟨⟨(by omega), (by omega)⟩, _, rfl, FZ.n7, rd_eq⟩
theorem Z9.pu {h h2 : Hp} {m n B : Int → Int} {L p d : Int} (z : Z9 h m B L p d) (f : FZ (fun x _ => x = 633) h h2) (r : RM h2 632 n) : Z9 h2 n B L p d := by
  have e : ∀ x j, ¬ x = 633 → qI h2 x j = qI h x j := fun x j y => f.2 x j y
  exact ⟨⟨r, (e _ _ (by omega)).trans z.1.2.1, fun k h0 h1 => (e _ _ (by omega)).trans (z.1.2.2.1 k h0 h1), (e _ _ (by omega)).trans z.1.2.2.2.1, (e _ _ (by omega)).trans z.1.2.2.2.2⟩, (e _ _ (by omega)).trans z.2.1, (e _ _ (by omega)).trans z.2.2⟩
theorem FZ.s33 {h h2 : Hp} (f : FZ (fun x _ => x = 633) h h2) : FZ p9s h h2 := f.mo (fun x j z => Or.inr z)
/-- a word is put into the new cell -/
theorem w_put {h : Hp} {m B b : Int → Int} {L p r c sp n mk : Int} {k72 : Hp → Nat → Int32 → Int32 → Int32 → Option (Rs Unit)} {i7 i9 : Int32} (h5 : 0 ≤ m 5 ∧ m 5 < 16) (z : Z9 h (plN m (wB r c sp b)) B L p 1) (hb : 0 ≤ b 4 ∧ b 4 < 12) : ∃ h7, f_X9_writes_L158 k72 h 632 (iN (m 5)) i7 (iN n) i9 (iN mk) = f_X9_writes_L181 k72 h7 632 (iN (m 5)) i7 i9 ∧ FZ (fun x _ => x = 633) h h7 ∧ Z9 h7 (plN m (wB r c sp (pshB b n mk))) B L p 1 := by
  have lm := z.1.1.1
  have e4 : blk (plN m (wB r c sp b)) (m 5) 4 = b 4 := plN_new (by omega)
  obtain ⟨h7, e7, f7, r7⟩ := g_puts z.1.1 (i := m 5) (len := n) (br := mk) (by omega) (by rw [e4]; exact hb)
  rw [puN_pl (show 0 ≤ wB r c sp b 4 ∧ wB r c sp b 4 < 12 from hb), psh_wB hb.1] at r7
  refine ⟨h7, ?_, f7, z.pu f7 r7⟩
  unfold f_X9_writes_L158
  rw [if_neg (neN (by omega) (by omega) (by omega) (by omega) (by omega)), chk_pos lm.1, g_isOff0 lm z.1.2.2.2.2, bnd_ret, if_pos (show iN 0 = 0 from rfl), chk_pos lm.1, e7, bnd_ret]
theorem w_t1 {h : Hp} {m B b : Int → Int} {L p r c sp n : Int} {f : Nat} {i7 : Int32} (h5 : 0 ≤ m 5 ∧ m 5 < 16) (z : Z9 h (plN m (wB r c sp b)) B L p 1) (hb : 0 ≤ b 4 ∧ b 4 < 12) : ∃ h7, f_X9_writes_L111 (f_X9_writes_L72 (f + 1)) h 632 (iN (m 5)) i7 (iN n) = (bnd (f_X9_must h7 632 (iN 59)) fun h3 _ => some (h3, .inr ())) ∧ FZ (fun x _ => x = 633) h h7 ∧ Z9 h7 (plN m (wB r c sp (pshB b n 0))) B L p 1 := by
  obtain ⟨h7, e7, f7, z7⟩ := w_put (n := n) (mk := 0) (k72 := f_X9_writes_L72 (f + 1)) (i7 := i7) (i9 := iN 0) h5 z hb
  refine ⟨h7, ?_, f7, z7⟩
  unfold f_X9_writes_L111 f_X9_writes_L112
  rw [if_pos (show iN 0 = 0 from rfl)]
  unfold f_X9_writes_L135 f_X9_writes_L136
  rw [if_pos (show iN 0 = 0 from rfl), e7]
  unfold f_X9_writes_L181
  rw [if_pos (show iN 0 = 0 from rfl)]
  unfold f_X9_writes_L197 f_X9_writes_L198
  exact w_end z7.1.1.1
/-- words are read, the second time -/
theorem r_wd1 {B : Int → Int} {L r c sp : Int} {m : Int → Int} (tx : TXo B L) (h5 : 0 ≤ m 5 ∧ m 5 < 16) : ∀ (k : Nat) (h : Hp) (f : Nat) (p q2 : Int) (b b2 : Int → Int), k + 1 < f → k ≤ 11 → Z9 h (plN m (wB r c sp b)) B L p 1 → 0 ≤ p → p ≤ L → 0 ≤ b 4 → b 4 + k ≤ 11 → wdP B L k p b = .inr (q2, b2) → ∃ h2, f_X9_writes_L72 f h 632 (iN (m 5)) (iN 1) (iN (12 - (k : Int))) = some (h2, .inr ()) ∧ FZ p9s h h2 ∧ RM h2 632 (plN m (wB r c sp b2)) ∧ qI h2 632 12 = iN q2 ∧ qI h2 632 7 = iN (-1)
  | k, h, 0, p, q2, b, b2, hf, h11, z, p0, p1, b0, b1, ew => absurd hf (Nat.not_lt_zero _)
  | k, h, 1, p, q2, b, b2, hf, h11, z, p0, p1, b0, b1, ew => by omega
  | k, h, f + 2, p, q2, b, b2, hf, h11, z, p0, p1, b0, b1, ew => by
    have hL := tx.1
    have lm := z.1.1.1
    obtain ⟨l1, l2, l3⟩ := leP_ok (B := B) (L := L) (p := p) p1
    obtain ⟨h2, e2, f2, c2⟩ := g_wordLen tx z.1 ⟨p0, p1⟩
    have l2m := lm.ly f2.1
    rw [wdP_A] at ew
    show ∃ h2, f_X9_writes_B72 (f_X9_writes_L72 (f + 1)) h 632 (iN (m 5)) (iN 1) (iN (12 - (k : Int))) = some (h2, .inr ()) ∧ FZ p9s h h2 ∧ RM h2 632 (plN m (wB r c sp b2)) ∧ qI h2 632 12 = iN q2 ∧ qI h2 632 7 = iN (-1)
    unfold f_X9_writes_B72
    rw [if_neg (show ¬ iN 1 = 0 by decide), chk_pos lm.1, e2, bnd_ret, chk_pos l2m.1]
    by_cases y0 : leP B L p = p
    · have e : woP B L p = .inl p := if_pos (by omega)
      rw [e] at ew
      exact absurd ew (by intro h; cases h)
    · rw [if_neg y0] at c2
      by_cases y1 : 12 < leP B L p - p
      · have e : woP B L p = .inr (p + 12, 12) := by
          unfold woP
          rw [show min (leP B L p) (p + 12) = p + 12 by omega, if_neg (by omega), show p + 12 - p = 12 by omega]
        have il : isL (chT B L (p + 12)) := by
          rw [chT_in (by omega)]
          exact l2 _ (by omega) (by omega)
        rw [e] at ew
        have ew2 : wdA B L k (p + 12) 12 b = .inr (q2, b2) := ew
        rw [wdA_sk (mk_let il), skP_n (by omega)] at ew2
        exact absurd ew2 (by intro h; cases h)
      · rw [if_neg y1] at c2
        have e : woP B L p = .inr (leP B L p, leP B L p - p) := by
          unfold woP
          rw [show min (leP B L p) (p + 12) = leP B L p by omega, if_neg (by omega)]
        have z2 := z.st f2 c2.1 c2.2
        rw [e] at ew
        have ew2 : wdA B L k (leP B L p) (leP B L p - p) b = .inr (q2, b2) := ew
        rw [if_neg y1, g_isOff0 l2m c2.2, bnd_ret, if_pos (show iN 0 = 0 from rfl), chk_pos l2m.1, g_here tx z2.1.h ⟨(by omega), (by omega)⟩, bnd_ret]
        generalize leP B L p = q at *
        have cb := chT_bd tx (show 0 ≤ q by omega)
        have mb := mkF_bd (chT B L q)
        have tail : ¬ 0 ≤ mkF (chT B L q) → chT B L q = 59 ∧ (∃ h3, f_X9_writes_L111 (f_X9_writes_L72 (f + 1)) h2 632 (iN (m 5)) (iN (12 - (k : Int))) (iN (q - p)) = some (h3, .inr ()) ∧ FZ p9s h h3 ∧ RM h3 632 (plN m (wB r c sp b2)) ∧ qI h3 632 12 = iN q2 ∧ qI h3 632 7 = iN (-1)) := fun y => by
          rw [wdA_sk y] at ew2
          have y59 : chT B L q = 59 := by
            by_cases y6 : chT B L q = 59
            · exact y6
            · rw [skP_n y6] at ew2
              exact absurd ew2 (by intro h; cases h)
          have es : skP 59 B L q = .inr (q + 1, 0) := if_pos y59
          rw [es] at ew2
          have ew3 : (q + 1, pshB b (q - p) 0) = (q2, b2) := Sum.inr.inj ew2
          obtain ⟨h7, e7, f7, z7⟩ := w_t1 (n := q - p) (f := f) (i7 := iN (12 - (k : Int))) h5 z2 ⟨b0, (by omega)⟩
          have a := r_must tx z7.1 ⟨(by omega), (by omega)⟩ (c := 59) (by omega)
          rw [es] at a
          obtain ⟨h3, e3, f3, q12, q7⟩ := a
          rw [← (Prod.mk.inj ew3).1, ← (Prod.mk.inj ew3).2]
          exact ⟨y59, h3, by rw [e7, e3, bnd_ret], (f2.s9.tr f7.s33).tr f3.s9, (z7.st f3 q12 q7).1.1, q12, q7⟩
        by_cases y2 : chT B L q = 59
        · rw [if_pos (show iN (chT B L q) = iN 59 by rw [y2])]
          exact (tail (by omega)).2
        · have y4 : 0 ≤ mkF (chT B L q) := Classical.byContradiction fun y => y2 (tail y).1
          rw [if_neg (neN y2 (by omega) (by omega) (by omega) (by omega)), chk_pos l2m.1, g_here tx z2.1.h ⟨(by omega), (by omega)⟩, bnd_ret, if_neg (neN (by omega) (by omega) (by omega) (by omega) (by omega))]
          have lt : q < L := by omega
          unfold f_X9_writes_L112
          rw [if_neg (show ¬ iN 1 = 0 by decide)]
          clear tail ew mb
          match k, hf, h11, ew2, b1 with
          | 0, hf, h11, ew2, b1 =>
            have ew4 : (bdP (skP 59 B L q) fun q2 _ => (.inr (q2, pshB b (q - p) 0) : Int ⊕ (Int × (Int → Int)))) = .inr (q2, b2) := ew2
            rw [skP_n y2] at ew4
            exact absurd ew4 (by intro h; cases h)
          | k + 1, hf, h11, ew2, b1 =>
            rw [if_neg (nleN (by omega) (by omega) (by omega)), chk_pos l2m.1, g_let11 tx z2.1 ⟨(by omega), (by omega)⟩]
            have z3 : Z9 (putI h2 632 12 (iN (q + 1))) (plN m (wB r c sp b)) B L (q + 1) 1 := z2.st FZ.n12 rd_eq ((rd_nk (by decide)).trans c2.2)
            obtain ⟨h7, e7, f7, z7⟩ := w_put (n := q - p) (mk := mkF (chT B L q)) (k72 := f_X9_writes_L72 (f + 1)) (i7 := iN (12 - ((k + 1 : Nat) : Int))) (i9 := iN 1) h5 z3 ⟨b0, (by omega)⟩
            have l7m := z7.1.1.1
            have b4 : pshB b (q - p) (mkF (chT B L q)) 4 = b 4 + 1 := by
              rw [pshB_at, if_pos rfl]
            have ea : wdA B L (k + 1) q (q - p) b = wdP B L k (q + 1) (pshB b (q - p) (mkF (chT B L q))) := if_pos y4
            rw [ea] at ew2
            obtain ⟨h8, e8, f8, r8⟩ := r_wd1 (r := r) (c := c) (sp := sp) tx h5 k h7 (f + 1) (q + 1) q2 _ b2 (by omega) (by omega) z7 (by omega) (by omega) (by omega) (by omega) ew2
            rw [if_pos y4, bnd_ret]
            unfold f_X9_writes_L136
            rw [if_neg (show ¬ iN 1 = 0 by decide), if_neg (neN (by omega) (by omega) (by omega) (by omega) (by omega)), e7]
            unfold f_X9_writes_L181
            rw [if_neg (show ¬ iN 1 = 0 by decide), chk_pos l7m.1, g_isOff0 l7m z7.1.2.2.2.2, bnd_ret, if_pos (show iN 0 = 0 from rfl)]
            unfold f_X9_writes_L198
            rw [iN_add, show 12 - ((k + 1 : Nat) : Int) + 1 = 12 - (k : Int) by omega, e8]
            exact ⟨h8, rfl, ((f2.s9.tr (FZ.n12 (v := iN (q + 1))).s9).tr f7.s33).tr f8, r8⟩
