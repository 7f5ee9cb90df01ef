/-! ===== STAGE B: the class does commands: cells, pictures; the whole text ===== -/
theorem pshB_at {b : Int → Int} {n br k : Int} : pshB b n br k = if k = 4 then b 4 + 1 else if k = 19 + b 4 then br else if k = 7 + b 4 then n else b k := rfl
theorem pshB_wb {b : Int → Int} {n br : Int} (w : WB b) (h3 : b 3 ≤ 3) (h4 : b 4 < 12) (hl : 1 ≤ n ∧ n ≤ 12) (hb : 0 ≤ br ∧ br ≤ 3) : WB (pshB b n br) ∧ pshB b n br 3 = b 3 ∧ pshB b n br 4 = b 4 + 1 := by
  have h40 := w.2.1
  have bx : ∀ k, k ≠ 4 → k ≠ 19 + b 4 → k ≠ 7 + b 4 → pshB b n br k = b k := fun k k1 k2 k3 => by rw [pshB_at, if_neg k1, if_neg k2, if_neg k3]
  have b4 : pshB b n br 4 = b 4 + 1 := by rw [pshB_at, if_pos rfl]
  have b3 := bx 3 (by omega) (by omega) (by omega)
  have b5 := bx 5 (by omega) (by omega) (by omega)
  have b6 := bx 6 (by omega) (by omega) (by omega)
  refine ⟨⟨by rw [b3]; exact w.1, by rw [b4]; omega, by rw [b5]; exact w.2.2.1, by rw [b6]; exact w.2.2.2.1, fun k h1 h2 => ?_, fun z => by rw [b3] at z; omega, fun z => by rw [b5, b6]; exact w.2.2.2.2.2.2 h3⟩, b3, b4⟩
  rw [b4] at h2
  by_cases e : k = b 4
  · rw [pshB_at, if_neg (by omega), if_neg (by omega), if_pos (by omega), pshB_at, if_neg (by omega), if_pos (by omega)]
    exact ⟨hl, hb⟩
  · rw [bx (7 + k) (by omega) (by omega) (by omega), bx (19 + k) (by omega) (by omega) (by omega)]
    exact w.2.2.2.2.1 k h1 (by omega)
/-- a word into the class's content -/
theorem g_pshC {h : Hp} {q : Nat} {b : Int → Int} {n br : Int} (l : LC h q) (c : HC h q b) (w : WB b) (h3 : b 3 ≤ 3) (h4 : b 4 < 12) (hl : 1 ≤ n ∧ n ≤ 12) (hb : 0 ≤ br ∧ br ≤ 3) : ∃ h2, f_X4_push h q (iN n) (iN br) = some (h2, .inr ()) ∧ FZ (pK q) h h2 ∧ HC h2 q (pshB b n br) := by
  have h40 := w.2.1
  have bx : ∀ k, k ≠ 4 → k ≠ 19 + b 4 → k ≠ 7 + b 4 → pshB b n br k = b k := fun k k1 k2 k3 => by rw [pshB_at, if_neg k1, if_neg k2, if_neg k3]
  have wp := pshB_wb w h3 h4 hl hb
  obtain ⟨h2, e2, f2, c2⟩ := g_push l c.d wp.1 (by omega) wp.2.1 wp.2.2 (bx 5 (by omega) (by omega) (by omega)) (bx 6 (by omega) (by omega) (by omega)) (fun k h1 h2 => ⟨bx (7 + k) (by omega) (by omega) (by omega), bx (19 + k) (by omega) (by omega) (by omega)⟩)
  rw [show pshB b n br (7 + b 4) = n by rw [pshB_at, if_neg (by omega), if_neg (by omega), if_pos rfl], show pshB b n br (19 + b 4) = br by rw [pshB_at, if_neg (by omega), if_pos rfl]] at e2
  exact ⟨h2, e2, f2, c2⟩
/-- behind a word -/
def wdA (B : Int → Int) (L : Int) (k : Nat) (q n : Int) (b : Int → Int) : Int ⊕ (Int × (Int → Int)) := match k with
  | 0 => bdP (skP 59 B L q) fun q2 _ => .inr (q2, pshB b n 0)
  | k + 1 => if 0 ≤ mkF (chT B L q) then wdP B L k (q + 1) (pshB b n (mkF (chT B L q))) else bdP (skP 59 B L q) fun q2 _ => .inr (q2, pshB b n 0)
theorem wdP_A {B : Int → Int} {L : Int} {k : Nat} {p : Int} {b : Int → Int} : wdP B L k p b = bdP (woP B L p) fun q n => wdA B L k q n b := by
  match k with
  | 0 => rfl
  | k + 1 => rfl
theorem efP_bd {c sp : Int} {r : PR} {k : Int → Int → Int ⊕ (Int × (Int → Int))} : efP c sp (bdP r k) = bdP r fun q v => efP c sp (k q v) := by
  match r with
  | .inl e => rfl
  | .inr (q, v) => rfl
theorem G5.k {h h2 : Hp} {B : Int → Int} {L p b : Int} {m : Int → Int} (w : WF m) (g : G5 h B L p m b) (f : FZ (pK 568) h h2) : G5 h2 B L p m b := ⟨⟨g.1.1.ly f.1, by rw [f.1.2.2.2.1]; exact g.1.2.1, (f.2 _ _ (fun z => by unfold pK at z; omega)).trans g.1.2.2.1, (f.2 _ _ (fun z => by unfold pK at z; omega)).trans g.1.2.2.2.1, g.1.2.2.2.2.fz f (fun j z => by unfold pK at z; omega)⟩, g.2.1.fz w.1.2.2.2.2.2 f (fun x j x1 x2 z => by unfold pK at z; omega), (f.2 _ _ (fun z => by unfold pK at z; omega)).trans g.2.2⟩
theorem FZ.k5 {h h2 : Hp} (f : FZ (pK 568) h h2) : FZ pT5 h h2 := f.mo (fun x j z => by unfold pK at z; unfold pT5; omega)
theorem HC.q5 {h h2 : Hp} {bl : Int → Int} (c : HC h 568 bl) (f : FZ p5 h h2) : HC h2 568 bl := c.fz f (fun x j x1 x2 _ z => by unfold p5 at z; omega)
theorem e_L98 {h : Hp} {B : Int → Int} {L q b p0 c sp n : Int} {m bl : Int → Int} (tx : TXo B L) (w : WF m) (g : G5 h B L q m b) (hq : 0 ≤ q ∧ q ≤ L) (hb : -1 ≤ b ∧ b ≤ 100) (hc : 0 ≤ c ∧ c < 4) (hs : 1 ≤ sp ∧ c + sp ≤ m 0) (hn : 1 ≤ n ∧ n ≤ 12) (wb : WB bl) (h3 : bl 3 ≤ 3) (h4 : bl 4 < 12) (ch : HC h 568 bl) : E5 h m b p0 (efP c sp (bdP (skP 59 B L q) fun q2 _ => .inr (q2, pshB bl n 0))) (f_X5_readCellCommand_L98 h 566 (iN p0) (iN c) (iN sp) (iN n)) := by
  have s := g.1.1
  obtain ⟨h2, e2, f2, c2⟩ := g_pshC (n := n) (br := 0) s.l68 ch wb h3 h4 hn (by omega)
  have wp := pshB_wb (n := n) (br := 0) wb h3 h4 hn (by omega)
  have g2 := g.k w f2
  unfold f_X5_readCellCommand_L98
  rw [chk_pos s.o8, s.r87, chk_pos s.l68.1, e2, bnd_ret, chk_pos g2.1.1.o8, efP_bd]
  refine E5.pre f2.k5 (E5.bd (c_skip tx g2.1 hq (c := 59) (by omega)) (fun h4 q4 v4 er4 f4 e4 => ?_))
  have g4 := g2.st w f4 e4
  rw [chk_pos g4.1.1.o8]
  exact (e_put w g4 hb hc hs wp.1 (c2.q5 f4)).end
theorem e_L37 {B : Int → Int} {L b p0 c sp : Int} {m : Int → Int} (tx : TXo B L) (w : WF m) (hb : -1 ≤ b ∧ b ≤ 100) (hc : 0 ≤ c ∧ c < 4) (hs : 1 ≤ sp ∧ c + sp ≤ m 0) : ∀ (k : Nat) (h : Hp) (f : Nat) (q n : Int) (bl : Int → Int), k < f → k ≤ 11 → G5 h B L q m b → 0 ≤ q → q ≤ L → 1 ≤ n → n ≤ 12 → WB bl → bl 3 ≤ 3 → bl 4 + k ≤ 11 → HC h 568 bl →
    E5 h m b p0 (efP c sp (wdA B L k q n bl)) (f_X5_readCellCommand_L37 f h 566 (iN p0) (iN c) (iN sp) (iN n) (iN (12 - (k : Int)))) := by
  have hL := tx.1
  intro k
  induction k with
  | zero =>
    intro h f q n bl hf hk g q1 q2 n1 n2 wb h3 h4 ch
    obtain ⟨f, rfl⟩ : ∃ z, f = z + 1 := ⟨f - 1, by omega⟩
    show E5 h m b p0 _ (f_X5_readCellCommand_B37 (f_X5_readCellCommand_L37 f) h 566 (iN p0) (iN c) (iN sp) (iN n) (iN (12 - ((0 : Nat) : Int))))
    unfold f_X5_readCellCommand_B37
    rw [if_pos (yleN (by omega) (by omega) (by omega))]
    exact e_L98 tx w g ⟨q1, q2⟩ hb hc hs ⟨n1, n2⟩ wb h3 (by omega) ch
  | succ k ih =>
    intro h f q n bl hf hk g q1 q2 n1 n2 wb h3 h4 ch
    obtain ⟨f, rfl⟩ : ∃ z, f = z + 1 := ⟨f - 1, by omega⟩
    have s := g.1.1
    have mb := mkF_bd (chT B L q)
    have cb := chT_bd tx q1
    show E5 h m b p0 (efP c sp (if 0 ≤ mkF (chT B L q) then wdP B L k (q + 1) (pshB bl n (mkF (chT B L q))) else bdP (skP 59 B L q) fun q2 _ => .inr (q2, pshB bl n 0))) (f_X5_readCellCommand_B37 (f_X5_readCellCommand_L37 f) h 566 (iN p0) (iN c) (iN sp) (iN n) (iN (12 - ((k + 1 : Nat) : Int))))
    unfold f_X5_readCellCommand_B37
    rw [if_neg (show ¬ iN 12 ≤ iN (12 - ((k + 1 : Nat) : Int)) from nleN (by omega) (by omega) (by omega)), chk_pos s.o8, g.1.2.2.2.1, g_isMk tx g.1 ⟨q1, q2⟩, bnd_ret]
    by_cases z : 0 ≤ mkF (chT B L q)
    · have ql : q < L := by
        by_cases y : q < L
        · exact y
        · have := cb.2.2.mpr (by omega)
          have := mb.2.2 z
          omega
      have bq := tx.2 q q1 ql
      rw [if_pos z, if_neg (fun y => bN0.mp y z), chk_pos s.o8, s.r87, chk_pos s.l68.1, s.r80, chk_pos s.o67, g.1.2.2.2.1, s.w67, ck_in (by omega) (by omega) (by omega), iN_cl (by omega) (by omega), g.1.2.2.2.2 q q1 ql, g_breakFor (by omega), bnd_ret, chk_pos s.l68.1]
      rw [chT_in ql] at z mb ⊢
      obtain ⟨h2, e2, f2, c2⟩ := g_pshC (n := n) (br := mkF (B q)) s.l68 ch wb h3 (by omega) ⟨n1, n2⟩ (by omega)
      have wp := pshB_wb (n := n) (br := mkF (B q)) wb h3 (by omega) ⟨n1, n2⟩ (by omega)
      have g2 := g.k w f2
      have g3 : G5 (putI h2 566 3 (iN (q + 1))) B L (q + 1) m b := g2.st w FZ.p3 rd_eq
      rw [e2, bnd_ret, chk_pos g2.1.1.o8, g2.1.2.2.2.1, iN_add, lt_is, wdP_A, efP_bd]
      refine E5.pre (f2.k5.tr (FZ.p3 (h := h2) (v := iN (q + 1))).t5) (E5.bd (c_word tx g3.1 ⟨(by omega), (by omega)⟩) (fun h4 q4 n4 er4 f4 e4 => ?_))
      have b4 := woP_bd (show q + 1 ≤ L by omega) er4
      have g4 := g3.st w f4 e4
      rw [iN_add, show 12 - ((k + 1 : Nat) : Int) + 1 = 12 - (k : Int) by omega]
      exact ih h4 f q4 n4 _ (by omega) (by omega) g4 (by omega) (by omega) (by omega) (by omega) wp.1 (by rw [wp.2.1]; exact h3) (by rw [wp.2.2]; omega) ((c2.q5 FZ.p3).q5 f4)
    · rw [if_neg z, if_pos (bN0.mpr z)]
      exact e_L98 tx w g ⟨q1, q2⟩ hb hc hs ⟨n1, n2⟩ wb h3 (by omega) ch
theorem e_cell {h : Hp} {B : Int → Int} {L p b p0 : Int} {m : Int → Int} (tx : TXo B L) (w : WF m) (g : G5 h B L p m b) (hp : 0 ≤ p ∧ p ≤ L) (hb : -1 ≤ b ∧ b ≤ 100) : E5 h m b p0 (cePt (m 0) B L p) (f_X5_readCellCommand h 566 (iN p0)) := by
  have h0 := w.1.1
  unfold f_X5_readCellCommand cePt
  rw [chk_pos g.1.1.o8]
  refine E5.bd (c_column tx g.1 hp h0 g.2.1.cs) (fun h2 q2 c er2 f2 e2 => ?_)
  have b2 := coP_bd er2
  have g2 := g.st w f2 e2
  rw [chk_pos g2.1.1.o8]
  refine E5.bd (c_span tx g2.1 ⟨(by omega), (by omega)⟩ h0 ⟨(by omega), (by omega)⟩ g2.2.1.cs) (fun h5 q5 sp er5 f5 e5 => ?_)
  have b5 := spP_bd er5
  have g5 := g2.st w f5 e5
  rw [chk_pos g5.1.1.o8, g5.1.1.r87, chk_pos g5.1.1.l68.1]
  refine E5.bd (c_kind tx g5.1 ⟨(by omega), (by omega)⟩) (fun h9 q9 kd er9 f9 e9 => ?_)
  have b9 := kdP_bd er9
  have g9 := g5.st w f9 e9
  have wk : WB (nwB 0 0 0 kd) := nwB_wb (by omega)
  obtain ⟨h10, e10, f10, c10⟩ := g_begin (b := nwB 0 0 0 kd) g9.1.1.l68 wk rfl rfl rfl
  have e10' : f_X4_begin h9 568 (iN kd) = some (h10, .inr ()) := e10
  have g10 := g9.k w f10
  rw [chk_pos g9.1.1.l68.1, e10', bnd_ret, chk_pos g10.1.1.o8]
  refine E5.pre f10.k5 (E5.bd (c_skip tx g10.1 ⟨(by omega), (by omega)⟩ (c := 61) (by omega)) (fun h12 q12 v12 er12 f12 e12 => ?_))
  have b12 := skP_bd (by decide) er12
  have g12 := g10.st w f12 e12
  rw [chk_pos g12.1.1.o8, wdP_A, efP_bd]
  refine E5.bd (c_word tx g12.1 ⟨(by omega), (by omega)⟩) (fun h14 q14 n14 er14 f14 e14 => ?_)
  have b14 := woP_bd (show q12 ≤ L by omega) er14
  have g14 := g12.st w f14 e14
  exact e_L37 tx w hb ⟨(by omega), (by omega)⟩ ⟨(by omega), (by omega)⟩ 11 h14 2000 q14 n14 _ (by omega) (by omega) g14 (by omega) (by omega) (by omega) (by omega) wk b9.2.2.2 (by show (0 : Int) + ((11 : Nat) : Int) ≤ 11; omega) ((c10.q5 f12).q5 f14)
theorem e_pic {h : Hp} {B : Int → Int} {L p b p0 : Int} {m : Int → Int} (tx : TXo B L) (w : WF m) (g : G5 h B L p m b) (hp : 0 ≤ p ∧ p ≤ L) (hb : -1 ≤ b ∧ b ≤ 100) : E5 h m b p0 (piPt (m 0) B L p) (f_X5_readPictureCommand h 566 (iN p0)) := by
  have h0 := w.1.1
  unfold f_X5_readPictureCommand piPt
  rw [chk_pos g.1.1.o8]
  refine E5.bd (c_column tx g.1 hp h0 g.2.1.cs) (fun h2 q2 c er2 f2 e2 => ?_)
  have b2 := coP_bd er2
  have g2 := g.st w f2 e2
  rw [chk_pos g2.1.1.o8]
  refine E5.bd (c_span tx g2.1 ⟨(by omega), (by omega)⟩ h0 ⟨(by omega), (by omega)⟩ g2.2.1.cs) (fun h5 q5 sp er5 f5 e5 => ?_)
  have b5 := spP_bd er5
  have g5 := g2.st w f5 e5
  rw [chk_pos g5.1.1.o8]
  refine E5.bd (c_skip tx g5.1 ⟨(by omega), (by omega)⟩ (c := 61) (by omega)) (fun h6 q6 v6 er6 f6 e6 => ?_)
  have b6 := skP_bd (by decide) er6
  have g6 := g5.st w f6 e6
  rw [chk_pos g6.1.1.o8]
  refine E5.bd (c_number tx g6.1 ⟨(by omega), (by omega)⟩ ⟨(by omega), (by omega)⟩ ⟨(by omega), (by omega)⟩) (fun h7 q7 wd er7 f7 e7 => ?_)
  have b7 := nuP_bd er7
  have g7 := g6.st w f7 e7
  rw [chk_pos g7.1.1.o8]
  refine E5.bd (c_skip tx g7.1 ⟨(by omega), (by omega)⟩ (c := 120) (by omega)) (fun h8 q8 v8 er8 f8 e8 => ?_)
  have b8 := skP_bd (by decide) er8
  have g8 := g7.st w f8 e8
  rw [chk_pos g8.1.1.o8]
  refine E5.bd (c_number tx g8.1 ⟨(by omega), (by omega)⟩ ⟨(by omega), (by omega)⟩ ⟨(by omega), (by omega)⟩) (fun h9 q9 ht er9 f9 e9 => ?_)
  have b9 := nuP_bd er9
  have g9 := g8.st w f9 e9
  rw [chk_pos g9.1.1.o8]
  refine E5.bd (c_skip tx g9.1 ⟨(by omega), (by omega)⟩ (c := 59) (by omega)) (fun h10 q10 v10 er10 f10 e10 => ?_)
  have b10 := skP_bd (by decide) er10
  have g10 := g9.st w f10 e10
  have wk : WB (nwB 0 0 0 4) := nwB_wb (by omega)
  obtain ⟨h11, e11, f11, c11⟩ := g_begin (b := nwB 0 0 0 4) g10.1.1.l68 wk rfl rfl rfl
  have e11' : f_X4_begin h10 568 (iN 4) = some (h11, .inr ()) := e11
  have g11 := g10.k w f11
  have wk2 : WB (up (up (nwB 0 0 0 4) 5 wd) 6 ht) := ⟨by show (0 : Int) ≤ 4 ∧ (4 : Int) ≤ 5; omega, by show (0 : Int) ≤ 0 ∧ (0 : Int) ≤ 12; omega, b7.2, b9.2, fun k h1 h2 => by have h3 : k < 0 := h2; omega, fun _ => rfl, fun z => by have h3 : (4 : Int) ≤ 3 := z; omega⟩
  obtain ⟨h12, e12, f12, c12⟩ := g_resize (b := nwB 0 0 0 4) (b2 := up (up (nwB 0 0 0 4) 5 wd) 6 ht) g11.1.1.l68 c11.d wk2 rfl rfl rfl
  have e12' : f_X4_resize h11 568 (iN wd) (iN ht) = some (h12, .inr ()) := e12
  have g12 := g11.k w f12
  rw [chk_pos g10.1.1.o8, g10.1.1.r87, chk_pos g10.1.1.l68.1, e11', bnd_ret, chk_pos g11.1.1.o8, g11.1.1.r87, chk_pos g11.1.1.l68.1, e12', bnd_ret, chk_pos g12.1.1.o8]
  exact ((e_put w g12 hb ⟨(by omega), (by omega)⟩ ⟨(by omega), (by omega)⟩ wk2 c12).end).pre (f11.k5.tr f12.k5)
theorem e_command {h : Hp} {B : Int → Int} {L p b : Int} {m : Int → Int} (tx : TXo B L) (w : WF m) (g : G5 h B L p m b) (hp : 0 ≤ p ∧ p ≤ L) (hb : -1 ≤ b ∧ b ≤ 100) : E5 h m b p (cmP (m 0) B L p) (f_X5_readCommand h 566) := by
  have lb := (leP_ok (B := B) (L := L) (p := p) (by omega)).1
  have g6 : G5 (putI h 566 3 (iN (leP B L p))) B L (leP B L p) m b := g.st w FZ.p3 rd_eq
  have sp : ∀ j, j < 12 → f_X5_spells (putI h 566 3 (iN (leP B L p))) 566 (iN p) (iN (leP B L p)) (1000000 + j) = some (putI h 566 3 (iN (leP B L p)), .inr (bN (spW B p (leP B L p) (stZ j) = true))) := fun j hj => g_spells tx g6.1 hj ⟨(by omega), (by omega), (by omega)⟩
  unfold f_X5_readCommand cmP
  rw [chk_pos g.1.1.o8, g_eol tx g.1 hp, bnd_ret, chk_pos g.1.1.o8, lt_is, g.1.2.2.2.1, sp 3 (by omega), bnd_ret]
  refine E5.pre (FZ.p3 (h := h) (v := iN (leP B L p))).t5 ?_
  by_cases z3 : spW B p (leP B L p) (stZ 3) = true
  · rw [if_pos z3, if_neg (fun y => bN0.mp y z3), chk_pos g6.1.1.o8, g6.1.2.1, chk_pos g6.2.1.1.o, ← g6.1.2.1]
    exact e_measure tx w g6 ⟨(by omega), (by omega)⟩ ⟨(by omega), (by omega)⟩ ⟨(by omega), (by omega)⟩ (j := 0) (by omega)
  rw [if_neg z3, if_pos (bN0.mpr z3), chk_pos g6.1.1.o8, sp 4 (by omega), bnd_ret]
  by_cases z4 : spW B p (leP B L p) (stZ 4) = true
  · rw [if_pos z4, if_neg (fun y => bN0.mp y z4), chk_pos g6.1.1.o8, g6.1.2.1, chk_pos g6.2.1.1.o, ← g6.1.2.1]
    exact e_measure tx w g6 ⟨(by omega), (by omega)⟩ ⟨(by omega), (by omega)⟩ ⟨(by omega), (by omega)⟩ (j := 1) (by omega)
  rw [if_neg z4, if_pos (bN0.mpr z4), chk_pos g6.1.1.o8, sp 5 (by omega), bnd_ret]
  by_cases z5 : spW B p (leP B L p) (stZ 5) = true
  · rw [if_pos z5, if_neg (fun y => bN0.mp y z5), chk_pos g6.1.1.o8, g6.1.2.1, chk_pos g6.2.1.1.o, ← g6.1.2.1]
    exact e_measure tx w g6 ⟨(by omega), (by omega)⟩ ⟨(by omega), (by omega)⟩ ⟨(by omega), (by omega)⟩ (j := 2) (by omega)
  rw [if_neg z5, if_pos (bN0.mpr z5), chk_pos g6.1.1.o8, sp 6 (by omega), bnd_ret]
  by_cases z6 : spW B p (leP B L p) (stZ 6) = true
  · rw [if_pos z6, if_neg (fun y => bN0.mp y z6), chk_pos g6.1.1.o8]
    exact (e_column tx w g6 ⟨(by omega), (by omega)⟩).end
  rw [if_neg z6, if_pos (bN0.mpr z6), chk_pos g6.1.1.o8, sp 7 (by omega), bnd_ret]
  by_cases z7 : spW B p (leP B L p) (stZ 7) = true
  · rw [if_pos z7, if_neg (fun y => bN0.mp y z7), chk_pos g6.1.1.o8]
    exact (e_row tx w g6 ⟨(by omega), (by omega)⟩ hb).end
  rw [if_neg z7, if_pos (bN0.mpr z7), chk_pos g6.1.1.o8, sp 8 (by omega), bnd_ret]
  by_cases z8 : spW B p (leP B L p) (stZ 8) = true
  · rw [if_pos z8, if_neg (fun y => bN0.mp y z8), chk_pos g6.1.1.o8]
    exact (e_cell tx w g6 ⟨(by omega), (by omega)⟩ hb).end
  rw [if_neg z8, if_pos (bN0.mpr z8), chk_pos g6.1.1.o8, sp 9 (by omega), bnd_ret]
  by_cases z9 : spW B p (leP B L p) (stZ 9) = true
  · rw [if_pos z9, if_neg (fun y => bN0.mp y z9), chk_pos g6.1.1.o8]
    exact (e_pic tx w g6 ⟨(by omega), (by omega)⟩ hb).end
  rw [if_neg z9, if_pos (bN0.mpr z9), chk_pos g6.1.1.o8, g_demF g6.1.1, bnd_thr]
  exact ⟨_, rfl, FZ.p4.t5, rd_eq⟩
