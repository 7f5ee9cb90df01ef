/-! ===== STAGE B: the class does commands ===== -/
def pT5 (x j : Nat) : Prop := (210 ≤ x ∧ x ≤ 357) ∨ (x = 566 ∧ (j = 3 ∨ j = 4 ∨ j = 5)) ∨ (568 ≤ x ∧ x ≤ 575)
def stM (e : Eff) (m : Int → Int) : Int → Int := match e m with
  | some n => n
  | none => m
def stb (e : Eff) (m : Int → Int) (b p0 : Int) : Int := match e m with
  | some _ => b
  | none => if b < 0 then p0 else b
theorem stM_s {e : Eff} {m n : Int → Int} (h : e m = some n) : stM e m = n := by
  unfold stM
  rw [h]
theorem stM_n {e : Eff} {m : Int → Int} (h : e m = none) : stM e m = m := by
  unfold stM
  rw [h]
theorem stb_s {e : Eff} {m n : Int → Int} {b p0 : Int} (h : e m = some n) : stb e m b p0 = b := by
  unfold stb
  rw [h]
theorem stb_n {e : Eff} {m : Int → Int} {b p0 : Int} (h : e m = none) : stb e m b p0 = if b < 0 then p0 else b := by
  unfold stb
  rw [h]
def E5 (h : Hp) (m : Int → Int) (b p0 : Int) (r : CR1) (x : Option (Rs Unit)) : Prop := match r with
  | .inl e => ∃ h2, x = some (bump h2, .inl 1) ∧ FZ pT5 h h2 ∧ qI h2 566 4 = iN e
  | .inr (q, ef) => ∃ h2, x = some (h2, .inr ()) ∧ FZ pT5 h h2 ∧ qI h2 566 3 = iN q ∧ TM h2 210 (stM ef m) ∧ qI h2 566 5 = iN (stb ef m b p0)
theorem FZ.t5 {h h2 : Hp} (f : FZ p5 h h2) : FZ pT5 h h2 := f.mo (fun x j z => by unfold p5 at z; unfold pT5; omega)
theorem E5.pre {h h1 : Hp} {m : Int → Int} {b p0 : Int} {r : CR1} {x : Option (Rs Unit)} (f : FZ pT5 h h1) (a : E5 h1 m b p0 r x) : E5 h m b p0 r x := by
  match r, a with
  | .inl e, a =>
    obtain ⟨h3, e3, f3, q3⟩ := a
    exact ⟨h3, e3, f.tr f3, q3⟩
  | .inr (q, ef), a =>
    obtain ⟨h3, e3, f3, q3⟩ := a
    exact ⟨h3, e3, f.tr f3, q3⟩
theorem E5.bd {α : Type} {h : Hp} {m : Int → Int} {b p0 : Int} {r : PR} {V : Int → α} {x : Option (Rs α)} {k : Int → Int → CR1} {kx : Hp → α → Option (Rs Unit)} (a : C5 h r V x) (c : ∀ h2 q v, r = .inr (q, v) → FZ p5 h h2 → qI h2 566 3 = iN q → E5 h2 m b p0 (k q v) (kx h2 (V v))) : E5 h m b p0 (bdP r k) (bnd x kx) := by
  match r, a with
  | .inl e, a =>
    obtain ⟨h2, e2, f2, q2⟩ := a
    exact ⟨h2, by rw [e2, bnd_thr], f2.t5, q2⟩
  | .inr (q, v), a =>
    obtain ⟨h2, e2, f2, q2⟩ := a
    rw [e2, bnd_ret]
    exact (c h2 q v rfl f2 q2).pre f2.t5
theorem E5.end {h : Hp} {m : Int → Int} {b p0 : Int} {r : CR1} {x : Option (Rs Unit)} (a : E5 h m b p0 r x) : E5 h m b p0 r (bnd x fun h2 _ => some (h2, .inr ())) := by
  match r, a with
  | .inl e, a =>
    obtain ⟨h3, e3, f3, q3⟩ := a
    exact ⟨h3, by rw [e3, bnd_thr], f3, q3⟩
  | .inr (q, ef), a =>
    obtain ⟨h3, e3, f3, q3⟩ := a
    exact ⟨h3, by rw [e3, bnd_ret], f3, q3⟩
theorem bdP_as {α : Type} {r : PR} {k : Int → Int → PR} {k2 : Int → Int → Int ⊕ α} : bdP (bdP r k) k2 = bdP r (fun q v => bdP (k q v) k2) := by
  match r with
  | .inl e => rfl
  | .inr (q, v) => rfl
/-- what a command stands on -/
def G5 (h : Hp) (B : Int → Int) (L p : Int) (m : Int → Int) (b : Int) : Prop := T5 h B L p ∧ TM h 210 m ∧ qI h 566 5 = iN b
theorem G5.st {h h2 : Hp} {B : Int → Int} {L p q b : Int} {m : Int → Int} (w : WF m) (g : G5 h B L p m b) (f : FZ p5 h h2) (e : qI h2 566 3 = iN q) : G5 h2 B L q m b := ⟨g.1.st f e, g.2.1.fz w.1.2.2.2.2.2 f (fun x j x1 x2 z => by unfold p5 at z; omega), (f.2 _ _ (fun z => by unfold p5 at z; omega)).trans g.2.2⟩
def me0 (lo hi : Int) (B : Int → Int) (L p : Int) : PR := bdP (skP 61 B L p) fun p1 _ => bdP (nuP lo hi B L p1) fun p2 v => bdP (skP 59 B L p2) fun p3 _ => .inr (p3, v)
theorem c_measure {h : Hp} {B : Int → Int} {L p lo hi : Int} (tx : TXo B L) (t : T5 h B L p) (hp : 0 ≤ p ∧ p ≤ L) (h1 : InR lo) (hh : InR hi) : C5 h (me0 lo hi B L p) iN (f_X5_readMeasure h 566 (iN lo) (iN hi)) := by
  unfold f_X5_readMeasure me0
  rw [chk_pos t.1.o8]
  refine C5.bd (c_skip tx t hp (c := 61) (by omega)) (fun h2 q v er f e3 => ?_)
  have b := skP_bd (by decide) er
  have t2 := t.st f e3
  rw [chk_pos t2.1.o8]
  refine C5.bd (c_number tx t2 ⟨(by omega), (by omega)⟩ h1 hh) (fun h4 q4 v4 er4 f4 e4 => ?_)
  have b4 := nuP_bd er4
  have t4 := t2.st f4 e4
  rw [chk_pos t4.1.o8]
  refine C5.bd (c_skip tx t4 ⟨(by omega), (by omega)⟩ (c := 59) (by omega)) (fun h6 q6 v6 er6 f6 e6 => ?_)
  exact ⟨h6, rfl, FZ.rf, e6⟩
theorem meP_as {lo hi w : Int} {B : Int → Int} {L p : Int} : meP lo hi w B L p = bdP (me0 lo hi B L p) fun p3 v => .inr (p3, fun m => some (up m w v)) := by
  unfold meP me0
  rw [bdP_as]
  congr 1
  funext p1 x1
  rw [bdP_as]
  congr 1
  funext p2 x2
  rw [bdP_as]
  rfl
theorem me0_bd {lo hi : Int} {B : Int → Int} {L p q v : Int} (h : me0 lo hi B L p = .inr (q, v)) : (p < q ∧ q ≤ L) ∧ lo ≤ v ∧ v ≤ hi := by
  obtain ⟨q1, v1, h1, h2⟩ := bdP_inr h
  obtain ⟨q2, v2, h3, h4⟩ := bdP_inr h2
  obtain ⟨q3, v3, h5, h6⟩ := bdP_inr h4
  have b1 := skP_bd (by decide) h1
  have b2 := nuP_bd h3
  have b3 := skP_bd (by decide) h5
  have h7 := Sum.inr.inj h6
  have e1 : q3 = q := congrArg Prod.fst h7
  have e2 : v2 = v := congrArg Prod.snd h7
  omega
theorem e_measure {h : Hp} {B : Int → Int} {L p b p0 lo hi wk : Int} {m : Int → Int} {j : Nat} (tx : TXo B L) (w : WF m) (g : G5 h B L p m b) (hp : 0 ≤ p ∧ p ≤ L) (h1 : InR lo) (hh : InR hi) (hj : (j = 0 ∧ wk = 1) ∨ (j = 1 ∧ wk = 2) ∨ (j = 2 ∧ wk = 3)) : E5 h m b p0 (meP lo hi wk B L p) (bnd (f_X5_readMeasure h 566 (iN lo) (iN hi)) fun h62 r63 => chk (okr h62 (qR h 566 6) 7) <| lt (putI h62 (qR h 566 6) j r63) fun h65 => some (h65, .inr ())) := by
  rw [meP_as]
  refine E5.bd (c_measure tx g.1 hp h1 hh) (fun h2 q v er f e3 => ?_)
  have g2 := g.st w f e3
  rw [g.1.2.1, chk_pos g2.2.1.1.o, lt_is]
  have fj : FZ pT5 h2 (putI h2 210 j (iN v)) := FZ.pI (Or.inl (by omega))
  exact ⟨_, rfl, fj, (rd_ne (by decide)).trans e3, TM_up g2.2.1 w (by omega), (rd_ne (by decide)).trans g2.2.2⟩
theorem e_seq {h : Hp} {B : Int → Int} {L p b p0 c ty v sv : Int} {m : Int → Int} (tx : TXo B L) (w : WF m) (g : G5 h B L p m b) (hp : 0 ≤ p ∧ p ≤ L) (hc : 0 ≤ c ∧ c < 4) (ht : 0 ≤ ty ∧ ty ≤ 2) (e1 : tyS sv = ty) (e2 : vaS sv = if ty = 0 then 0 else v) : E5 h m b p0 (seP c sv B L p) (f_X5_readColumnCommand_L97 h 566 (iN c) (iN ty) (iN v)) := by
  unfold f_X5_readColumnCommand_L97 seP
  rw [chk_pos g.1.1.o8]
  refine E5.bd (c_skip tx g.1 hp (c := 59) (by omega)) (fun h2 q x er f e3 => ?_)
  have g2 := g.st w f e3
  rw [chk_pos g2.1.1.o8, g2.1.2.1, chk_pos g2.2.1.1.o, g_specify g2.2.1.1 hc ht, bnd_ret]
  have t2 := TM_sp g2.2.1 w hc e1 e2
  exact ⟨_, rfl, (FZ.pI (Or.inl (by omega))).tr (FZ.pI (Or.inl (by omega))), by rw [rd_ne (by omega), rd_ne (by omega)]; exact e3, t2, by rw [rd_ne (by omega), rd_ne (by omega)]; exact g2.2.2⟩
theorem sp_1 {v : Int} (h : 1 ≤ v ∧ v ≤ 36) : tyS (100 + v) = 1 ∧ vaS (100 + v) = v := by
  unfold tyS vaS
  rw [if_neg (by omega), if_pos (by omega), if_neg (by omega), if_pos (by omega)]
  omega
theorem sp_2 {v : Int} (h : 1 ≤ v ∧ v ≤ 99) : tyS (200 + v) = 2 ∧ vaS (200 + v) = v := by
  unfold tyS vaS
  rw [if_neg (by omega), if_neg (by omega), if_neg (by omega), if_neg (by omega)]
  omega
theorem e_column {h : Hp} {B : Int → Int} {L p b p0 : Int} {m : Int → Int} (tx : TXo B L) (w : WF m) (g : G5 h B L p m b) (hp : 0 ≤ p ∧ p ≤ L) : E5 h m b p0 (clP (m 0) B L p) (f_X5_readColumnCommand h 566) := by
  have h0 := w.1.1
  unfold f_X5_readColumnCommand clP
  rw [chk_pos g.1.1.o8]
  refine E5.bd (c_column tx g.1 hp h0 g.2.1.cs) (fun h2 q2 c er2 f2 e2 => ?_)
  have b2 := coP_bd er2
  have g2 := g.st w f2 e2
  rw [chk_pos g2.1.1.o8]
  refine E5.bd (c_skip tx g2.1 ⟨(by omega), (by omega)⟩ (c := 61) (by omega)) (fun h5 q5 v5 er5 f5 e5 => ?_)
  have b5 := skP_bd (by decide) er5
  have g5 := g2.st w f5 e5
  have lb := (leP_ok (B := B) (L := L) (p := q5) (by omega)).1
  have g6 : G5 (putI h5 566 3 (iN (leP B L q5))) B L (leP B L q5) m b := g5.st w FZ.p3 rd_eq
  have sp : ∀ j, j < 12 → f_X5_spells (putI h5 566 3 (iN (leP B L q5))) 566 (iN q5) (iN (leP B L q5)) (1000000 + j) = some (putI h5 566 3 (iN (leP B L q5)), .inr (bN (spW B q5 (leP B L q5) (stZ j) = true))) := fun j hj => g_spells tx g6.1 hj ⟨(by omega), (by omega), (by omega)⟩
  rw [chk_pos g5.1.1.o8, g_eol tx g5.1 ⟨(by omega), (by omega)⟩, bnd_ret, chk_pos g5.1.1.o8, lt_is, e5, sp 0 (by omega), bnd_ret]
  refine E5.pre (FZ.p3 (h := h5) (v := iN (leP B L q5))).t5 ?_
  by_cases z0 : spW B q5 (leP B L q5) (stZ 0) = true
  · rw [if_pos z0, if_neg (fun y => bN0.mp y z0), chk_pos g6.1.1.o8]
    refine E5.bd (c_number tx g6.1 ⟨(by omega), (by omega)⟩ ⟨(by omega), (by omega)⟩ ⟨(by omega), (by omega)⟩) (fun h7 q7 v7 er7 f7 e7 => ?_)
    have b7 := nuP_bd er7
    have s1 := sp_1 b7.2
    exact e_seq tx w (g6.st w f7 e7) ⟨(by omega), (by omega)⟩ (by omega) (by omega) s1.1 (by rw [if_neg (by omega)]; exact s1.2)
  · rw [if_neg z0, if_pos (bN0.mpr z0), chk_pos g6.1.1.o8, sp 1 (by omega), bnd_ret]
    by_cases z1 : spW B q5 (leP B L q5) (stZ 1) = true
    · rw [if_pos z1, if_neg (fun y => bN0.mp y z1), chk_pos g6.1.1.o8]
      refine E5.bd (c_number tx g6.1 ⟨(by omega), (by omega)⟩ ⟨(by omega), (by omega)⟩ ⟨(by omega), (by omega)⟩) (fun h7 q7 v7 er7 f7 e7 => ?_)
      have b7 := nuP_bd er7
      have s1 := sp_2 b7.2
      exact e_seq tx w (g6.st w f7 e7) ⟨(by omega), (by omega)⟩ (by omega) (by omega) s1.1 (by rw [if_neg (by omega)]; exact s1.2)
    · rw [if_neg z1, if_pos (bN0.mpr z1), chk_pos g6.1.1.o8, sp 2 (by omega), bnd_ret, chk_pos g6.1.1.o8]
      by_cases z2 : spW B q5 (leP B L q5) (stZ 2) = true
      · rw [if_pos z2, bN_y z2, g_demT, bnd_ret]
        exact e_seq tx w g6 ⟨(by omega), (by omega)⟩ (by omega) (by omega) rfl (by rw [if_pos rfl]; rfl)
      · rw [if_neg z2, bN_n z2, g_demF g6.1.1, bnd_thr]
        exact ⟨_, rfl, FZ.p4.t5, rd_eq⟩
theorem g_block {h : Hp} (s : SL h) {b p0 : Int} (e : qI h 566 5 = iN b) (hb : -1 ≤ b ∧ b ≤ 100) : f_X5_block h 566 (iN p0) = some (putI h 566 5 (iN (if b < 0 then p0 else b)), .inr ()) := by
  unfold f_X5_block f_X5_block_L16
  rw [chk_pos s.o8, e, chk_pos s.o8, lt_is, chk_pos s.o8, lt_is]
  by_cases z : b < 0
  · rw [if_neg (fun y => by have := (iN_0le (by omega) (by omega)).mp y; omega), if_pos z]
  · rw [if_pos ((iN_0le (by omega) (by omega)).mpr (by omega)), if_neg z]
theorem e_row {h : Hp} {B : Int → Int} {L p b p0 : Int} {m : Int → Int} (tx : TXo B L) (w : WF m) (g : G5 h B L p m b) (hp : 0 ≤ p ∧ p ≤ L) (hb : -1 ≤ b ∧ b ≤ 100) : E5 h m b p0 (rwP B L p) (f_X5_readRowCommand h 566 (iN p0)) := by
  have h4 := w.1.2.2.2.2.1
  unfold f_X5_readRowCommand rwP
  rw [chk_pos g.1.1.o8]
  refine E5.bd (c_skip tx g.1 hp (c := 59) (by omega)) (fun h2 q2 c er2 f2 e2 => ?_)
  have g2 := g.st w f2 e2
  rw [chk_pos g2.1.1.o8, g2.1.2.1, chk_pos g2.2.1.1.o, g2.2.1.rs, iN_add, lt_is, g_block g2.1.1 g2.2.2 hb, bnd_ret]
  by_cases z : m 4 < 6
  · have ef : (fun m : Int → Int => if m 4 < 6 then some (up m 4 (m 4 + 1)) else none) m = some (up m 4 (m 4 + 1)) := if_pos z
    rw [if_pos (yltN (by omega) (by omega) (by omega))]
    exact ⟨_, rfl, FZ.pI (Or.inl (by omega)), (rd_ne (by omega)).trans e2, by rw [stM_s ef]; exact TM_up g2.2.1 w (by omega), by rw [stb_s ef]; exact (rd_ne (by omega)).trans g2.2.2⟩
  · have ef : (fun m : Int → Int => if m 4 < 6 then some (up m 4 (m 4 + 1)) else none) m = none := if_neg z
    rw [if_neg (nltN (by omega) (by omega) (by omega))]
    exact ⟨_, rfl, FZ.pI (Or.inr (Or.inl (by omega))), (rd_nk (by omega)).trans e2, by rw [stM_n ef]; exact g2.2.1.fz w.1.2.2.2.2.2 (FZ.pI (P := fun x _ => x = 566) rfl) (fun x j x1 x2 x3 => by omega), by rw [stb_n ef]; exact rd_eq⟩
theorem wB_3 {r c sp k : Int} {b : Int → Int} (h : 3 ≤ k) : wB r c sp b k = b k := by
  unfold wB
  rw [if_neg (by omega), if_neg (by omega), if_neg (by omega)]
theorem e_put {h : Hp} {B : Int → Int} {L p b p0 c sp : Int} {m bl : Int → Int} (w : WF m) (g : G5 h B L p m b) (hb : -1 ≤ b ∧ b ≤ 100) (hc : 0 ≤ c ∧ c < 4) (hs : 1 ≤ sp ∧ c + sp ≤ m 0) (wb : WB bl) (ch : HC h 568 bl) : E5 h m b p0 (.inr (p, puE c sp bl)) (f_X5_putContent h 566 (iN p0) (iN c) (iN sp)) := by
  have h0 := w.1.1
  have h4 := w.1.2.2.2.2.1
  have h5 := w.1.2.2.2.2.2
  have t := g.2.1
  have s := g.1.1
  obtain ⟨rg, eg, hg⟩ : ∃ rg : Bool, (0 < m 4 → f_X7_hasRoom h 210 (iN (m 4 - 1)) (iN c) (iN sp) = some (h, .inr (bN (rg = true)))) ∧ (rg = true ↔ m 5 < 16 ∧ ∀ i, 0 ≤ i → i < m 5 → ¬ atP m (m 4 - 1) c sp i) := by
    by_cases z : 0 < m 4
    · obtain ⟨rg, e1, e2⟩ := g_hasRoom w (r := m 4 - 1) (c := c) (s := sp) (by omega) (by omega) (by omega) t
      exact ⟨rg, fun _ => e1, e2⟩
    · by_cases y : m 5 < 16 ∧ ∀ i, 0 ≤ i → i < m 5 → ¬ atP m (m 4 - 1) c sp i
      · exact ⟨true, fun x => absurd x z, ⟨fun _ => y, fun _ => rfl⟩⟩
      · exact ⟨false, fun x => absurd x z, ⟨fun x => (by cases x), fun x => absurd x y⟩⟩
  have fi : frB m (m 4 - 1) c sp (m 5).toNat = true ↔ ∀ i, 0 ≤ i → i < m 5 → ¬ atP m (m 4 - 1) c sp i := by
    rw [frB_iff, Int.toNat_of_nonneg h5.1]
  unfold f_X5_putContent f_X5_putContent_L30
  rw [chk_pos s.o8, g.1.2.1, chk_pos t.1.o, t.rs, iN_sub, chk_pos s.o8, g_block s g.2.2 hb, bnd_ret]
  by_cases z : 0 < m 4
  · rw [if_neg (fun y => by have := (iN_lt0 (by omega) (by omega)).mp y; omega), eg z, bnd_ret]
    by_cases y : rg = true
    · obtain ⟨m16, dj⟩ := hg.mp y
      have ef : puE c sp bl m = some (plN m (wB (m 4 - 1) c sp bl)) := if_pos ⟨z, m16, fi.mpr dj⟩
      have e : stM (puE c sp bl) m = plN m (wB (m 4 - 1) c sp bl) := by
        unfold stM
        rw [ef]
      have eb : stb (puE c sp bl) m b p0 = b := by
        unfold stb
        rw [ef]
      have b0 : wB (m 4 - 1) c sp bl 0 = m 4 - 1 := rfl
      have b1 : wB (m 4 - 1) c sp bl 1 = c := rfl
      have b2 : wB (m 4 - 1) c sp bl 2 = sp := rfl
      have wb2 : WB (wB (m 4 - 1) c sp bl) := wb.cg3 (fun k k1 k2 => wB_3 k1)
      obtain ⟨k0, hk0, ek0⟩ := t.1.at (i := m 5) (by omega)
      have ec : cA (plH h 210 m (m 4 - 1) c sp) 210 (m 5) = cA h 210 (m 5) := cA_ly plH_ly
      have lc : LC (plH h 210 m (m 4 - 1) c sp) (cA h 210 (m 5) + 1) := by rw [← ec]; exact (t.1.ly plH_ly).cl (by omega)
      have sp2 := s.ly (plH_ly (T := 210) (m := m) (r := m 4 - 1) (c := c) (sp := sp))
      have co : HC (plH h 210 m (m 4 - 1) c sp) 568 bl := ch.cg (fun x j x1 x2 _ => by
        unfold plH
        rw [rd_ne (by omega), rd_ne (by omega), rd_ne (by omega), rd_ne (by omega)])
      obtain ⟨h2, e2, f2, c2⟩ := g_copyC (q := cA h 210 (m 5) + 1) (qo := 568) (by omega) wb lc sp2.l68 co
      have t2 : TM h2 210 (plN m (wB (m 4 - 1) c sp bl)) := TM_pl (b := wB (m 4 - 1) c sp bl) t w m16 wb2 f2 (c2.cg3 wb (fun k k1 k2 => wB_3 k1))
      have f0 : FZ (fun x _ => 210 ≤ x ∧ x ≤ 357) h (plH h 210 m (m 4 - 1) c sp) := (((FZ.pI (by omega)).tr (FZ.pI (by omega))).tr (FZ.pI (by omega))).tr (FZ.pI (by omega))
      have ff : FZ (fun x _ => 210 ≤ x ∧ x ≤ 357) h h2 := f0.tr (f2.mo (fun x j y => by unfold pK at y; omega))
      rw [if_neg (fun x => bN0.mp x y), chk_pos s.o8, g.1.2.1, chk_pos t.1.o, g_place t w m16, bnd_ret, chk_pos sp2.o8, sp2.r87, chk_pos sp2.l68.1, chk_pos lc.1, e2, bnd_ret]
      exact ⟨h2, rfl, ff.mo (fun x j y => Or.inl y), (ff.2 _ _ (by omega)).trans g.1.2.2.2.1, by rw [e]; exact t2, by rw [eb]; exact (ff.2 _ _ (by omega)).trans g.2.2⟩
    · have ef : puE c sp bl m = none := if_neg (fun x => y (hg.mpr ⟨x.2.1, fi.mp x.2.2⟩))
      have e : stM (puE c sp bl) m = m := by
        unfold stM
        rw [ef]
      have eb : stb (puE c sp bl) m b p0 = if b < 0 then p0 else b := by
        unfold stb
        rw [ef]
      rw [if_pos (bN0.mpr y), chk_pos s.o8, g_block s g.2.2 hb, bnd_ret]
      exact ⟨_, rfl, FZ.pI (Or.inr (Or.inl (by omega))), (rd_nk (by omega)).trans g.1.2.2.2.1, by rw [e]; exact t.fz h5 (FZ.pI (P := fun x _ => x = 566) rfl) (fun x j x1 x2 x3 => by omega), by rw [eb]; exact rd_eq⟩
  · have ef : puE c sp bl m = none := if_neg (fun x => z x.1)
    have e : stM (puE c sp bl) m = m := by
      unfold stM
      rw [ef]
    have eb : stb (puE c sp bl) m b p0 = if b < 0 then p0 else b := by
      unfold stb
      rw [ef]
    rw [if_pos ((iN_lt0 (by omega) (by omega)).mpr (by omega))]
    exact ⟨_, rfl, FZ.pI (Or.inr (Or.inl (by omega))), (rd_nk (by omega)).trans g.1.2.2.2.1, by rw [e]; exact t.fz h5 (FZ.pI (P := fun x _ => x = 566) rfl) (fun x j x1 x2 x3 => by omega), by rw [eb]; exact rd_eq⟩
