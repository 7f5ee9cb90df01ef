/-! ===== STAGE B: what commands do; the class runs its text ===== -/
theorem wdA_ok {B : Int → Int} {L : Int} (tx : TXo B L) : ∀ (k : Nat) (q n : Int) (b b2 : Int → Int) (q2 : Int), 0 ≤ q → q ≤ L → 1 ≤ n → n ≤ 12 → WB b → b 3 ≤ 3 → b 4 + k ≤ 11 → wdA B L k q n b = .inr (q2, b2) → (q < q2 ∧ q2 ≤ L) ∧ WB b2
  | 0, q, n, b, b2, q2, h1, h2, n1, n2, w, h3, h4, h => by
    obtain ⟨q3, v3, h5, h6⟩ := bdP_inr h
    have b3 := skP_bd (by decide) h5
    have h7 := Sum.inr.inj h6
    have e1 : q3 = q2 := congrArg Prod.fst h7
    have e2 : pshB b n 0 = b2 := congrArg Prod.snd h7
    rw [← e2]
    exact ⟨by omega, (pshB_wb w h3 (by omega) ⟨n1, n2⟩ (by omega)).1⟩
  | k + 1, q, n, b, b2, q2, h1, h2, n1, n2, w, h3, h4, h => by
    have mb := mkF_bd (chT B L q)
    have cb := chT_bd tx h1
    have h' : (if 0 ≤ mkF (chT B L q) then wdP B L k (q + 1) (pshB b n (mkF (chT B L q))) else bdP (skP 59 B L q) fun q2 _ => .inr (q2, pshB b n 0)) = .inr (q2, b2) := h
    by_cases z : 0 ≤ mkF (chT B L q)
    · rw [if_pos z, wdP_A] at h'
      have ql : q < L := by
        by_cases y : q < L
        · exact y
        · have := cb.2.2.mpr (by omega)
          have := mb.2.2 z
          omega
      obtain ⟨q4, n4, h5, h6⟩ := bdP_inr h'
      have b4 := woP_bd (show q + 1 ≤ L by omega) h5
      have wp := pshB_wb (n := n) (br := mkF (chT B L q)) w h3 (by omega) ⟨n1, n2⟩ (by omega)
      have r := wdA_ok tx k q4 n4 _ b2 q2 (by omega) (by omega) (by omega) (by omega) wp.1 (by rw [wp.2.1]; exact h3) (by rw [wp.2.2]; omega) h6
      exact ⟨by omega, r.2⟩
    · rw [if_neg z] at h'
      obtain ⟨q3, v3, h5, h6⟩ := bdP_inr h'
      have b3 := skP_bd (by decide) h5
      have h7 := Sum.inr.inj h6
      have e1 : q3 = q2 := congrArg Prod.fst h7
      have e2 : pshB b n 0 = b2 := congrArg Prod.snd h7
      rw [← e2]
      exact ⟨by omega, (pshB_wb w h3 (by omega) ⟨n1, n2⟩ (by omega)).1⟩
/-- an effect keeps a table a table -/
def EfO (K : Int) (ef : Eff) : Prop := ∀ m n : Int → Int, WF m → m 0 = K → ef m = some n → WF n ∧ n 0 = K
theorem puE_ok {K c sp : Int} {bl : Int → Int} (hc : 0 ≤ c) (hs : 1 ≤ sp) (hk : c + sp ≤ K) (wb : WB bl) : EfO K (puE c sp bl) := fun m n w hK e => by
  have h4 := w.1.2.2.2.2.1
  have h5 := w.1.2.2.2.2.2
  unfold puE at e
  by_cases z : 0 < m 4 ∧ m 5 < 16 ∧ frB m (m 4 - 1) c sp (m 5).toNat = true
  · rw [if_pos z] at e
    have e2 := Option.some.inj e
    have b0 : wB (m 4 - 1) c sp bl 0 = m 4 - 1 := rfl
    have b1 : wB (m 4 - 1) c sp bl 1 = c := rfl
    have b2 : wB (m 4 - 1) c sp bl 2 = sp := rfl
    have dj := (frB_iff (m := m) (r := m 4 - 1) (c := c) (s := sp) (m 5).toNat).mp z.2.2
    rw [← e2]
    refine ⟨WF_pl w z.2.1 ⟨by rw [b0]; omega, by rw [b1]; omega, by rw [b2]; omega, by rw [b1, b2]; omega⟩ (wb.cg3 (fun k k1 k2 => wB_3 k1)) (fun i h1 h2 => dj i h1 (by omega)), ?_⟩
    rw [plN_hd h5.1 (by omega) (by omega)]
    exact hK
  · rw [if_neg z] at e
    cases e
theorem efP_inr {c sp q : Int} {r : Int ⊕ (Int × (Int → Int))} {ef : Eff} (h : efP c sp r = .inr (q, ef)) : ∃ b, r = .inr (q, b) ∧ puE c sp b = ef := by
  match r, h with
  | .inl e, h => cases h
  | .inr (q', b), h =>
    have h2 : (q', puE c sp b) = (q, ef) := Sum.inr.inj h
    have e1 : q' = q := congrArg Prod.fst h2
    have e2 : puE c sp b = ef := congrArg Prod.snd h2
    exact ⟨b, by rw [e1], e2⟩
theorem cr_inj {q q2 : Int} {e e2 : Eff} (h : (Sum.inr (q, e) : CR1) = Sum.inr (q2, e2)) : q = q2 ∧ e = e2 := ⟨congrArg Prod.fst (Sum.inr.inj h), congrArg Prod.snd (Sum.inr.inj h)⟩
theorem meP_ok {B : Int → Int} {L p q K lo hi wk : Int} {ef : Eff} (hw : (wk = 1 ∧ 8 ≤ lo ∧ hi ≤ 36) ∨ (wk = 2 ∧ 0 ≤ lo ∧ hi ≤ 2) ∨ (wk = 3 ∧ 0 ≤ lo ∧ hi ≤ 2)) (h : meP lo hi wk B L p = .inr (q, ef)) : (p < q ∧ q ≤ L) ∧ EfO K ef := by
  rw [meP_as] at h
  obtain ⟨q1, v1, h1, h2⟩ := bdP_inr h
  have b := me0_bd h1
  have e := cr_inj h2
  refine ⟨by omega, fun m n w hK e9 => ?_⟩
  rw [← e.2] at e9
  have e3 : up m wk v1 = n := Option.some.inj e9
  rw [← e3]
  exact ⟨WF_up w (by omega), by rw [up_ne (by omega)]; exact hK⟩
theorem seP_ok {B : Int → Int} {L p q K c v : Int} {ef : Eff} (hc : 0 ≤ c ∧ c < 4) (hs : SpO v) (h : seP c v B L p = .inr (q, ef)) : (p < q ∧ q ≤ L) ∧ EfO K ef := by
  obtain ⟨q1, v1, h1, h2⟩ := bdP_inr h
  have b := skP_bd (by decide) h1
  have e := cr_inj h2
  refine ⟨by omega, fun m n w hK e9 => ?_⟩
  rw [← e.2] at e9
  have e3 : up m (6 + c) v = n := Option.some.inj e9
  rw [← e3]
  exact ⟨WF_sp w hc hs, by rw [up_ne (by omega)]; exact hK⟩
theorem clP_ok {B : Int → Int} {L p q K : Int} {ef : Eff} (hK : 1 ≤ K ∧ K ≤ 4) (hp : p ≤ L) (h : clP K B L p = .inr (q, ef)) : (p < q ∧ q ≤ L) ∧ EfO K ef := by
  obtain ⟨q1, c, h1, h2⟩ := bdP_inr h
  have b1 := coP_bd h1
  obtain ⟨q2, v2, h3, h4⟩ := bdP_inr h2
  have b2 := skP_bd (by decide) h3
  have lb := (leP_ok (B := B) (L := L) (p := q2) (by omega)).1
  by_cases z0 : spW B q2 (leP B L q2) (stZ 0) = true
  · rw [if_pos z0] at h4
    obtain ⟨q3, v3, h5, h6⟩ := bdP_inr h4
    have b3 := nuP_bd h5
    have r := seP_ok (K := K) ⟨(by omega), (by omega)⟩ (Or.inr (Or.inl ⟨(by omega), (by omega)⟩)) h6
    exact ⟨by omega, r.2⟩
  · rw [if_neg z0] at h4
    by_cases z1 : spW B q2 (leP B L q2) (stZ 1) = true
    · rw [if_pos z1] at h4
      obtain ⟨q3, v3, h5, h6⟩ := bdP_inr h4
      have b3 := nuP_bd h5
      have r := seP_ok (K := K) ⟨(by omega), (by omega)⟩ (Or.inr (Or.inr ⟨(by omega), (by omega)⟩)) h6
      exact ⟨by omega, r.2⟩
    · rw [if_neg z1] at h4
      by_cases z2 : spW B q2 (leP B L q2) (stZ 2) = true
      · rw [if_pos z2] at h4
        have r := seP_ok (K := K) ⟨(by omega), (by omega)⟩ (Or.inl rfl) h4
        exact ⟨by omega, r.2⟩
      · rw [if_neg z2] at h4
        cases h4
theorem rwP_ok {B : Int → Int} {L p q K : Int} {ef : Eff} (h : rwP B L p = .inr (q, ef)) : (p < q ∧ q ≤ L) ∧ EfO K ef := by
  obtain ⟨q1, v1, h1, h2⟩ := bdP_inr h
  have b := skP_bd (by decide) h1
  have e := cr_inj h2
  refine ⟨by omega, fun m n w hK e9 => ?_⟩
  rw [← e.2] at e9
  have e8 : (if m 4 < 6 then some (up m 4 (m 4 + 1)) else none) = some n := e9
  by_cases z : m 4 < 6
  · rw [if_pos z] at e8
    have e3 := Option.some.inj e8
    rw [← e3]
    exact ⟨WF_up w (by omega), by rw [up_ne (by omega)]; exact hK⟩
  · rw [if_neg z] at e8
    cases e8
theorem cePt_ok {B : Int → Int} {L p q K : Int} {ef : Eff} (tx : TXo B L) (hp : 0 ≤ p ∧ p ≤ L) (h : cePt K B L p = .inr (q, ef)) : (p < q ∧ q ≤ L) ∧ EfO K ef := by
  obtain ⟨q1, c, h1, h2⟩ := bdP_inr h
  have b1 := coP_bd h1
  obtain ⟨q2, sp, h3, h4⟩ := bdP_inr h2
  have b2 := spP_bd h3
  obtain ⟨q3, kd, h5, h6⟩ := bdP_inr h4
  have b3 := kdP_bd h5
  obtain ⟨q4, v4, h7, h8⟩ := bdP_inr h6
  have b4 := skP_bd (by decide) h7
  obtain ⟨b, h9, h10⟩ := efP_inr h8
  rw [wdP_A] at h9
  obtain ⟨q5, n5, h11, h12⟩ := bdP_inr h9
  have b5 := woP_bd (show q4 ≤ L by omega) h11
  have r := wdA_ok tx 11 q5 n5 _ b q (by omega) (by omega) (by omega) (by omega) (nwB_wb (by omega)) b3.2.2.2 (by show (0 : Int) + ((11 : Nat) : Int) ≤ 11; omega) h12
  rw [← h10]
  exact ⟨by omega, puE_ok (by omega) (by omega) (by omega) r.2⟩
theorem piPt_ok {B : Int → Int} {L p q K : Int} {ef : Eff} (hp : 0 ≤ p ∧ p ≤ L) (h : piPt K B L p = .inr (q, ef)) : (p < q ∧ q ≤ L) ∧ EfO K ef := by
  obtain ⟨q1, c, h1, h2⟩ := bdP_inr h
  have b1 := coP_bd h1
  obtain ⟨q2, sp, h3, h4⟩ := bdP_inr h2
  have b2 := spP_bd h3
  obtain ⟨q3, v3, h5, h6⟩ := bdP_inr h4
  have b3 := skP_bd (by decide) h5
  obtain ⟨q4, wd, h7, h8⟩ := bdP_inr h6
  have b4 := nuP_bd h7
  obtain ⟨q5, v5, h9, h10⟩ := bdP_inr h8
  have b5 := skP_bd (by decide) h9
  obtain ⟨q6, ht, h11, h12⟩ := bdP_inr h10
  have b6 := nuP_bd h11
  obtain ⟨q7, v7, h13, h14⟩ := bdP_inr h12
  have b7 := skP_bd (by decide) h13
  have e := cr_inj h14
  have wk2 : WB (up (up (nwB 0 0 0 4) 5 wd) 6 ht) := ⟨by show (0 : Int) ≤ 4 ∧ (4 : Int) ≤ 5; omega, by show (0 : Int) ≤ 0 ∧ (0 : Int) ≤ 12; omega, b4.2, b6.2, fun k h1 h2 => by have h3 : k < 0 := h2; omega, fun _ => rfl, fun z => by have h3 : (4 : Int) ≤ 3 := z; omega⟩
  rw [← e.2]
  exact ⟨by omega, puE_ok (by omega) (by omega) (by omega) wk2⟩
theorem cmP_ok {B : Int → Int} {L p q K : Int} {ef : Eff} (tx : TXo B L) (hK : 1 ≤ K ∧ K ≤ 4) (hp : 0 ≤ p ∧ p ≤ L) (h : cmP K B L p = .inr (q, ef)) : (p < q ∧ q ≤ L) ∧ EfO K ef := by
  have lb := (leP_ok (B := B) (L := L) (p := p) (by omega)).1
  have sh : (leP B L p < q ∧ q ≤ L) ∧ EfO K ef → (p < q ∧ q ≤ L) ∧ EfO K ef := fun r => ⟨by omega, r.2⟩
  unfold cmP at h
  by_cases z3 : spW B p (leP B L p) (stZ 3) = true
  · rw [if_pos z3] at h
    exact sh (meP_ok (by omega) h)
  rw [if_neg z3] at h
  by_cases z4 : spW B p (leP B L p) (stZ 4) = true
  · rw [if_pos z4] at h
    exact sh (meP_ok (by omega) h)
  rw [if_neg z4] at h
  by_cases z5 : spW B p (leP B L p) (stZ 5) = true
  · rw [if_pos z5] at h
    exact sh (meP_ok (by omega) h)
  rw [if_neg z5] at h
  by_cases z6 : spW B p (leP B L p) (stZ 6) = true
  · rw [if_pos z6] at h
    exact sh (clP_ok hK (by omega) h)
  rw [if_neg z6] at h
  by_cases z7 : spW B p (leP B L p) (stZ 7) = true
  · rw [if_pos z7] at h
    exact sh (rwP_ok h)
  rw [if_neg z7] at h
  by_cases z8 : spW B p (leP B L p) (stZ 8) = true
  · rw [if_pos z8] at h
    exact sh (cePt_ok tx (by omega) h)
  rw [if_neg z8] at h
  by_cases z9 : spW B p (leP B L p) (stZ 9) = true
  · rw [if_pos z9] at h
    exact sh (piPt_ok (by omega) h)
  rw [if_neg z9] at h
  cases h
/-- the commands of the text from p on -/
def cmds (K : Int) (B : Int → Int) (L : Int) : Nat → Int → Int ⊕ List (Int × Eff)
  | 0, _ => .inr []
  | f + 1, p => match cmP K B L p with
    | .inl e => .inl e
    | .inr (q, ef) => if q < L then (match cmds K B L f q with
      | .inl e => .inl e
      | .inr l => .inr ((p, ef) :: l)) else .inr [(p, ef)]
abbrev MB : Type := (Int → Int) × Int
def clF : List (Int × Eff) → MB → MB
  | [], s => s
  | (p, e) :: l, s => clF l (stM e s.1, stb e s.1 s.2 p)
def exF : List (Int × Eff) → (Int → Int) → Int ⊕ (Int → Int)
  | [], m => .inr m
  | (p, e) :: l, m => match e m with
    | some n => exF l n
    | none => .inl p
theorem clF_b : ∀ (l : List (Int × Eff)) (m : Int → Int) (b : Int), 0 ≤ b → (clF l (m, b)).2 = b
  | [], _, _, _ => rfl
  | (p, e) :: l, m, b, hb => by
    have h : stb e m b p = b := by
      unfold stb
      split
      · rfl
      · rw [if_neg (by omega)]
    show (clF l (stM e m, stb e m b p)).2 = b
    rw [h]
    exact clF_b l _ b hb
theorem clF_ex : ∀ (l : List (Int × Eff)) (m : Int → Int), (∀ x ∈ l, 0 ≤ x.1) → (∀ n, exF l m = .inr n → clF l (m, -1) = (n, -1)) ∧ ∀ p, exF l m = .inl p → (clF l (m, -1)).2 = p ∧ 0 ≤ p
  | [], m, _ => ⟨fun n h => by rw [← Sum.inr.inj h]; rfl, fun p h => by cases h⟩
  | (p, e) :: l, m, hp => by
    have h0 : 0 ≤ p := hp (p, e) List.mem_cons_self
    have hl : ∀ x ∈ l, 0 ≤ x.1 := fun x hx => hp x (List.mem_cons_of_mem _ hx)
    match he : e m with
    | some n =>
      have e1 : exF ((p, e) :: l) m = exF l n := by
        rw [exF, he]
      have e2 : clF ((p, e) :: l) (m, -1) = clF l (n, -1) := by
        show clF l (stM e m, stb e m (-1) p) = _
        rw [stM_s he, stb_s he]
      rw [e1, e2]
      exact clF_ex l n hl
    | none =>
      have e1 : exF ((p, e) :: l) m = .inl p := by
        rw [exF, he]
      have e2 : clF ((p, e) :: l) (m, -1) = clF l (m, p) := by
        show clF l (stM e m, stb e m (-1) p) = _
        rw [stM_n he, stb_n he, if_pos (by decide)]
      rw [e1, e2]
      refine ⟨fun n h => (by cases h), fun p2 h => ?_⟩
      rw [← Sum.inl.inj h]
      exact ⟨clF_b l m p h0, h0⟩
theorem G5.t {h h2 : Hp} {B : Int → Int} {L p q b b2 : Int} {m n : Int → Int} (g : G5 h B L p m b) (f : FZ pT5 h h2) (e : qI h2 566 3 = iN q) (t : TM h2 210 n) (eb : qI h2 566 5 = iN b2) : G5 h2 B L q n b2 := ⟨⟨g.1.1.ly f.1, by rw [f.1.2.2.2.1]; exact g.1.2.1, (f.2 _ _ (fun z => by unfold pT5 at z; omega)).trans g.1.2.2.1, e, g.1.2.2.2.2.fz f (fun j z => by unfold pT5 at z; omega)⟩, t, eb⟩
def O5 (h : Hp) (m : Int → Int) (b c : Int) (r : Int ⊕ List (Int × Eff)) (x : Option (Rs Int32)) : Prop := match r with
  | .inl e => ∃ h2, x = some (bump h2, .inl 1) ∧ FZ pT5 h h2 ∧ qI h2 566 4 = iN e
  | .inr l => ∃ h2, x = some (h2, .inr (iN (c + l.length))) ∧ FZ pT5 h h2 ∧ TM h2 210 (clF l (m, b)).1 ∧ qI h2 566 4 = iN (clF l (m, b)).2 ∧ WF (clF l (m, b)).1 ∧ -1 ≤ (clF l (m, b)).2 ∧ (clF l (m, b)).2 ≤ 60
theorem c_run {B : Int → Int} {L K : Int} (tx : TXo B L) (hK : 1 ≤ K ∧ K ≤ 4) : ∀ (f : Nat) (h : Hp) (p b c : Int) (m : Int → Int) (n : Nat), L - p < f → f < n → 0 ≤ p → p ≤ L → 0 ≤ c → c ≤ p → G5 h B L p m b → WF m → m 0 = K → -1 ≤ b → b ≤ 60 →
    O5 h m b c (cmds K B L f p) (bnd (f_X5_readCommand h 566) fun h4 _ => f_X5_run_L34 n h4 566 (iN c + iN 1)) := by
  have hL := tx.1
  intro f
  induction f with
  | zero =>
    intro h p b c m n h1
    omega
  | succ f ih =>
    intro h p b c m n hf hn p1 p2 c1 c2 g w hm b1 b2
    obtain ⟨n, rfl⟩ : ∃ z, n = z + 1 := ⟨n - 1, by omega⟩
    have a := e_command tx w g ⟨p1, p2⟩ ⟨b1, by omega⟩
    rw [hm] at a
    rw [cmds]
    have ok : ∀ q ef, cmP K B L p = .inr (q, ef) → (p < q ∧ q ≤ L) ∧ EfO K ef := fun q ef h => cmP_ok tx hK ⟨p1, p2⟩ h
    revert a ok
    generalize cmP K B L p = r
    intro a ok
    match r, a with
    | .inl e, a =>
      obtain ⟨h2, e2, f2, q2⟩ := a
      exact ⟨h2, by rw [e2, bnd_thr], f2, q2⟩
    | .inr (q, ef), a =>
      obtain ⟨h2, e2, f2, q2, t2, eb⟩ := a
      obtain ⟨qb, eo⟩ := ok q ef rfl
      have g2 := g.t f2 q2 t2 eb
      have wn : WF (stM ef m) ∧ stM ef m 0 = K := by
        match he : ef m with
        | some n =>
          rw [stM_s he]
          exact eo m n w hm he
        | none =>
          rw [stM_n he]
          exact ⟨w, hm⟩
      have sb : -1 ≤ stb ef m b p ∧ stb ef m b p ≤ 60 := by
        match he : ef m with
        | some n =>
          rw [stb_s he]
          exact ⟨b1, b2⟩
        | none =>
          rw [stb_n he]
          split <;> omega
      have s2 := g2.1.1
      rw [e2, bnd_ret, iN_add]
      show O5 h m b c (if q < L then (match cmds K B L f q with
        | .inl e => .inl e
        | .inr l => .inr ((p, ef) :: l)) else .inr [(p, ef)]) (f_X5_run_B34 (f_X5_run_L34 n) h2 566 (iN (c + 1)))
      unfold f_X5_run_B34 f_X5_run_L61
      rw [chk_pos s2.o8, g2.1.2.2.1, q2, chk_pos s2.o8, eb, lt_is]
      by_cases z : q < L
      · rw [if_pos z, if_neg (nleN (by omega) (by omega) (by omega)), if_neg (nleN (by omega) (by omega) (by omega))]
        have i2 := ih h2 q (stb ef m b p) (c + 1) (stM ef m) n (by omega) (by omega) (by omega) (by omega) (by omega) (by omega) g2 wn.1 wn.2 sb.1 sb.2
        revert i2
        generalize cmds K B L f q = r2
        intro i2
        match r2, i2 with
        | .inl e, i2 =>
          obtain ⟨h3, e3, f3, q3⟩ := i2
          exact ⟨h3, e3, f2.tr f3, q3⟩
        | .inr l, i2 =>
          obtain ⟨h3, e3, f3, t3, q3, w3⟩ := i2
          refine ⟨h3, ?_, f2.tr f3, t3, q3, w3⟩
          rw [e3, List.length_cons, show c + 1 + (l.length : Int) = c + ((l.length + 1 : Nat) : Int) by omega]
      · rw [if_neg z, if_pos (yleN (by omega) (by omega) (by omega))]
        refine ⟨_, rfl, f2.tr (FZ.pI (Or.inr (Or.inl (by omega)))), ?_, ?_, wn.1, sb⟩
        · exact t2.fz wn.1.1.2.2.2.2.2 (FZ.pI (P := fun x _ => x = 566) rfl) (fun x j x1 x2 x3 => by omega)
        · rw [rd_eq]
          rfl
