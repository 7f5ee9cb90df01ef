/-! ===== STAGE B: the reference runs its text ===== -/
def N0 (h : Hp) (c : Int) (r : Int ⊕ List (Int × Eff)) (x : Option (Rs Int32)) : Prop := match r with
  | .inl e => (0 ≤ e ∧ e ≤ 60) ∧ ∃ h2 v, x = some (h2, .inr v) ∧ FZ p9 h h2 ∧ qI h2 632 7 = iN e
  | .inr l => ∃ h2, x = some (h2, .inr (iN (c + l.length))) ∧ FZ p9 h h2 ∧ qI h2 632 7 = iN (-1)
theorem N0.pre {h h1 : Hp} {c : Int} {r : Int ⊕ List (Int × Eff)} {x : Option (Rs Int32)} (f : FZ p9 h h1) (a : N0 h1 c r x) : N0 h c r x := by
  match r, a with
  | .inl e, a =>
    obtain ⟨eb, h2, v, e2, f2, q2⟩ := a
    exact ⟨eb, h2, v, e2, f.tr f2, q2⟩
  | .inr l, a =>
    obtain ⟨h2, e2, f2, q2⟩ := a
    exact ⟨h2, e2, f.tr f2, q2⟩
def cnsP (p : Int) (ef : Eff) (r : Int ⊕ List (Int × Eff)) : Int ⊕ List (Int × Eff) := match r with
  | .inl e => .inl e
  | .inr l => .inr ((p, ef) :: l)
theorem cmds_e {K : Int} {B : Int → Int} {L p e : Int} {f : Nat} (h : cmP K B L p = .inl e) : cmds K B L (f + 1) p = .inl e := by
  rw [cmds, h]
theorem cmds_n {K : Int} {B : Int → Int} {L p q : Int} {ef : Eff} {f : Nat} (h : cmP K B L p = .inr (q, ef)) (hq : q < L) : cmds K B L (f + 1) p = cnsP p ef (cmds K B L f q) := by
  rw [cmds, h]
  exact if_pos hq
theorem cmds_l {K : Int} {B : Int → Int} {L p q : Int} {ef : Eff} {f : Nat} (h : cmP K B L p = .inr (q, ef)) (hq : ¬ q < L) : cmds K B L (f + 1) p = .inr [(p, ef)] := by
  rw [cmds, h]
  exact if_neg hq
theorem r_run0 {B : Int → Int} {L : Int} {m : Int → Int} (tx : TXo B L) (w : WF m) : ∀ (f : Nat) (h : Hp) (p c : Int) (n : Nat), L - p < f → f < n → 0 ≤ p → p ≤ L → 0 ≤ c → c ≤ p → Z9 h m B L p 0 → N0 h c (cmds (m 0) B L f p) (f_X9_commands_L41 (f_X9_commands_L12 n) h 632 (iN c)) := by
  have hL := tx.1
  intro f
  induction f with
  | zero =>
    intro h p c n h1
    omega
  | succ f ih =>
    intro h p c n hf hn p1 p2 c1 c2 z
    obtain ⟨n, rfl⟩ : ∃ z, n = z + 1 := ⟨n - 1, by omega⟩
    have lm := z.1.1.1
    have a := r_command tx w z (Or.inl rfl) ⟨p1, p2⟩
    unfold f_X9_commands_L41
    rw [chk_pos lm.1]
    have ok : ∀ q ef, cmP (m 0) B L p = .inr (q, ef) → (p < q ∧ q ≤ L) ∧ EfO (m 0) ef := fun q ef h => cmP_ok tx w.1.1 ⟨p1, p2⟩ h
    match er : cmP (m 0) B L p with
    | .inl e =>
      rw [er] at a
      obtain ⟨eb, h2, e2, f2, q2⟩ := a rfl
      have o : Of9 h2 e := ⟨lm.ly f2.1, eb, q2⟩
      rw [cmds_e er, e2, bnd_ret]
      show N0 h c (.inl e) (f_X9_commands_B12 (f_X9_commands_L12 n) h2 632 (iN c + iN 1))
      unfold f_X9_commands_B12
      rw [chk_pos o.1.1, g_isOff1 o, bnd_ret, if_neg (by decide)]
      exact ⟨eb, h2, _, rfl, f2, q2⟩
    | .inr (q, ef) =>
      rw [er] at a
      obtain ⟨h2, e2, f2, q12, q7⟩ := a.1 rfl
      have qb := (ok q ef er).1
      have z2 := z.st f2 q12 q7
      have l2 := z2.1.1.1
      rw [e2, bnd_ret, iN_add]
      show N0 h c _ (f_X9_commands_B12 (f_X9_commands_L12 n) h2 632 (iN (c + 1)))
      unfold f_X9_commands_B12
      rw [chk_pos l2.1, g_isOff0 l2 q7, bnd_ret, if_pos (show iN 0 = 0 from rfl), chk_pos l2.1, if_pos (show qI h2 632 14 = 0 from z2.2.2), if_neg (show ¬ iN (c + 1) = 0 from neN (b := 0) (by omega) (by omega) (by omega) (by omega) (by omega)), z2.1.2.1, q12]
      by_cases y : q < L
      · rw [if_neg (nleN (by omega) (by omega) (by omega)), cmds_n er y]
        have i2 := (ih h2 q (c + 1) n (by omega) (by omega) (by omega) (by omega) (by omega) (by omega) z2).pre f2
        revert i2
        generalize cmds (m 0) B L f q = r2
        intro i2
        match r2, i2 with
        | .inl e, i2 => exact i2
        | .inr l, i2 =>
          obtain ⟨h3, e3, f3, q3⟩ := i2
          refine ⟨h3, ?_, f3, q3⟩
          rw [e3, List.length_cons, show c + 1 + (l.length : Int) = c + ((l.length + 1 : Nat) : Int) by omega]
      · rw [if_pos (yleN (by omega) (by omega) (by omega)), cmds_l er y]
        exact ⟨h2, rfl, f2, q7⟩
theorem Z9.s9 {h h2 : Hp} {m n B : Int → Int} {L p q d : Int} (z : Z9 h m B L p d) (f : FZ p9s h h2) (r : RM h2 632 n) (e : qI h2 632 12 = iN q) (e7 : qI h2 632 7 = iN (-1)) : Z9 h2 n B L q d := by
  have g : ∀ x j, ¬ p9s x j → qI h2 x j = qI h x j := f.2
  unfold p9s p9 at g
  exact ⟨⟨r, (g _ _ (by omega)).trans z.1.2.1, fun k h0 h1 => (g _ _ (by omega)).trans (z.1.2.2.1 k h0 h1), e, e7⟩, (g _ _ (by omega)).trans z.2.1, (g _ _ (by omega)).trans z.2.2⟩
def N1 (h : Hp) (c k : Int) (r : Int ⊕ (Int → Int)) (x : Option (Rs Int32)) : Prop := match r with
  | .inl e => (0 ≤ e ∧ e ≤ 60) ∧ ∃ h2 v, x = some (h2, .inr v) ∧ FZ p9u h h2 ∧ qI h2 632 7 = iN e ∧ qI h2 632 14 = iN 1
  | .inr n => ∃ h2, x = some (h2, .inr (iN (c + k))) ∧ FZ p9s h h2 ∧ RM h2 632 n ∧ qI h2 632 7 = iN (-1) ∧ qI h2 632 14 = iN 0
theorem N1.pre {h h1 : Hp} {c k c2 k2 : Int} {r : Int ⊕ (Int → Int)} {x : Option (Rs Int32)} (f : FZ p9s h h1) (a : N1 h1 c2 k2 r x) (e : c2 + k2 = c + k) : N1 h c k r x := by
  match r, a with
  | .inl e, a =>
    obtain ⟨eb, h2, v, e2, f2, q2⟩ := a
    exact ⟨eb, h2, v, e2, f.u9.tr f2, q2⟩
  | .inr l, a =>
    obtain ⟨h2, e2, f2, q2⟩ := a
    exact ⟨h2, by rw [e2, e], f.tr f2, q2⟩
theorem cns_inr {p : Int} {ef : Eff} {r : Int ⊕ List (Int × Eff)} {l : List (Int × Eff)} (h : cnsP p ef r = .inr l) : ∃ l2, r = .inr l2 ∧ l = (p, ef) :: l2 := by
  match r, h with
  | .inr l2, h => exact ⟨l2, rfl, (Sum.inr.inj h).symm⟩
theorem r_run1 {B : Int → Int} {L K : Int} (tx : TXo B L) : ∀ (f : Nat) (h : Hp) (p c : Int) (n : Nat) (m : Int → Int) (l : List (Int × Eff)), L - p < f → f < n → 0 ≤ p → p ≤ L → 0 ≤ c → c ≤ p → WF m → m 0 = K → Z9 h m B L p 1 → cmds K B L f p = .inr l → N1 h c l.length (exF l m) (f_X9_commands_L41 (f_X9_commands_L12 n) h 632 (iN c)) := by
  have hL := tx.1
  intro f
  induction f with
  | zero =>
    intro h p c n m l h1
    omega
  | succ f ih =>
    intro h p c n m l hf hn p1 p2 c1 c2 w hm z el
    obtain ⟨n, rfl⟩ : ∃ z, n = z + 1 := ⟨n - 1, by omega⟩
    have lm := z.1.1.1
    have a := r_command tx w z (Or.inr rfl) ⟨p1, p2⟩
    rw [hm] at a
    have hK : 1 ≤ K ∧ K ≤ 4 := hm ▸ w.1.1
    unfold f_X9_commands_L41
    rw [chk_pos lm.1]
    have ok : ∀ q ef, cmP K B L p = .inr (q, ef) → (p < q ∧ q ≤ L) ∧ EfO K ef := fun q ef h => cmP_ok tx hK ⟨p1, p2⟩ h
    match er : cmP K B L p with
    | .inl e =>
      rw [cmds_e er] at el
      exact absurd el (by intro h; cases h)
    | .inr (q, ef) =>
      rw [er] at a
      have d9 := a.2 rfl
      obtain ⟨qb, eo⟩ := ok q ef er
      have hl : ∃ l2, l = (p, ef) :: l2 ∧ (q < L → cmds K B L f q = .inr l2) ∧ (¬ q < L → l2 = []) := by
        by_cases y : q < L
        · rw [cmds_n er y] at el
          obtain ⟨l2, e1, e2⟩ := cns_inr el
          exact ⟨l2, e2, fun _ => e1, fun z => absurd y z⟩
        · rw [cmds_l er y] at el
          exact ⟨[], (Sum.inr.inj el).symm, fun z => absurd z y, fun _ => rfl⟩
      obtain ⟨l2, rfl, hl1, hl2⟩ := hl
      rw [exF]
      match he : ef m with
      | none =>
        rw [he] at d9
        obtain ⟨h2, e2, f2, q7, q14⟩ := d9
        have o : Of9 h2 p := ⟨lm.ly f2.1, ⟨p1, (by omega)⟩, q7⟩
        rw [e2, bnd_ret]
        show N1 h c _ (.inl p) (f_X9_commands_B12 (f_X9_commands_L12 n) h2 632 (iN c + iN 1))
        unfold f_X9_commands_B12
        rw [chk_pos o.1.1, g_isOff1 o, bnd_ret, if_neg (by decide)]
        exact ⟨⟨p1, (by omega)⟩, h2, _, rfl, f2, q7, q14⟩
      | some m2 =>
        rw [he] at d9
        obtain ⟨h2, e2, f2, r2, q12, q7⟩ := d9
        have z2 := z.s9 f2 r2 q12 q7
        have l2m := z2.1.1.1
        obtain ⟨w2, k2⟩ := eo m m2 w hm he
        rw [e2, bnd_ret, iN_add]
        show N1 h c _ (exF l2 m2) (f_X9_commands_B12 (f_X9_commands_L12 n) h2 632 (iN (c + 1)))
        unfold f_X9_commands_B12
        rw [chk_pos l2m.1, g_isOff0 l2m q7, bnd_ret, if_pos (show iN 0 = 0 from rfl), chk_pos l2m.1, if_pos (show qI h2 632 14 = 0 from z2.2.2), if_neg (show ¬ iN (c + 1) = 0 from neN (b := 0) (by omega) (by omega) (by omega) (by omega) (by omega)), z2.1.2.1, q12]
        by_cases y : q < L
        · rw [if_neg (nleN (by omega) (by omega) (by omega))]
          exact (ih h2 q (c + 1) n m2 l2 (by omega) (by omega) (by omega) (by omega) (by omega) (by omega) w2 k2 z2 (hl1 y)).pre f2 (by rw [List.length_cons]; omega)
        · rw [if_pos (yleN (by omega) (by omega) (by omega)), hl2 y]
          exact ⟨h2, rfl, f2, r2, q7, z2.2.2⟩
/-- what the text asks of a table -/
def exA (B : Int → Int) (L : Int) (m : Int → Int) : Int ⊕ List (Int × Eff) := cmds (m 0) B L 61 0
/-- what a run leaves beside the table -/
def exR (R : Rst) (e : Int) : Rst := (rH R, rV R, rB R, 0, e, rK R, rZ R, rF R, rC R)
theorem exR_w {R : Rst} (w : WR R) {e : Int} (he : -1 ≤ e ∧ e ≤ 60) : WR (exR R e) := by
  obtain ⟨w1, w2, w3, w4, w5, w6⟩ := w
  exact ⟨w1, ⟨Int.le_refl 0, show (0 : Int) ≤ 60 by decide⟩, he, fun k k1 k2 => by have : k < 0 := k2; omega, w5, w6⟩
def pE9 (x j : Nat) : Prop := x = 633 ∨ x = 635 ∨ (x = 632 ∧ (j = 0 ∨ j = 6 ∨ j = 7 ∨ j = 12 ∨ j = 13 ∨ j = 14 ∨ j = 15))
theorem RR.ex {h h2 : Hp} {R : Rst} (r : RR h R) (f : FZ pE9 h h2) {e : Int} (e6 : qI h2 632 6 = iN 0) (e7 : qI h2 632 7 = iN e) : RR h2 (exR R e) := by
  have g : ∀ x j, ¬ pE9 x j → qI h2 x j = qI h x j := f.2
  unfold pE9 at g
  obtain ⟨c0, c1, ⟨c2, c3, c4⟩, c5, c6, c7, c8⟩ := r
  have ar : ∀ {a n F}, AR h a n F → (a = 634 ∨ (636 ≤ a ∧ a ≤ 640)) → AR h2 a n F := fun A z k h1 h2 => (g _ _ (by omega)).trans (A k h1 h2)
  exact ⟨(g _ _ (by omega)).trans c0, fun z => ar (c1 z) (by omega), ⟨e6, e7, fun k k1 k2 => by have : k < 0 := k2; omega⟩, ar c5 (by omega), ar c6 (by omega), ar c7 (by omega), ar c8 (by omega)⟩
theorem FZ.e9 {h h2 : Hp} (f : FZ p9u h h2) : FZ pE9 h h2 := f.mo (fun x j z => by unfold p9u p9 at z; unfold pE9; omega)
theorem Z9.go {h : Hp} {m B : Int → Int} {L : Int} (r : RM h 632 m) (e6 : qI h 632 6 = iN L) (A : AR h 636 L B) (e7 : qI h 632 7 = iN (-1)) (e14 : qI h 632 14 = iN 0) {d : Int} : Z9 (putI (putI h 632 13 (iN d)) 632 12 (iN 0)) m B L 0 d := by
  have f : FZ (fun x j => x = 632 ∧ (j = 13 ∨ j = 12)) h (putI (putI h 632 13 (iN d)) 632 12 (iN 0)) := (FZ.pI ⟨rfl, Or.inl rfl⟩).tr (FZ.pI ⟨rfl, Or.inr rfl⟩)
  exact ⟨⟨⟨r.1.ly f.1, r.2.fz f (fun j => by omega)⟩, (f.2 _ _ (by omega)).trans e6, A.fz f (fun j => by omega), rd_eq, (f.2 _ _ (by omega)).trans e7⟩, (rd_nk (by decide)).trans rd_eq, (f.2 _ _ (by omega)).trans e14⟩
theorem r_cmds {h : Hp} {d : Int} {z : Int32} (lm : LM h 632) (hz : z = iN d) (hd : d = 0 ∨ d = 1) (e7 : qI h 632 7 = iN (-1)) (e14 : qI h 632 14 = iN 0) : f_X9_commands h 632 z = f_X9_commands_L41 (f_X9_commands_L12 1999) (putI (putI h 632 13 (iN d)) 632 12 (iN 0)) 632 (iN 0) := by
  have l2 : LM (putI (putI h 632 13 (iN d)) 632 12 (iN 0)) 632 := (lm.ly Ly.pI).ly Ly.pI
  have e72 : qI (putI (putI h 632 13 (iN d)) 632 12 (iN 0)) 632 7 = iN (-1) := (rd_nk (by decide)).trans ((rd_nk (by decide)).trans e7)
  have e142 : qI (putI (putI h 632 13 (iN d)) 632 12 (iN 0)) 632 14 = 0 := (rd_nk (by decide)).trans ((rd_nk (by decide)).trans e14)
  unfold f_X9_commands
  rw [chk_pos lm.1, hz, chk_pos (show iN d = 0 ∨ iN d = 1 from hd.elim (fun y => Or.inl (by rw [y]; rfl)) (fun y => Or.inr (by rw [y]; rfl))), lt_is, lt_is]
  show f_X9_commands_B12 (f_X9_commands_L12 1999) (putI (putI h 632 13 (iN d)) 632 12 (iN 0)) 632 (iN 0) = _
  unfold f_X9_commands_B12
  rw [chk_pos l2.1, g_isOff0 l2 e72, bnd_ret, if_pos (show iN 0 = 0 from rfl), chk_pos l2.1, if_pos e142, if_pos (show iN 0 = 0 from rfl)]
