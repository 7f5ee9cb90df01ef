/-! ===== STAGE B: the state of both sides ===== -/
/-- what is beside the table: saved?, the saved table, text, its length, the error's place, clips' kinds, sizes, filled?, contents -/
abbrev Rst : Type := Bool × (Int → Int) × (Int → Int) × Int × Int × (Int → Int) × (Int → Int) × (Int → Bool) × (Int → Int)
abbrev rH (R : Rst) : Bool := R.1
abbrev rV (R : Rst) : Int → Int := R.2.1
abbrev rB (R : Rst) : Int → Int := R.2.2.1
abbrev rL (R : Rst) : Int := R.2.2.2.1
abbrev rE (R : Rst) : Int := R.2.2.2.2.1
abbrev rK (R : Rst) : Int → Int := R.2.2.2.2.2.1
abbrev rZ (R : Rst) : Int → Int := R.2.2.2.2.2.2.1
abbrev rF (R : Rst) : Int → Bool := R.2.2.2.2.2.2.2.1
abbrev rC (R : Rst) : Int → Int := R.2.2.2.2.2.2.2.2
def clB (R : Rst) (p : Int) : Int → Int := fun k => rC R (31 * p + k)
/-- the fixed layout -/
def SL (h : Hp) : Prop := (okr h 1 8 ∧ qR h 1 0 = 2 ∧ qR h 1 1 = 150 ∧ qR h 1 2 = 162 ∧ qR h 1 3 = 210 ∧ qR h 1 4 = 358 ∧ qR h 1 5 = 370 ∧ qR h 1 6 = 418 ∧ qR h 1 8 = 566 ∧ qR h 1 9 = 576 ∧ qR h 1 10 = 631) ∧ (LTb h 2 ∧ LTb h 210 ∧ LTb h 418) ∧ (LK h 150 2 ∧ LK h 358 210) ∧ (LU h 162 150 2 ∧ LU h 370 358 210) ∧
  (okr h 566 5 ∧ qR h 566 0 = 567 ∧ qR h 566 7 = 568 ∧ okr h 567 23 ∧ qW h 567 = 60 ∧ LC h 568) ∧ (okr h 576 26 ∧ qW h 576 = 2 ∧ ∀ c : Nat, c < 2 → qR h 576 c = 577 + 27 * c ∧ okr h (577 + 27 * c) 2 ∧ qR h (577 + 27 * c) 3 = 578 + 27 * c ∧ qR h (577 + 27 * c) 4 = 579 + 27 * c ∧ okr h (578 + 27 * c) 22 ∧ qW h (578 + 27 * c) = 3 ∧ okr h (579 + 27 * c) 27 ∧ qW h (579 + 27 * c) = 3 ∧ ∀ p : Nat, p < 3 → qR h (579 + 27 * c) p = 580 + 27 * c + 8 * p ∧ LC h (580 + 27 * c + 8 * p)) ∧
  (okr h 631 20 ∧ qW h 631 = 4) ∧ LM h 632 ∧ (okr h 656 21 ∧ qW h 656 = 1)
theorem SL.ly {h h' : Hp} (a : Ly h h') (s : SL h) : SL h' := by
  obtain ⟨h1, ⟨t1, t2, t3⟩, ⟨k1, k2⟩, ⟨u1, u2⟩, ⟨c1, c2, c3, c4, c5, c6⟩, ⟨p1, p2, p3⟩, g, m, o⟩ := s
  refine ⟨?_, ⟨t1.ly a, t2.ly a, t3.ly a⟩, ⟨k1.ly a, k2.ly a⟩, ⟨u1.ly a, u2.ly a⟩, ⟨a.ok.mpr c1, by rw [a.2.2.2.1]; exact c2, by rw [a.2.2.2.1]; exact c3, a.ok.mpr c4, by rw [a.2.2.1]; exact c5, c6.ly a⟩, ⟨a.ok.mpr p1, by rw [a.2.2.1]; exact p2, fun c hc => ?_⟩, ⟨a.ok.mpr g.1, by rw [a.2.2.1]; exact g.2⟩, m.ly a, ⟨a.ok.mpr o.1, by rw [a.2.2.1]; exact o.2⟩⟩
  · rw [a.ok, a.2.2.2.1]; exact h1
  · obtain ⟨q1, q2, q3, q4, q5, q6, q7, q8, q9⟩ := p3 c hc
    refine ⟨by rw [a.2.2.2.1]; exact q1, a.ok.mpr q2, by rw [a.2.2.2.1]; exact q3, by rw [a.2.2.2.1]; exact q4, a.ok.mpr q5, by rw [a.2.2.1]; exact q6, a.ok.mpr q7, by rw [a.2.2.1]; exact q8, fun p hp => ⟨by rw [a.2.2.2.1]; exact (q9 p hp).1, (q9 p hp).2.ly a⟩⟩
/-- the class's main table with its columns and search -/
def CM (h : Hp) (m : Int → Int) : Prop := TM h 2 m ∧ KM h 150 m ∧ SM h 162 m 1000000
def CPc (h : Hp) (a : Nat) (kd sz : Int) (fl : Int → Bool) (bl : Int → Int → Int) : Prop := qI h a 0 = bN (kd ≠ -1) ∧ (kd ≠ -1 → qI h a 1 = iN kd) ∧ qI h a 2 = iN sz ∧ AR h (a + 1) 3 (fun p => if fl p = true then 1 else 0) ∧ ∀ p, 0 ≤ p → p < 3 → fl p = true → HC h (a + 3 + 8 * p.toNat) (bl p)
def CR (h : Hp) (R : Rst) : Prop := qI h 1 7 = bN (rH R = true) ∧ (rH R = true → TM h 418 (rV R)) ∧ (qI h 566 1 = iN (rL R) ∧ qI h 566 4 = iN (rE R) ∧ AR h 567 (rL R) (rB R)) ∧ ∀ c : Nat, c < 2 → CPc h (577 + 27 * c) (rK R c) (rZ R c) (fun p => rF R (3 * c + p)) (fun p => clB R (3 * c + p))
def RR (h : Hp) (R : Rst) : Prop := qI h 632 4 = bN (rH R = true) ∧ (rH R = true → AR h 634 506 (rV R)) ∧ (qI h 632 6 = iN (rL R) ∧ qI h 632 7 = iN (rE R) ∧ AR h 636 (rL R) (rB R)) ∧ AR h 637 2 (rK R) ∧ AR h 638 2 (rZ R) ∧ AR h 639 186 (rC R) ∧ AR h 640 6 (fun p => if rF R p = true then 1 else 0)
def WR (R : Rst) : Prop := (rH R = true → WF (rV R)) ∧ (0 ≤ rL R ∧ rL R ≤ 60) ∧ (-1 ≤ rE R ∧ rE R ≤ 60) ∧ (∀ k, 0 ≤ k → k < rL R → 33 ≤ rB R k ∧ rB R k ≤ 126) ∧ (∀ c, 0 ≤ c → c < 2 → (-1 ≤ rK R c ∧ rK R c ≤ 5) ∧ (0 ≤ rZ R c ∧ rZ R c ≤ 3) ∧ (rK R c = -1 → rZ R c = 0)) ∧ ∀ p, 0 ≤ p → p < 6 → rF R p = true → WB (clB R p)
abbrev Dt : Type := (Int → Int) × Rst
def CI (h : Hp) (D : Dt) : Prop := CM h D.1 ∧ CR h D.2
def RI (h : Hp) (D : Dt) : Prop := AR h 633 506 D.1 ∧ RR h D.2
def WD (D : Dt) : Prop := WF D.1 ∧ WR D.2
theorem CPc.fz {P : Nat → Nat → Prop} {h h2 : Hp} {a : Nat} {kd sz : Int} {fl : Int → Bool} {bl : Int → Int → Int} (c : CPc h a kd sz fl bl) (f : FZ P h h2) (hp : ∀ x j, a ≤ x → x ≤ a + 26 → ¬ P x j) : CPc h2 a kd sz fl bl := by
  obtain ⟨c0, c1, c2, c3, c4⟩ := c
  exact ⟨(f.2 _ _ (hp _ _ (by omega) (by omega))).trans c0, fun z => (f.2 _ _ (hp _ _ (by omega) (by omega))).trans (c1 z), (f.2 _ _ (hp _ _ (by omega) (by omega))).trans c2, c3.fz f (fun j => hp _ j (by omega) (by omega)), fun p p1 p2 p3 => (c4 p p1 p2 p3).fz f (fun x j x1 x2 _ => hp x j (by omega) (by omega))⟩
theorem CR.fz {P : Nat → Nat → Prop} {h h2 : Hp} {R : Rst} (w : WR R) (c : CR h R) (f : FZ P h h2) (hp : ∀ x j, (x = 1 ∨ (418 ≤ x ∧ x ≤ 567) ∨ (577 ≤ x ∧ x ≤ 630)) → ¬ P x j) : CR h2 R := by
  obtain ⟨c0, c1, ⟨c2, c3, c4⟩, c5⟩ := c
  exact ⟨(f.2 _ _ (hp _ _ (by omega))).trans c0, fun z => (c1 z).fz (w.1 z).1.2.2.2.2.2 f (fun x j x1 x2 => hp x j (by omega)), ⟨(f.2 _ _ (hp _ _ (by omega))).trans c2, (f.2 _ _ (hp _ _ (by omega))).trans c3, c4.fz f (fun j => hp _ j (by omega))⟩, fun c hc => (c5 c hc).fz f (fun x j x1 x2 => hp x j (by omega))⟩
theorem RR.fz {P : Nat → Nat → Prop} {h h2 : Hp} {R : Rst} (c : RR h R) (f : ∀ x j, ¬ P x j → qI h2 x j = qI h x j) (hp : ∀ x j, ((x = 632 ∧ (j = 4 ∨ j = 6 ∨ j = 7)) ∨ x = 634 ∨ (636 ≤ x ∧ x ≤ 640)) → ¬ P x j) : RR h2 R := by
  obtain ⟨c0, c1, ⟨c2, c3, c4⟩, c5, c6, c7, c8⟩ := c
  have ar : ∀ {a n F}, AR h a n F → (a = 634 ∨ (636 ≤ a ∧ a ≤ 640)) → AR h2 a n F := fun A z k h1 h2 => (f _ _ (hp _ _ (by omega))).trans (A k h1 h2)
  exact ⟨(f _ _ (hp _ _ (by omega))).trans c0, fun z => ar (c1 z) (by omega), ⟨(f _ _ (hp _ _ (by omega))).trans c2, (f _ _ (hp _ _ (by omega))).trans c3, ar c4 (by omega)⟩, ar c5 (by omega), ar c6 (by omega), ar c7 (by omega), ar c8 (by omega)⟩
theorem RI.fa {h h2 : Hp} {D : Dt} (c : RI h D) (f : ∀ x j, 632 ≤ x → qI h2 x j = qI h x j) : RI h2 D := ⟨fun k h1 h2 => (f _ _ (by omega)).trans (c.1 k h1 h2), c.2.fz (P := fun x _ => x < 632) (fun x j z => f x j (by omega)) (fun x j z => by omega)⟩
theorem CM.fz {P : Nat → Nat → Prop} {h h2 : Hp} {m : Int → Int} (c : CM h m) (hm : 0 ≤ m 5 ∧ m 5 ≤ 16) (f : FZ P h h2) (hp : ∀ x j, 2 ≤ x → x ≤ 209 → ¬ P x j) : CM h2 m := ⟨c.1.fz hm f (fun x j h1 h2 => hp x j (by omega) (by omega)), c.2.1.fz f (fun x j h1 h2 => hp x j (by omega) (by omega)), c.2.2.fz f (fun x j h1 h2 => hp x j (by omega) (by omega))⟩
theorem CI.fb {P : Nat → Nat → Prop} {h h2 : Hp} {D : Dt} (w : WD D) (c : CI h D) (f : FZ P h h2) (hp : ∀ x j, P x j → 632 ≤ x) : CI h2 D := ⟨c.1.fz w.1.1.2.2.2.2.2 f (fun x j _ h2 z => by have := hp x j z; omega), c.2.fz w.2 f (fun x j z z2 => by have := hp x j z2; omega)⟩
/-- a heap that differs in its room and longs alone -/
def Lq (h h2 : Hp) : Prop := qN h2 = qN h ∧ qT h2 = qT h ∧ qW h2 = qW h ∧ qR h2 = qR h ∧ qI h2 = qI h
theorem Lq.eq {h h2 : Hp} (a : Lq h h2) : h2 = (qN h, qT h, qW h, qI h, qL h2, qR h, qC h2, qS h2) := by
  obtain ⟨a1, a2, a3, a4, a5⟩ := a
  rw [← a1, ← a2, ← a3, ← a4, ← a5]
  rfl
theorem SL.q {h h2 : Hp} (a : Lq h h2) (s : SL h) : SL h2 := by rw [a.eq]; exact s
theorem CI.q {h h2 : Hp} {D : Dt} (a : Lq h h2) (s : CI h D) : CI h2 D := by rw [a.eq]; exact s
theorem RI.q {h h2 : Hp} {D : Dt} (a : Lq h h2) (s : RI h D) : RI h2 D := by rw [a.eq]; exact s
theorem Lq.b (h : Hp) : Lq h (bump h) := ⟨rfl, rfl, rfl, rfl, rfl⟩
theorem Lq.l (h : Hp) (a k : Nat) (v : Int64) : Lq h (putL h a k v) := ⟨rfl, rfl, rfl, rfl, rfl⟩
/-- a call of the class, as the law numbers it: ends with k (0: the answer v lies in out) -/
def COp (h : Hp) (D2 : Dt) (x : Option (Rs Int32)) (k : Int) (v : Int64) : Prop := ∃ h1, x = some (h1, .inr (iN k)) ∧ SL h1 ∧ CI h1 D2 ∧ (∀ x j, 632 ≤ x → qI h1 x j = qI h x j) ∧ (k = 0 → qL h1 656 0 = v) ∧ qC h1 ≤ qC h + 1 ∧ qS h1 ≤ qS h + 6
/-- a call of the reference -/
def ROp (h : Hp) (D2 : Dt) (y : Option (Rs Int32)) (k v : Int) : Prop := ∃ h2 v2, y = some (h2, .inr (iN v2)) ∧ (k = 0 → v2 = v) ∧ qI h2 632 0 = iN k ∧ FZ (fun x _ => 632 ≤ x) h h2 ∧ RI h2 D2
/-- both sides' call -/
def OpP (h : Hp) (D : Dt) (x : Option (Rs Int32)) (y : Hp → Option (Rs Int32)) : Prop := ∃ k v D2, (0 ≤ k ∧ k ≤ 4) ∧ WD D2 ∧ COp h D2 x k (Int32.toInt64 (iN v)) ∧ ∀ h1, SL h1 → RI h1 D → ROp h1 D2 (y h1) k v
theorem SL.o1 {h : Hp} (s : SL h) : okr h 1 8 := s.1.1
theorem SL.t0 {h : Hp} (s : SL h) : qR h 1 0 = 2 := s.1.2.1
theorem SL.t1 {h : Hp} (s : SL h) : qR h 1 1 = 150 := s.1.2.2.1
theorem SL.t2 {h : Hp} (s : SL h) : qR h 1 2 = 162 := s.1.2.2.2.1
theorem SL.t3 {h : Hp} (s : SL h) : qR h 1 3 = 210 := s.1.2.2.2.2.1
theorem SL.t4 {h : Hp} (s : SL h) : qR h 1 4 = 358 := s.1.2.2.2.2.2.1
theorem SL.t5 {h : Hp} (s : SL h) : qR h 1 5 = 370 := s.1.2.2.2.2.2.2.1
theorem SL.t6 {h : Hp} (s : SL h) : qR h 1 6 = 418 := s.1.2.2.2.2.2.2.2.1
theorem SL.t8 {h : Hp} (s : SL h) : qR h 1 8 = 566 := s.1.2.2.2.2.2.2.2.2.1
theorem SL.t9 {h : Hp} (s : SL h) : qR h 1 9 = 576 := s.1.2.2.2.2.2.2.2.2.2.1
theorem SL.t10 {h : Hp} (s : SL h) : qR h 1 10 = 631 := s.1.2.2.2.2.2.2.2.2.2.2
theorem SL.k {h : Hp} (s : SL h) : LK h 150 2 := s.2.2.1.1
theorem SL.u {h : Hp} (s : SL h) : LU h 162 150 2 := s.2.2.2.1.1
theorem SL.m {h : Hp} (s : SL h) : LM h 632 := s.2.2.2.2.2.2.2.1
theorem SL.oo {h : Hp} (s : SL h) : okr h 656 21 := s.2.2.2.2.2.2.2.2.1
theorem SL.ow {h : Hp} (s : SL h) : qW h 656 = 1 := s.2.2.2.2.2.2.2.2.2
theorem SL.og {h : Hp} (s : SL h) : okr h 631 20 := s.2.2.2.2.2.2.1.1
theorem SL.gw {h : Hp} (s : SL h) : qW h 631 = 4 := s.2.2.2.2.2.2.1.2
/-- the reference's table where it stands -/
theorem RI.rm {h : Hp} {D : Dt} (s : SL h) (r : RI h D) : RM h 632 D.1 := ⟨s.m, r.1⟩
/-- the class's end of a call: an answer, or what was thrown -/
theorem COp.ret {h h1 : Hp} {D2 : Dt} {v : Int32} (s : SL h1) (c : CI h1 D2) (f : ∀ x j, 632 ≤ x → qI h1 x j = qI h x j) (e1 : qC h1 ≤ qC h + 1) (e2 : qS h1 ≤ qS h + 6) : COp h D2 (chk (okr h1 656 21) <| chk (vp_in (iN 0) (qW h1 656)) <| lt (putL h1 656 (Int32.toNatClampNeg (iN 0)) (Int32.toInt64 v)) fun h6 => some (h6, .inr (iN 0))) 0 (Int32.toInt64 v) := by
  refine ⟨putL h1 656 0 (Int32.toInt64 v), ?_, s.q (Lq.l ..), c.q (Lq.l ..), f, fun _ => (if_pos (⟨rfl, rfl⟩ : 656 = 656 ∧ 0 = 0) : (if 656 = 656 ∧ 0 = 0 then Int32.toInt64 v else qL h1 656 0) = Int32.toInt64 v), e1, e2⟩
  rw [chk_pos s.oo, s.ow, ck_in (by omega) (by omega) (by omega), lt_is]
  rfl
theorem COp.thr {h h1 : Hp} {D2 : Dt} {k : Int} {v : Int64} (hk : k ≠ 0) (s : SL h1) (c : CI h1 D2) (f : ∀ x j, 632 ≤ x → qI h1 x j = qI h x j) (e1 : qC h1 ≤ qC h) (e2 : qS h1 ≤ qS h) : COp h D2 (some (bump h1, .inr (iN k))) k v := ⟨bump h1, rfl, s.q (Lq.b _), c.q (Lq.b _), f, fun z => absurd z hk, by show qC h1 + 1 ≤ _; omega, by show qS h1 + 6 ≤ _; omega⟩
/-! the checks at the class's door -/
theorem g_rqI {h : Hp} {p : Prop} [Decidable p] : f_X8_requireIndex h (bN p) = if p then some (h, .inr ()) else some (bump h, .inl 2) := by
  unfold f_X8_requireIndex
  by_cases q : p
  · rw [if_neg (fun z => bN0.mp z q), if_pos q]
  · rw [if_pos (bN0.mpr q), if_neg q]
theorem g_rqA {h : Hp} {p : Prop} [Decidable p] : f_X8_requireArgument h (bN p) = if p then some (h, .inr ()) else some (bump h, .inl 1) := by
  unfold f_X8_requireArgument
  by_cases q : p
  · rw [if_neg (fun z => bN0.mp z q), if_pos q]
  · rw [if_pos (bN0.mpr q), if_neg q]
theorem g_rqS {h : Hp} {p : Prop} [Decidable p] : f_X8_requireState h (bN p) = if p then some (h, .inr ()) else some (bump h, .inl 0) := by
  unfold f_X8_requireState
  by_cases q : p
  · rw [if_neg (fun z => bN0.mp z q), if_pos q]
  · rw [if_pos (bN0.mpr q), if_neg q]
theorem g_rqU {h : Hp} {p : Prop} [Decidable p] : f_X8_requireSupport h (bN p) = if p then some (h, .inr ()) else some (bump h, .inl 4) := by
  unfold f_X8_requireSupport
  by_cases q : p
  · rw [if_neg (fun z => bN0.mp z q), if_pos q]
  · rw [if_pos (bN0.mpr q), if_neg q]
theorem g_rqE {h : Hp} {p : Prop} [Decidable p] : f_X8_requireElement h (bN p) = if p then some (h, .inr ()) else some (bump h, .inl 5) := by
  unfold f_X8_requireElement
  by_cases q : p
  · rw [if_neg (fun z => bN0.mp z q), if_pos q]
  · rw [if_pos (bN0.mpr q), if_neg q]
theorem g_rqCell {h : Hp} {m : Int → Int} (w : WF m) (s : SL h) (t : TM h 2 m) {x : Int} (hx : InR x) : f_X8_requireCell h 1 (iN x) = if 0 ≤ x ∧ x ≤ m 5 - 1 then some (h, .inr ()) else some (bump h, .inl 2) := by
  have h5 := w.1.2.2.2.2.2
  unfold f_X8_requireCell
  rw [chk_pos s.o1, s.t0, chk_pos t.1.o, t.ns, iN_sub, g_isW hx ⟨by omega, by omega⟩ ⟨by omega, by omega⟩, bnd_ret, g_rqI]
  split <;> rfl
theorem g_rqRow {h : Hp} {m : Int → Int} (w : WF m) (s : SL h) (t : TM h 2 m) {x : Int} (hx : InR x) : f_X8_requireRow h 1 (iN x) = if 0 ≤ x ∧ x ≤ m 4 - 1 then some (h, .inr ()) else some (bump h, .inl 2) := by
  have h5 := w.1.2.2.2.2.1
  unfold f_X8_requireRow
  rw [chk_pos s.o1, s.t0, chk_pos t.1.o, t.rs, iN_sub, g_isW hx ⟨by omega, by omega⟩ ⟨by omega, by omega⟩, bnd_ret, g_rqI]
  split <;> rfl
theorem g_rqCol {h : Hp} {m : Int → Int} (w : WF m) (s : SL h) (t : TM h 2 m) {x : Int} (hx : InR x) : f_X8_requireColumn h 1 (iN x) = if 0 ≤ x ∧ x ≤ m 0 - 1 then some (h, .inr ()) else some (bump h, .inl 2) := by
  have h5 := w.1.1
  unfold f_X8_requireColumn
  rw [chk_pos s.o1, s.t0, chk_pos t.1.o, t.cs, iN_sub, g_isW hx ⟨by omega, by omega⟩ ⟨by omega, by omega⟩, bnd_ret, g_rqI]
  split <;> rfl
theorem g_changed {h : Hp} {m : Int → Int} (w : WF m) (s : SL h) (t : TM h 2 m) : ∃ h2, f_X8_changed h 1 = some (h2, .inr ()) ∧ FZ (fun x _ => 150 ≤ x ∧ x ≤ 209) h h2 ∧ CM h2 m := by
  have hm := w.1.2.2.2.2.2
  obtain ⟨h3, e3, f3, k3⟩ := g_measure w s.k t
  have s3 := s.ly f3.1
  have t3 := t.c hm (by decide) f3
  obtain ⟨h2, e2, f2, sm⟩ := g_restart w (L := 1000000) s3.u s3.k t3 k3
  have ff : FZ (fun x _ => 150 ≤ x ∧ x ≤ 209) h h2 := (f3.mo (fun x j z => by unfold pC at z; omega)).tr (f2.mo (fun x j z => by omega))
  refine ⟨h2, ?_, ff, t3.fz hm f2 (fun x j z1 z2 z3 => by omega), k3.fz f2 (fun x j z1 z2 z3 => by omega), sm⟩
  unfold f_X8_changed
  rw [chk_pos s.o1, s.t1, chk_pos s.k.o, e3, bnd_ret, chk_pos s3.o1, s3.t2, chk_pos s3.u.o, show (1000000 : Int32) = iN 1000000 from rfl, e2, bnd_ret]
