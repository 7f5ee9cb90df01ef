/-! ===== STAGE B: a cell is taken out ===== -/
/-- the layout but for the references of one array -/
def Lr (a : Nat) (h h2 : Hp) : Prop := qN h2 = qN h ∧ qT h2 = qT h ∧ qW h2 = qW h ∧ qL h2 = qL h ∧ qC h2 = qC h ∧ qS h2 = qS h ∧ ∀ x j, x ≠ a → qR h2 x j = qR h x j
theorem Lr.rf {a : Nat} {h : Hp} : Lr a h h := ⟨rfl, rfl, rfl, rfl, rfl, rfl, fun _ _ _ => rfl⟩
theorem Lr.tr {a : Nat} {h h1 h2 : Hp} (p : Lr a h h1) (q : Lr a h1 h2) : Lr a h h2 := by
  obtain ⟨p1, p2, p3, p4, p5, p6, p7⟩ := p
  obtain ⟨q1, q2, q3, q4, q5, q6, q7⟩ := q
  exact ⟨q1.trans p1, q2.trans p2, q3.trans p3, q4.trans p4, q5.trans p5, q6.trans p6, fun x j hx => (q7 x j hx).trans (p7 x j hx)⟩
theorem Lr.pR {a k v : Nat} {h : Hp} : Lr a h (putR h a k v) := ⟨rfl, rfl, rfl, rfl, rfl, rfl, fun x j hx => by rw [qR_pR, if_neg (fun z => hx z.1)]⟩
theorem Lr.pI {a b k : Nat} {v : Int32} {h : Hp} : Lr a h (putI h b k v) := ⟨rfl, rfl, rfl, rfl, rfl, rfl, fun _ _ _ => rfl⟩
theorem Lr.ok {a : Nat} {h h2 : Hp} (p : Lr a h h2) {x t : Nat} : okr h2 x t ↔ okr h x t := by
  unfold okr
  rw [p.1, p.2.1]
theorem LC.lr {a q : Nat} {h h2 : Hp} (p : Lr a h h2) (l : LC h q) (hq : q ≠ a) : LC h2 q := by
  unfold LC at *
  simp only [p.ok, p.2.2.1, p.2.2.2.2.2.2 q _ hq]
  exact l
theorem LTb.lr {a T : Nat} {h h2 : Hp} (p : Lr a h h2) (l : LTb h T) (ha : a < T ∨ T + 148 ≤ a) : LTb h2 T := by
  obtain ⟨l1, l2, l3, l4, l5, l6⟩ := l
  refine ⟨?_, ?_, ?_, fun k hk => ?_, fun i hi => ?_, fun i j hi hj e => ?_⟩
  · simp only [p.ok, p.2.2.2.2.2.2 T _ (by omega)]
    exact l1
  · simp only [p.ok]
    exact l2
  · simp only [p.2.2.1]
    exact l3
  · obtain ⟨m1, m2, m3⟩ := l4 k hk
    exact ⟨p.ok.mpr m1, by rw [p.2.2.2.2.2.2 _ _ (by omega)]; exact m2, m3.lr p (by omega)⟩
  · rw [p.2.2.2.2.2.2 _ _ (by omega)]
    exact l5 i hi
  · rw [p.2.2.2.2.2.2 _ _ (by omega), p.2.2.2.2.2.2 _ _ (by omega)] at e
    exact l6 i j hi hj e
theorem LK.lr {a C T : Nat} {h h2 : Hp} (p : Lr a h h2) (l : LK h C T) (ha : a ≠ C ∧ a ≠ C + 4) : LK h2 C T := by
  obtain ⟨l1, l2, l3, l4, l5⟩ := l
  refine ⟨l1, ?_, ?_, ?_, fun g hg => ?_⟩
  · simp only [p.ok, p.2.2.2.2.2.2 C _ (by omega)]
    exact l2
  · simp only [p.ok]
    exact l3
  · simp only [p.2.2.1]
    exact l4
  · rw [p.ok, p.2.2.1, p.2.2.2.2.2.2 _ _ (by omega)]
    exact l5 g hg
theorem LU.lrr {a S C T : Nat} {h h2 : Hp} (p : Lr a h h2) (l : LU h S C T) (ha : a ≠ S ∧ a ≠ S + 2 ∧ a ≠ S + 41) : LU h2 S C T := by
  obtain ⟨l1, l2, l3, l4, l5, l6⟩ := l
  refine ⟨l1, ?_, ?_, ?_, fun g hg => ?_, fun g hg => ?_⟩
  · simp only [p.ok, p.2.2.2.2.2.2 S _ (by omega)]
    exact l2
  · simp only [p.ok]
    exact l3
  · simp only [p.2.2.1]
    exact l4
  · rw [p.ok, p.2.2.1, p.2.2.2.2.2.2 _ _ (by omega)]
    exact l5 g hg
  · rw [p.ok, p.2.2.1, p.2.2.2.2.2.2 _ _ (by omega)]
    exact l6 g hg
theorem LM.lr {a M : Nat} {h h2 : Hp} (p : Lr a h h2) (l : LM h M) (ha : a ≠ M) : LM h2 M := by
  refine ⟨p.ok.mpr l.1, fun f hf => ?_⟩
  rw [p.ok, p.2.2.1, p.2.2.2.2.2.2 _ _ (by omega)]
  exact l.2 f hf
theorem SL.lr {a : Nat} {h h2 : Hp} (p : Lr a h h2) (s : SL h) (ha : a = 5 ∨ a = 213) (l2 : LTb h2 2) (l210 : LTb h2 210) : SL h2 := by
  obtain ⟨h1, ⟨t1, t2, t3⟩, ⟨k1, k2⟩, ⟨u1, u2⟩, ⟨c1, c2, c3, c4, c5, c6⟩, ⟨p1, p2, p3⟩, g, m, o⟩ := s
  have rr : ∀ x j, x ≠ 5 → x ≠ 213 → qR h2 x j = qR h x j := fun x j z1 z2 => p.2.2.2.2.2.2 x j (by omega)
  refine ⟨?_, ⟨l2, l210, t3.lr p (by omega)⟩, ⟨k1.lr p (by omega), k2.lr p (by omega)⟩, ⟨u1.lrr p (by omega), u2.lrr p (by omega)⟩, ⟨p.ok.mpr c1, by rw [rr _ _ (by decide) (by decide)]; exact c2, by rw [rr _ _ (by decide) (by decide)]; exact c3, p.ok.mpr c4, by rw [p.2.2.1]; exact c5, c6.lr p (by omega)⟩, ⟨p.ok.mpr p1, by rw [p.2.2.1]; exact p2, fun c hc => ?_⟩, ⟨p.ok.mpr g.1, by rw [p.2.2.1]; exact g.2⟩, m.lr p (by omega), ⟨p.ok.mpr o.1, by rw [p.2.2.1]; exact o.2⟩⟩
  · simp only [p.ok, rr 1 _ (by decide) (by decide)]
    exact h1
  · obtain ⟨q1, q2, q3, q4, q5, q6, q7, q8, q9⟩ := p3 c hc
    refine ⟨by rw [rr _ _ (by decide) (by decide)]; exact q1, p.ok.mpr q2, by rw [rr _ _ (by omega) (by omega)]; exact q3, by rw [rr _ _ (by omega) (by omega)]; exact q4, p.ok.mpr q5, by rw [p.2.2.1]; exact q6, p.ok.mpr q7, by rw [p.2.2.1]; exact q8, fun z hz => ⟨by rw [rr _ _ (by omega) (by omega)]; exact (q9 z hz).1, (q9 z hz).2.lr p (by omega)⟩⟩
theorem TM.lr {h h2 : Hp} {T : Nat} {m : Int → Int} (t : TM h T m) (hm : 0 ≤ m 5 ∧ m 5 ≤ 16) (l : LTb h2 T) (r : ∀ j, qR h2 (T + 3) j = qR h (T + 3) j) (e : ∀ x j, T ≤ x → x < T + 148 → qI h2 x j = qI h x j) : TM h2 T m := by
  refine ⟨l, ?_, fun k h1 h2 => by rw [e _ _ (by omega) (by omega)]; exact t.ty k h1 h2, fun k h1 h2 => by rw [e _ _ (by omega) (by omega)]; exact t.va k h1 h2, fun i h1 hi => ?_⟩
  · rw [e T _ (by omega) (by omega), e T _ (by omega) (by omega), e T _ (by omega) (by omega), e T _ (by omega) (by omega), e T _ (by omega) (by omega), e T _ (by omega) (by omega)]
    exact ⟨t.wd, t.gp, t.pd, t.cs, t.rs, t.ns⟩
  · obtain ⟨k, hk, ek⟩ := t.1.at (i := i) (by omega)
    have er : cA h2 T i = cA h T i := r _
    rw [er]
    exact (t.cc h1 hi).cg (fun x j x1 x2 _ => e x j (by omega) (by omega))
theorem CR.lr {a : Nat} {h h2 : Hp} {R : Rst} (w : WR R) (c : CR h R) (s2 : SL h2) (p : Lr a h h2) (ha : a ≠ 421) (e : ∀ x j, (x = 1 ∨ 418 ≤ x) → qI h2 x j = qI h x j) : CR h2 R := by
  obtain ⟨c0, c1, ⟨c2, c3, c4⟩, c5⟩ := c
  refine ⟨by rw [e _ _ (by omega)]; exact c0, fun z => (c1 z).lr (w.1 z).1.2.2.2.2.2 s2.2.1.2.2 (fun j => p.2.2.2.2.2.2 _ _ (by omega)) (fun x j x1 _ => e x j (by omega)), ⟨by rw [e _ _ (by omega)]; exact c2, by rw [e _ _ (by omega)]; exact c3, fun k k1 k2 => by rw [e _ _ (by omega)]; exact c4 k k1 k2⟩, fun c hc => ?_⟩
  obtain ⟨d0, d1, d2, d3, d4⟩ := c5 c hc
  exact ⟨by rw [e _ _ (by omega)]; exact d0, fun z => by rw [e _ _ (by omega)]; exact d1 z, by rw [e _ _ (by omega)]; exact d2, fun k k1 k2 => by rw [e _ _ (by omega)]; exact d3 k k1 k2, fun q q1 q2 q3 => (d4 q q1 q2 q3).cg (fun x j x1 _ _ => e x j (by omega))⟩
/-- a block is taken out -/
def rmN (m : Int → Int) (i j : Int) : Int := if 10 + 31 * i ≤ j ∧ j < 475 then m (j + 31) else if j = 5 then m 5 - 1 else m j
theorem rmN_lo {m : Int → Int} {i k x : Int} (hk : 0 ≤ k ∧ k < i) (hx : 0 ≤ x ∧ x < 31) : blk (rmN m i) k x = blk m k x := by
  unfold blk rmN
  rw [if_neg (by omega), if_neg (by omega)]
theorem rmN_hi {m : Int → Int} {i k x : Int} (hi : i ≤ k ∧ k ≤ 14) (hx : 0 ≤ x ∧ x < 31) : blk (rmN m i) k x = blk m (k + 1) x := by
  unfold blk rmN
  rw [if_pos (by omega), show 10 + 31 * k + x + 31 = 10 + 31 * (k + 1) + x by omega]
theorem rmN_hd {m : Int → Int} {i j : Int} (hi : 0 ≤ i) (hj : j < 10) (h5 : j ≠ 5) : rmN m i j = m j := by
  unfold rmN
  rw [if_neg (by omega), if_neg h5]
theorem rmN_5 {m : Int → Int} {i : Int} (hi : 0 ≤ i) : rmN m i 5 = m 5 - 1 := by
  unfold rmN
  rw [if_neg (by omega), if_pos rfl]
def piN (i k : Int) : Int := if k < i then k else k + 1
theorem rmN_pi {m : Int → Int} {i k x : Int} (hk : 0 ≤ k ∧ k ≤ 14) (hx : 0 ≤ x ∧ x < 31) : blk (rmN m i) k x = blk m (piN i k) x := by
  unfold piN
  by_cases e : k < i
  · rw [if_pos e, rmN_lo ⟨hk.1, e⟩ hx]
  · rw [if_neg e, rmN_hi ⟨(by omega), hk.2⟩ hx]
theorem WF_rm {m : Int → Int} (w : WF m) {i : Int} (hi : 0 ≤ i ∧ i < m 5) : WF (rmN m i) := by
  have h5 := w.1.2.2.2.2.2
  have hd : ∀ {j}, j < 10 → j ≠ 5 → rmN m i j = m j := fun h1 h2 => rmN_hd hi.1 h1 h2
  have pb : ∀ k, 0 ≤ k → k < m 5 - 1 → 0 ≤ piN i k ∧ piN i k < m 5 := fun k h1 h2 => by unfold piN; split <;> omega
  refine ⟨by rw [hd (by omega) (by omega), hd (by omega) (by omega), hd (by omega) (by omega), hd (by omega) (by omega), hd (by omega) (by omega), rmN_5 hi.1]; exact ⟨w.1.1, w.1.2.1, w.1.2.2.1, w.1.2.2.2.1, w.1.2.2.2.2.1, (by omega), (by omega)⟩, fun c h1 h2 => by rw [hd (by omega) (by omega)]; exact w.2.1 c h1 h2, fun k h1 h2 => ?_, fun k j h1 h2 h3 h4 => ?_⟩
  · rw [rmN_5 hi.1] at h2
    have p1 := pb k h1 h2
    have w1 := w.2.2.1 _ p1.1 p1.2
    refine ⟨?_, w1.2.cg (fun x x1 x2 => rmN_pi (by omega) ⟨x1, x2⟩)⟩
    have w2 := w1.1
    unfold CO at *
    rw [rmN_pi (by omega) (by omega), rmN_pi (by omega) (by omega), rmN_pi (by omega) (by omega), hd (by omega) (by omega), hd (by omega) (by omega)]
    exact w2
  · rw [rmN_5 hi.1] at h3
    have p1 := pb k h1 (by omega)
    have p2 := pb j (by omega) h3
    have p3 : piN i k < piN i j := by unfold piN; split <;> split <;> omega
    rw [rmN_pi (by omega) (by omega), rmN_pi (by omega) (by omega)] at h4
    rw [rmN_pi (by omega) (by omega), rmN_pi (by omega) (by omega), rmN_pi (by omega) (by omega), rmN_pi (by omega) (by omega)]
    exact w.2.2.2 _ _ p1.1 p3 p2.2 h4
theorem g_toL {T : Nat} {m : Int → Int} (hm : 0 ≤ m 5 ∧ m 5 ≤ 16) {i : Nat} (hi : (i : Int) < m 5) {h0 : Hp} (t : TM h0 T m) : ∀ (d k : Nat) (h : Hp) (n : Nat), (k : Int) + d = m 5 → d < n → i < k → Lr (T + 3) h0 h → (∀ x j, qI h x j = qI h0 x j) → (∀ j : Nat, qR h (T + 3) j = if i ≤ j ∧ j + 1 < k then qR h0 (T + 3) (j + 1) else qR h0 (T + 3) j) →
    ∃ h2, f_X7_takeOut_L11 n h T (qR h0 (T + 3) i) (iN k) = some (h2, .inr ()) ∧ Lr (T + 3) h0 h2 ∧ (∀ x j, ¬ (x = T ∧ j = 5) → qI h2 x j = qI h0 x j) ∧ qI h2 T 5 = iN (m 5 - 1) ∧ ∀ j : Nat, qR h2 (T + 3) j = if (j : Int) + 1 = m 5 then qR h0 (T + 3) i else if i ≤ j ∧ (j : Int) + 1 < m 5 then qR h0 (T + 3) (j + 1) else qR h0 (T + 3) j := by
  intro d
  induction d with
  | zero =>
    intro k h n hk hn hik l e r
    obtain ⟨n, rfl⟩ : ∃ z, n = z + 1 := ⟨n - 1, by omega⟩
    have er : qR h T 8 = T + 3 := by rw [l.2.2.2.2.2.2 _ _ (by omega)]; exact t.1.r8
    have oT : okr h T 7 := l.ok.mpr t.1.o
    have o3 : okr h (T + 3) 25 := l.ok.mpr t.1.o3
    have w3 : qW h (T + 3) = 16 := by rw [l.2.2.1]; exact t.1.w3
    have n5 : qI h T 5 = iN (m 5) := by rw [e]; exact t.ns
    have oi : okr h (qR h0 (T + 3) i) 1 := by
      rw [l.ok]
      exact t.1.co (i := (i : Int)) (by omega)
    refine ⟨putR (putI h T 5 (iN (m 5 - 1))) (T + 3) (m 5 - 1).toNat (qR h0 (T + 3) i), ?_, (l.tr Lr.pI).tr Lr.pR, fun x j hx => ?_, ?_, fun j => ?_⟩
    · show f_X7_takeOut_B11 (f_X7_takeOut_L11 n) h T (qR h0 (T + 3) i) (iN k) = _
      have e5 : qI (putI h T 5 (iN (m 5 - 1))) T 5 = iN (m 5 - 1) := rd_eq
      unfold f_X7_takeOut_B11
      rw [chk_pos oT, n5, if_pos (yleN (by omega) (by omega) (by omega)), iN_sub, lt_is, e5, show qR (putI h T 5 (iN (m 5 - 1))) T 8 = T + 3 from er, chk_pos (show okr (putI h T 5 (iN (m 5 - 1))) (T + 3) 25 from o3), show qW (putI h T 5 (iN (m 5 - 1))) (T + 3) = 16 from w3, ck_in (by omega) (by omega) (by omega), chk_pos (show okr (putI h T 5 (iN (m 5 - 1))) (qR h0 (T + 3) i) 1 from oi), lt_is, iN_cl (by omega) (by omega)]
    · rw [qI_pR, qI_pI, if_neg hx]
      exact e x j
    · rw [qI_pR]
      exact rd_eq
    · rw [qR_pR, qR_pI]
      by_cases p : (j : Int) + 1 = m 5
      · rw [if_pos ⟨rfl, (by omega)⟩, if_pos p]
      · rw [if_neg (fun z => p (by omega)), if_neg p, r j]
        by_cases p2 : i ≤ j ∧ j + 1 < k
        · rw [if_pos p2, if_pos (by omega)]
        · rw [if_neg p2, if_neg (by omega)]
  | succ d ih =>
    intro k h n hk hn hik l e r
    obtain ⟨n, rfl⟩ : ∃ z, n = z + 1 := ⟨n - 1, by omega⟩
    have er : qR h T 8 = T + 3 := by rw [l.2.2.2.2.2.2 _ _ (by omega)]; exact t.1.r8
    have oT : okr h T 7 := l.ok.mpr t.1.o
    have o3 : okr h (T + 3) 25 := l.ok.mpr t.1.o3
    have w3 : qW h (T + 3) = 16 := by rw [l.2.2.1]; exact t.1.w3
    have n5 : qI h T 5 = iN (m 5) := by rw [e]; exact t.ns
    have rk : qR h (T + 3) k = qR h0 (T + 3) k := by rw [r k, if_neg (by omega)]
    have ok : okr h (qR h0 (T + 3) k) 1 := by
      rw [l.ok]
      exact t.1.co (i := (k : Int)) (by omega)
    obtain ⟨h4, e4, l4, i4, n4, r4⟩ := ih (k + 1) (putR h (T + 3) (k - 1) (qR h0 (T + 3) k)) n (by omega) (by omega) (by omega) (l.tr Lr.pR) (fun x j => by rw [qI_pR]; exact e x j) (fun j => by
      rw [qR_pR]
      by_cases p : j = k - 1
      · rw [if_pos ⟨rfl, p⟩, if_pos (by omega), show j + 1 = k by omega]
      · rw [if_neg (fun z => p z.2), r j]
        by_cases p2 : i ≤ j ∧ j + 1 < k
        · rw [if_pos p2, if_pos (by omega)]
        · rw [if_neg p2, if_neg (by omega)])
    refine ⟨h4, ?_, l4, i4, n4, r4⟩
    show f_X7_takeOut_B11 (f_X7_takeOut_L11 n) h T (qR h0 (T + 3) i) (iN k) = _
    have ck : (iN (k : Int)).toNatClampNeg = k := by rw [iN_cl (by omega) (by omega)]; omega
    have ck1 : (iN ((k : Int) - 1)).toNatClampNeg = k - 1 := by rw [iN_cl (by omega) (by omega)]; omega
    unfold f_X7_takeOut_B11
    rw [chk_pos oT, n5, if_neg (nleN (by omega) (by omega) (by omega)), er, chk_pos o3, w3, ck_in (by omega) (by omega) (by omega), ck, rk, chk_pos ok, iN_sub, ck_in (by omega) (by omega) (by omega), lt_is, ck1, iN_add]
    exact e4
theorem g_takeOut {h : Hp} {T : Nat} {m : Int → Int} (w : WF m) (t : TM h T m) {i : Int} (hi : 0 ≤ i ∧ i < m 5) : ∃ h2, f_X7_takeOut h T (iN i) = some (h2, .inr ()) ∧ Lr (T + 3) h h2 ∧ (∀ x j, ¬ (x = T ∧ j = 5) → qI h2 x j = qI h x j) ∧ TM h2 T (rmN m i) := by
  have hm := w.1.2.2.2.2.2
  obtain ⟨i, rfl⟩ : ∃ k : Nat, i = (k : Int) := ⟨i.toNat, by omega⟩
  obtain ⟨h2, e2, l2, i2, n2, r2⟩ := g_toL hm hi.2 t (m 5 - 1 - i).toNat (i + 1) h 2000 (by omega) (by omega) (by omega) Lr.rf (fun _ _ => rfl) (fun j => by rw [if_neg (by omega)])
  have hd : ∀ {j}, j < 10 → j ≠ 5 → rmN m i j = m j := fun h1 h2 => rmN_hd hi.1 h1 h2
  have pi : ∀ j : Nat, j < 16 → ∃ p : Nat, p < 16 ∧ qR h2 (T + 3) j = qR h (T + 3) p ∧ ((j : Int) + 1 = m 5 → p = i) ∧ ((j : Int) + 1 ≠ m 5 → ((i ≤ j ∧ (j : Int) + 1 < m 5) → p = j + 1) ∧ (¬ (i ≤ j ∧ (j : Int) + 1 < m 5) → p = j)) := fun j hj => by
    rw [r2 j]
    by_cases p : (j : Int) + 1 = m 5
    · exact ⟨i, (by omega), by rw [if_pos p], fun _ => rfl, fun z => absurd p z⟩
    · by_cases p2 : i ≤ j ∧ (j : Int) + 1 < m 5
      · exact ⟨j + 1, (by omega), by rw [if_neg p, if_pos p2], fun z => absurd z p, fun _ => ⟨fun _ => rfl, fun z => absurd p2 z⟩⟩
      · exact ⟨j, hj, by rw [if_neg p, if_neg p2], fun z => absurd z p, fun _ => ⟨fun z => absurd z p2, fun _ => rfl⟩⟩
  have hT : ∀ x j, x ≠ T + 3 → qR h2 x j = qR h x j := l2.2.2.2.2.2.2
  have l : LTb h2 T := by
    obtain ⟨a1, a2, a3, a4, a5, a6⟩ := t.1
    refine ⟨?_, ?_, ?_, fun k hk => ?_, fun k hk => ?_, fun k j hk hj e => ?_⟩
    · simp only [l2.ok, hT T _ (by omega)]
      exact a1
    · simp only [l2.ok]
      exact a2
    · simp only [l2.2.2.1]
      exact a3
    · obtain ⟨m1, m2, m3⟩ := a4 k hk
      exact ⟨l2.ok.mpr m1, by rw [hT _ _ (by omega)]; exact m2, m3.lr l2 (by omega)⟩
    · obtain ⟨p, p1, p2, -⟩ := pi k hk
      rw [p2]
      exact a5 p p1
    · obtain ⟨p, p1, p2, p3, p4⟩ := pi k hk
      obtain ⟨q, q1, q2, q3, q4⟩ := pi j hj
      rw [p2, q2] at e
      have pq := a6 p q p1 q1 e
      omega
  refine ⟨h2, ?_, l2, i2, l, ?_, fun k h1 hk => ?_, fun k h1 hk => ?_, fun k h1 hk => ?_⟩
  · unfold f_X7_takeOut
    rw [chk_pos t.1.o, t.1.r8, chk_pos t.1.o3, t.1.w3, ck_in (by omega) (by omega) (by omega), cA_eq (by omega) (by omega), chk_pos (t.1.co (by omega)), iN_add]
    exact e2
  · rw [i2 T 0 (by omega), i2 T 1 (by omega), i2 T 2 (by omega), i2 T 3 (by omega), i2 T 4 (by omega), n2, hd (by omega) (by omega), hd (by omega) (by omega), hd (by omega) (by omega), hd (by omega) (by omega), hd (by omega) (by omega), rmN_5 hi.1]
    exact ⟨t.wd, t.gp, t.pd, t.cs, t.rs, rfl⟩
  · rw [i2 _ _ (by omega)]
    show _ = iN (tyS (rmN m i (6 + k)))
    rw [hd (by omega) (by omega)]
    exact t.ty k h1 hk
  · rw [i2 _ _ (by omega)]
    show _ = iN (vaS (rmN m i (6 + k)))
    rw [hd (by omega) (by omega)]
    exact t.va k h1 hk
  · rw [rmN_5 hi.1] at hk
    obtain ⟨k, rfl⟩ : ∃ z : Nat, k = (z : Int) := ⟨k.toNat, by omega⟩
    obtain ⟨p, p1, p2, p3, p4⟩ := pi k (by omega)
    have ep : (p : Int) = piN i k := by
      unfold piN
      split <;> omega
    have ec : cA h2 T k = cA h T (piN i k) := by
      rw [← ep]
      exact p2
    have pb : 0 ≤ piN i k ∧ piN i k < m 5 := by unfold piN; split <;> omega
    obtain ⟨z, hz, ez⟩ := t.1.at (i := piN i k) (by omega)
    rw [ec]
    exact ((t.cc pb.1 pb.2).cg (fun x j x1 x2 _ => i2 x j (by omega))).bk (w.2.2.1 _ pb.1 pb.2).2 (fun x x1 x2 => rmN_pi (by omega) ⟨x1, x2⟩)
theorem g_rmL {m : Int → Int} {i : Int} (hi : 0 ≤ i ∧ i < m 5) (h16 : m 5 ≤ 16) : ∀ (d : Nat) (k : Int) (h : Hp) (n : Nat), k + d = 475 → d < n → 10 + 31 * i ≤ k → RM h 632 (fun j => if 10 + 31 * i ≤ j ∧ j < k then m (j + 31) else m j) →
    ∃ h2, f_X9_removes_L8 n h 632 (iN k) = some (h2, .inr ()) ∧ FZ (fun x _ => x = 633) h h2 ∧ RM h2 632 (rmN m i) := by
  intro d
  induction d with
  | zero =>
    intro k h n hk hn hik r0
    obtain ⟨n, rfl⟩ : ∃ z, n = z + 1 := ⟨n - 1, by omega⟩
    obtain rfl : k = 475 := by omega
    have r1 := r0.up (k := 5) (v := m 5 - 1) (by omega)
    refine ⟨_, ?_, FZ.pI (P := fun x _ => x = 633) rfl, r1.1, r1.2.cg (fun j h1 h2 => ?_)⟩
    · show f_X9_removes_B8 (f_X9_removes_L8 n) h 632 (iN 475) = _
      unfold f_X9_removes_B8
      rw [if_pos (yleN (by omega) (by omega) (by omega)), chk_pos r0.1.1, r0.1.r1, chk_pos r0.1.o1, r0.1.w1, ck_in (by omega) (by omega) (by omega), g_rd r0 (by omega) (by omega), lt_is, if_neg (by omega), iN_sub, iN_cl (by omega) (by omega)]
    · unfold up rmN
      dsimp only
      by_cases e : j = 5
      · rw [if_pos e, if_neg (by omega), if_pos e]
      · rw [if_neg e]
        by_cases e2 : 10 + 31 * i ≤ j ∧ j < 475
        · rw [if_pos e2, if_pos e2]
        · rw [if_neg e2, if_neg e2, if_neg e]
  | succ d ih =>
    intro k h n hk hn hik r0
    obtain ⟨n, rfl⟩ : ∃ z, n = z + 1 := ⟨n - 1, by omega⟩
    have r1 := r0.up (k := k) (v := m (k + 31)) (by omega)
    obtain ⟨h4, e4, f4, r4⟩ := ih (k + 1) _ n (by omega) (by omega) (by omega) ⟨r1.1, r1.2.cg (fun j h1 h2 => by
      unfold up
      dsimp only
      by_cases e : j = k
      · rw [if_pos e, if_pos (by omega), e]
      · rw [if_neg e]
        by_cases e2 : 10 + 31 * i ≤ j ∧ j < k
        · rw [if_pos e2, if_pos (by omega)]
        · rw [if_neg e2, if_neg (by omega)])⟩
    refine ⟨h4, ?_, (FZ.pI (P := fun x _ => x = 633) rfl).tr f4, r4⟩
    show f_X9_removes_B8 (f_X9_removes_L8 n) h 632 (iN k) = _
    unfold f_X9_removes_B8
    rw [if_neg (nleN (by omega) (by omega) (by omega)), chk_pos r0.1.1, r0.1.r1, chk_pos r0.1.o1, r0.1.w1, iN_add k 31, ck_in (by omega) (by omega) (by omega), ck_in (by omega) (by omega) (by omega), lt_is, g_rd r0 (by omega) (by omega), if_neg (by omega), iN_cl (z := k) (by omega) (by omega), iN_add k 1]
    exact e4
theorem g_removes {h : Hp} {m : Int → Int} (w : WF m) (rm : RM h 632 m) {i : Int} (hi : 0 ≤ i ∧ i < m 5) : ∃ h2, f_X9_removes h 632 (iN i) = some (h2, .inr ()) ∧ FZ (fun x _ => x = 633) h h2 ∧ RM h2 632 (rmN m i) := by
  have h16 := w.1.2.2.2.2.2
  obtain ⟨h2, e2, f2, r2⟩ := g_rmL hi h16.2 (475 - (10 + 31 * i)).toNat (10 + 31 * i) h 2000 (by omega) (by omega) (by omega) ⟨rm.1, rm.2.cg (fun j h1 h2 => by rw [if_neg (by omega)])⟩
  refine ⟨h2, ?_, f2, r2⟩
  unfold f_X9_removes
  rw [iN_mul, iN_add]
  exact e2
theorem o_removeCell {h : Hp} {D : Dt} (wd : WD D) (s : SL h) (c : CI h D) {x : Int} (hx : InR x) : OpP h D (f_L_removeCell h 1 (iN x) 656) (fun h1 => f_X9_removeCell h1 632 (iN x)) := by
  have w := wd.1
  have t := c.1.1
  have h5 := w.1.2.2.2.2.2
  by_cases q : 0 ≤ x ∧ x ≤ D.1 5 - 1
  · have hx3 : 0 ≤ x ∧ x < D.1 5 := by omega
    obtain ⟨h2, e2, l2, i2, t2⟩ := g_takeOut w t hx3
    have wf := WF_rm w hx3
    have s2 : SL h2 := s.lr l2 (Or.inl rfl) t2.1 (s.2.1.2.1.lr l2 (by omega))
    have md : Mid h h2 D.2 (rmN D.1 x) := ⟨s2, t2, c.2.lr wd.2 s2 l2 (by decide) (fun x j z => i2 x j (by omega)), fun x j z => i2 x j (by omega), l2.2.2.2.2.1, l2.2.2.2.2.2.1⟩
    obtain ⟨h3, e3, fn, fc⟩ := md.fin wf wd.2
    have t3 : TM h3 2 (rmN D.1 x) := fn.2.1.1.1
    refine OpP.M (D.1 5 - 1) wf wd fn ?_ (fun h1 s1 r1 s0 rm => ?_)
    · unfold f_L_removeCell f_X8_removeCell
      rw [chk_pos s.o1, chk_pos s.o1, g_rqCell w s t hx, if_pos q, bnd_ret, chk_pos s.o1, s.t0, chk_pos t.1.o, e2, bnd_ret, chk_pos s2.o1, e3, bnd_ret, chk_pos fn.1.o1, fn.1.t0, chk_pos t3.1.o, t3.ns, rmN_5 hx3.1, bndX_ret]
    · obtain ⟨h4, e4, f4, r4⟩ := g_removes w rm hx3
      refine ⟨h4, ?_, f4.mo (fun x j z => Or.inl z), r4.2⟩
      unfold f_X9_removeCell
      rw [chk_pos s1.m.1, lt_is, g_isCell rm w hx, bnd_ret, if_neg (fun z => bN0.mp z q), chk_pos s0.m.1, e4, bnd_ret, chk_pos r4.1.1, r4.1.r1, chk_pos r4.1.o1, r4.1.w1, ck_in (by omega) (by omega) (by omega), g_rd r4 (by omega) (by omega), rmN_5 hx3.1]
  · refine OpP.f0 1 (by omega) wd s c ?_ (fun h1 s1 r1 s0 rm => ?_)
    · unfold f_L_removeCell f_X8_removeCell
      rw [chk_pos s.o1, chk_pos s.o1, g_rqCell w s t hx, if_neg q, bnd_thr, bndX_thr, if_pos rfl]
    · unfold f_X9_removeCell
      rw [chk_pos s1.m.1, lt_is, g_isCell rm w hx, bnd_ret, if_pos (bN0.mpr q), chk_pos s0.m.1, g_fails s0, bnd_ret]
