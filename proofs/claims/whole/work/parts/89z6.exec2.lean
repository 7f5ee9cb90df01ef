/-! ===== STAGE B: the class executes ===== -/
theorem Lr.ly {x : Nat} {h h2 : Hp} (a : Ly h h2) : Lr x h h2 := ⟨a.1, a.2.1, a.2.2.1, a.2.2.2.2.1, a.2.2.2.2.2.1, a.2.2.2.2.2.2, fun x j _ => by rw [a.2.2.2.1]⟩
theorem SL.p6 {h : Hp} {v : Nat} (s : SL h) : SL (putR h 566 6 v) := by
  have p : Lr 566 h (putR h 566 6 v) := Lr.pR
  obtain ⟨h1, ⟨t1, t2, t3⟩, ⟨k1, k2⟩, ⟨u1, u2⟩, ⟨c1, c2, c3, c4, c5, c6⟩, ⟨p1, p2, p3⟩, g, m, o⟩ := s
  have rr : ∀ x j, x ≠ 566 → qR (putR h 566 6 v) x j = qR h x j := fun x j z1 => p.2.2.2.2.2.2 x j z1
  refine ⟨?_, ⟨t1.lr p (by omega), t2.lr p (by omega), t3.lr p (by omega)⟩, ⟨k1.lr p (by omega), k2.lr p (by omega)⟩, ⟨u1.lrr p (by omega), u2.lrr p (by omega)⟩, ⟨p.ok.mpr c1, by rw [qR_pR, if_neg (by decide)]; exact c2, by rw [qR_pR, if_neg (by decide)]; exact c3, p.ok.mpr c4, by rw [p.2.2.1]; exact c5, c6.lr p (by omega)⟩, ⟨p.ok.mpr p1, by rw [p.2.2.1]; exact p2, fun c hc => ?_⟩, ⟨p.ok.mpr g.1, by rw [p.2.2.1]; exact g.2⟩, m.lr p (by omega), ⟨p.ok.mpr o.1, by rw [p.2.2.1]; exact o.2⟩⟩
  · simp only [p.ok, rr 1 _ (by decide)]
    exact h1
  · obtain ⟨q1, q2, q3, q4, q5, q6, q7, q8, q9⟩ := p3 c hc
    refine ⟨by rw [rr _ _ (by decide)]; exact q1, p.ok.mpr q2, by rw [rr _ _ (by omega)]; exact q3, by rw [rr _ _ (by omega)]; exact q4, p.ok.mpr q5, by rw [p.2.2.1]; exact q6, p.ok.mpr q7, by rw [p.2.2.1]; exact q8, fun z hz => ⟨by rw [rr _ _ (by omega)]; exact (q9 z hz).1, (q9 z hz).2.lr p (by omega)⟩⟩
/-- what a run writes -/
def pRn (x j : Nat) : Prop := (210 ≤ x ∧ x ≤ 357) ∨ (x = 566 ∧ (j = 1 ∨ j = 2 ∨ j = 3 ∨ j = 4 ∨ j = 5)) ∨ (568 ≤ x ∧ x ≤ 575)
theorem CR.ex {h h2 : Hp} {R : Rst} {e : Int} (w : WR R) (c : CR h R) (s2 : SL h2) (p : Lr 566 h h2) (f : ∀ x j, ¬ pRn x j → qI h2 x j = qI h x j) (e1 : qI h2 566 1 = iN 0) (e4 : qI h2 566 4 = iN e) : CR h2 (exR R e) := by
  unfold pRn at f
  obtain ⟨c0, c1, ⟨c2, c3, c4⟩, c5⟩ := c
  refine ⟨(f _ _ (by omega)).trans c0, fun z => (c1 z).lr (w.1 z).1.2.2.2.2.2 s2.2.1.2.2 (fun j => p.2.2.2.2.2.2 _ _ (by omega)) (fun x j x1 _ => f x j (by omega)), ⟨e1, e4, fun k k1 k2 => by have : k < 0 := k2; omega⟩, fun c hc => ?_⟩
  obtain ⟨d0, d1, d2, d3, d4⟩ := c5 c hc
  exact ⟨(f _ _ (by omega)).trans d0, fun z => (f _ _ (by omega)).trans (d1 z), (f _ _ (by omega)).trans d2, fun k k1 k2 => (f _ _ (by omega)).trans (d3 k k1 k2), fun p p1 p2 p3 => (d4 p p1 p2 p3).cg (fun x j x1 x2 _ => f x j (by omega))⟩
def exC2 (h : Hp) (D : Dt) (k : Int) (r : Int ⊕ (Int → Int)) (x : Option (Rs Int32)) : Prop := match r with
  | .inl e => (-1 ≤ e ∧ e ≤ 60) ∧ COp h (D.1, exR D.2 e) x 2 (Int32.toInt64 (iN 0))
  | .inr n => WF n ∧ COp h (n, exR D.2 (-1)) x 0 (Int32.toInt64 (iN k))
def exC (h : Hp) (D : Dt) (r : Int ⊕ List (Int × Eff)) (x : Option (Rs Int32)) : Prop := match r with
  | .inl e => (-1 ≤ e ∧ e ≤ 60) ∧ COp h (D.1, exR D.2 e) x 1 (Int32.toInt64 (iN 0))
  | .inr l => exC2 h D l.length (exF l D.1) x
theorem COp.th {h h2 : Hp} {D2 : Dt} {k : Int} {v : Int64} (hk : k ≠ 0) (s : SL h2) (c : CI h2 D2) (f : ∀ x j, 632 ≤ x → qI h2 x j = qI h x j) (e1 : qC h2 = qC h) (e2 : qS h2 = qS h) : COp h D2 (some (bump h2, .inr (iN k))) k v := ⟨bump h2, rfl, s.q (Lq.b h2), c.q (Lq.b h2), f, fun z => absurd z hk, by show qC h2 + 1 ≤ _; omega, by show qS h2 + 6 ≤ _; omega⟩
theorem c_exec {h : Hp} {D : Dt} (wd : WD D) (s : SL h) (c : CI h D) : exC h D (exA (rB D.2) (rL D.2) D.1) (f_L_execute h 1 656) := by
  have w := wd.1
  have tx : TXo (rB D.2) (rL D.2) := ⟨wd.2.2.1, wd.2.2.2.2.1⟩
  have hL := tx.1
  obtain ⟨ha, ea, fa, ta⟩ := g_copyT w (T := 210) (To := 2) (h := h) (by omega) s.2.1.2.1 c.1.1
  have sa := s.ly fa.1
  have sp : SL (putR ha 566 6 210) := sa.p6
  have lp : Lr 566 ha (putR ha 566 6 210) := Lr.pR
  have eL : qI (putR ha 566 6 210) 566 1 = iN (rL D.2) := (fa.2 _ _ (by omega)).trans c.2.2.2.1.1
  generalize eb : putI (putI (putI (putI (putR ha 566 6 210) 566 2 (iN (rL D.2))) 566 1 (iN 0)) 566 3 (iN 0)) 566 5 (iN (-1)) = hb
  have fb : FZ (fun x j => x = 566 ∧ (j = 1 ∨ j = 2 ∨ j = 3 ∨ j = 5)) (putR ha 566 6 210) hb := by
    rw [← eb]
    exact (((FZ.pI ⟨rfl, (by omega)⟩).tr (FZ.pI ⟨rfl, (by omega)⟩)).tr (FZ.pI ⟨rfl, (by omega)⟩)).tr (FZ.pI ⟨rfl, (by omega)⟩)
  have sb := sp.ly fb.1
  have tb : TM hb 210 D.1 := (ta.lr w.1.2.2.2.2.2 sp.2.1.2.1 (fun j => lp.2.2.2.2.2.2 _ _ (by decide)) (fun _ _ _ _ => rfl)).fz w.1.2.2.2.2.2 fb (fun x j x1 x2 => by omega)
  have b1 : qI hb 566 1 = iN 0 := by
    rw [← eb]
    exact (rd_nk (by decide)).trans ((rd_nk (by decide)).trans rd_eq)
  have g5 : G5 hb (rB D.2) (rL D.2) 0 D.1 (-1) := by
    refine ⟨⟨sb, ?_, ?_, ?_, ?_⟩, tb, ?_⟩
    · rw [fb.1.2.2.2.1, qR_pR, if_pos ⟨rfl, rfl⟩]
    · rw [← eb]
      exact (rd_nk (by decide)).trans ((rd_nk (by decide)).trans ((rd_nk (by decide)).trans rd_eq))
    · rw [← eb]
      exact (rd_nk (by decide)).trans rd_eq
    · exact fun k k0 k1 => (fb.2 _ _ (by omega)).trans ((fa.2 _ _ (by omega)).trans (c.2.2.2.1.2.2 k k0 k1))
    · rw [← eb]
      exact rd_eq
  have er : f_X5_run ha 566 210 = bnd (f_X5_readCommand hb 566) fun h4 _ => f_X5_run_L34 2000 h4 566 (iN 0 + iN 1) := by
    unfold f_X5_run
    rw [chk_pos sa.o8, chk_pos sa.2.1.2.1.o, lt_is, lt_is, lt_is, lt_is, lt_is, eL, eb]
    rfl
  have run := c_run tx w.1.1 61 hb 0 (-1) 0 D.1 2000 (by omega) (by omega) (by omega) (by omega) (by omega) (by omega) g5 w rfl (by omega) (by omega)
  have pure := cmds_bd (K := D.1 0) tx w.1.1 61 0 (by omega) (by omega) (by omega)
  have e0 : f_L_execute h 1 656 = bndX (bnd (f_X5_run ha 566 210) fun h9 r10 => chk (okr h9 1 8) (chk (okr h9 (qR h9 1 8) 5) (if 0 ≤ qI h9 (qR h9 1 8) 4 then f_X8_execute_L38 h9 1 r10 (iN 0) else f_X8_execute_L38 h9 1 r10 (iN 1)))) (fun h2 r3 => ansL h2 r3) (fun h2 k => if k = 1 then some (h2, .inr (iN 1)) else if k = 0 then some (h2, .inr (iN 2)) else none) := by
    unfold f_L_execute f_X8_execute
    rw [chk_pos s.o1, chk_pos s.o1, s.t3, chk_pos s.2.1.2.1.o, s.t0, chk_pos c.1.1.1.o, ea, bnd_ret, chk_pos sa.o1, sa.t8, chk_pos sa.o8, sa.t3, chk_pos sa.2.1.2.1.o]
  rw [e0, er]
  have fin : ∀ h2, FZ pT5 hb h2 → SL h2 ∧ Lr 566 h h2 ∧ (∀ x j, ¬ pRn x j → qI h2 x j = qI h x j) ∧ qI h2 566 1 = iN 0 ∧ qC h2 = qC h ∧ qS h2 = qS h := fun h2 f2 => by
    refine ⟨sb.ly f2.1, ?_, fun x j y => ?_, ?_, ?_, ?_⟩
    · exact ((Lr.ly fa.1).tr lp).tr ((Lr.ly fb.1).tr (Lr.ly f2.1))
    · unfold pRn at y
      exact (f2.2 _ _ (by unfold pT5; omega)).trans ((fb.2 _ _ (by omega)).trans (fa.2 _ _ (by omega)))
    · exact (f2.2 _ _ (by unfold pT5; omega)).trans b1
    · exact f2.qc.1.trans (fb.qc.1.trans fa.qc.1)
    · exact f2.qc.2.trans (fb.qc.2.trans fa.qc.2)
  have ci : ∀ h2 e, FZ pT5 hb h2 → qI h2 566 4 = iN e → CI h2 (D.1, exR D.2 e) := fun h2 e f2 e4 => by
    obtain ⟨s2, l2, q2, i1, _⟩ := fin h2 f2
    have q3 : ∀ x j, x < 210 → qI h2 x j = qI h x j := fun x j hx => q2 x j (by unfold pRn; omega)
    exact ⟨⟨c.1.1.lr w.1.2.2.2.2.2 s2.2.1.1 (fun j => l2.2.2.2.2.2.2 _ _ (by decide)) (fun x j x1 x2 => q3 x j (by omega)), (c.1.2.1.fz (mix_fz (P := fun x _ => 210 ≤ x) (fun x j y => q3 x j (by omega))) (fun x j x1 x2 => by omega)).mix, (c.1.2.2.fz (mix_fz (P := fun x _ => 210 ≤ x) (fun x j y => q3 x j (by omega))) (fun x j x1 x2 => by omega)).mix⟩, c.2.ex wd.2 s2 l2 q2 i1 e4⟩
  have up : ∀ h2, FZ pT5 hb h2 → ∀ x j, 632 ≤ x → qI h2 x j = qI h x j := fun h2 f2 x j hx => (fin h2 f2).2.2.1 x j (by unfold pRn; omega)
  unfold exA
  match ex : cmds (D.1 0) (rB D.2) (rL D.2) 61 0 with
  | .inl e =>
    rw [ex] at run
    obtain ⟨h2, e2, f2, q4⟩ := run
    have eb := pure.1 e ex
    obtain ⟨s2, l2, q2, i1, c1, c2⟩ := fin h2 f2
    rw [e2, bnd_thr, bndX_thr, if_pos rfl]
    exact ⟨⟨(by omega), (by omega)⟩, COp.th (by decide) s2 (ci h2 e f2 q4) (up h2 f2) c1 c2⟩
  | .inr l =>
    rw [ex] at run
    obtain ⟨h2, e2, f2, t2, q4, w2, b2⟩ := run
    obtain ⟨s2, l2, q2, i1, c1, c2⟩ := fin h2 f2
    have lk := clF_ex l D.1 (fun x hx => pure.2 l ex x hx)
    rw [e2, bnd_ret, chk_pos s2.o1, s2.t8, chk_pos s2.o8, q4]
    show exC2 h D l.length (exF l D.1) _
    match ef : exF l D.1 with
    | .inl e =>
      obtain ⟨k1, k2⟩ := lk.2 e ef
      rw [k1] at q4 b2 ⊢
      rw [if_pos (show (0 : Int32) ≤ iN e from yleN (a := 0) k2 (by omega) (by omega))]
      unfold f_X8_execute_L38 f_X8_requireState
      rw [if_pos (show iN 0 = 0 from rfl), bnd_thr, bndX_thr, if_neg (by decide), if_pos rfl]
      exact ⟨b2, COp.th (by decide) s2 (ci h2 e f2 q4) (up h2 f2) c1 c2⟩
    | .inr n =>
      have k1 := lk.1 n ef
      rw [k1] at q4 t2 w2 ⊢
      have w2' : WF n := w2
      have t2' : TM h2 210 n := t2
      obtain ⟨h3, e3, f3, t3⟩ := g_copyT w2' (T := 2) (To := 210) (h := h2) (by omega) s2.2.1.1 t2'
      have c3 : CI h2 (D.1, exR D.2 (-1)) := ci h2 (-1) f2 q4
      have wr : WR (exR D.2 (-1)) := exR_w wd.2 ⟨(by omega), (by omega)⟩
      have md : Mid h2 h3 (exR D.2 (-1)) n := Mid.of (D := (D.1, exR D.2 (-1))) ⟨w, wr⟩ s2 c3 (f3.mo (fun x j y => by omega)) t3
      obtain ⟨h4, e4, fn, fc⟩ := md.fin w2' wr
      rw [if_neg (show ¬ (0 : Int32) ≤ iN (-1) by decide)]
      unfold f_X8_execute_L38 f_X8_requireState
      rw [if_neg (show ¬ iN 1 = 0 by decide), bnd_ret, chk_pos s2.o1, s2.t0, chk_pos s2.2.1.1.o, s2.t3, chk_pos s2.2.1.2.1.o, e3, bnd_ret, chk_pos md.1.o1, e4, bnd_ret, bndX_ret, Int.zero_add]
      exact ⟨w2', COp.ret fn.1 fn.2.1 (fun x j hx => (fn.2.2.1 x j hx).trans (up h2 f2 x j hx)) (by rw [fn.2.2.2.1, c1]; omega) (by rw [fn.2.2.2.2, c2]; omega)⟩
theorem o_execute {h : Hp} {D : Dt} (wd : WD D) (s : SL h) (c : CI h D) : OpP h D (f_L_execute h 1 656) (fun h1 => f_X9_execute h1 632) := by
  have a := c_exec wd s c
  have b := fun h1 (s1 : SL h1) (r1 : RI h1 D) => r_exec wd s1 r1
  match ex : exA (rB D.2) (rL D.2) D.1 with
  | .inl e =>
    rw [ex] at a b
    exact ⟨1, 0, (D.1, exR D.2 e), (by omega), ⟨wd.1, exR_w wd.2 a.1⟩, a.2, fun h1 s1 r1 => b h1 s1 r1⟩
  | .inr l =>
    rw [ex] at a b
    have a2 : exC2 h D l.length (exF l D.1) (f_L_execute h 1 656) := a
    have b2 : ∀ h1 (s1 : SL h1) (r1 : RI h1 D), exX2 h1 D l.length (exF l D.1) (f_X9_execute h1 632) := b
    match ef : exF l D.1 with
    | .inl e =>
      rw [ef] at a2 b2
      exact ⟨2, 0, (D.1, exR D.2 e), (by omega), ⟨wd.1, exR_w wd.2 a2.1⟩, a2.2, fun h1 s1 r1 => b2 h1 s1 r1⟩
    | .inr n =>
      rw [ef] at a2 b2
      exact ⟨0, l.length, (n, exR D.2 (-1)), (by omega), ⟨a2.1, exR_w wd.2 ⟨(by omega), (by omega)⟩⟩, a2.2, fun h1 s1 r1 => b2 h1 s1 r1⟩
