/-! ===== STAGE B: a table copied; save, restore ===== -/
theorem g_cpCell {h : Hp} {a ao : Nat} {b : Int → Int} (o : okr h a 1) (r3 : qR h a 3 = a + 1) (l : LC h (a + 1)) (oo : okr h ao 1) (ro : qR h ao 3 = ao + 1) (lo : LC h (ao + 1)) (c : CC h ao b) (wb : WB b) (hd : a + 8 < ao ∨ ao + 8 < a) : ∃ h2, f_X1_copyFrom h a ao = some (h2, .inr ()) ∧ FZ (fun x _ => a ≤ x ∧ x ≤ a + 8) h h2 ∧ CC h2 a b := by
  have e1 : qI (putI h a 0 (iN (b 0))) ao 1 = iN (b 1) := by rw [rd_ne (by omega)]; exact c.1.2.1
  have e2 : qI (putI (putI h a 0 (iN (b 0))) a 1 (iN (b 1))) ao 2 = iN (b 2) := by rw [rd_ne (by omega), rd_ne (by omega)]; exact c.1.2.2
  have ly : Ly h (putI (putI (putI h a 0 (iN (b 0))) a 1 (iN (b 1))) a 2 (iN (b 2))) := (Ly.pI.tr Ly.pI).tr Ly.pI
  have co : HC (putI (putI (putI h a 0 (iN (b 0))) a 1 (iN (b 1))) a 2 (iN (b 2))) (ao + 1) b := c.2.cg (fun x j x1 x2 _ => by rw [rd_ne (by omega), rd_ne (by omega), rd_ne (by omega)])
  obtain ⟨h2, e3, f3, c3⟩ := g_copyC (q := a + 1) (qo := ao + 1) (by omega) wb (l.ly ly) (lo.ly ly) co
  have ne : ∀ j, qI h2 a j = qI (putI (putI (putI h a 0 (iN (b 0))) a 1 (iN (b 1))) a 2 (iN (b 2))) a j := fun j => f3.2 _ _ (fun z => by unfold pK at z; omega)
  refine ⟨h2, ?_, (((FZ.pI (by omega)).tr (FZ.pI (by omega))).tr (FZ.pI (by omega))).tr (f3.mo (fun x j z => by unfold pK at z; omega)), ⟨?_, ?_, ?_⟩, c3⟩
  · unfold f_X1_copyFrom
    rw [chk_pos oo, chk_pos o, c.1.1, lt_is, e1, lt_is, e2, lt_is, show qR (putI (putI (putI h a 0 (iN (b 0))) a 1 (iN (b 1))) a 2 (iN (b 2))) a 3 = a + 1 from r3, chk_pos (l.ly ly).1, show qR (putI (putI (putI h a 0 (iN (b 0))) a 1 (iN (b 1))) a 2 (iN (b 2))) ao 3 = ao + 1 from ro, chk_pos (lo.ly ly).1, e3, bnd_ret]
  · rw [ne, rd_nk (by decide), rd_nk (by decide), rd_eq]
  · rw [ne, rd_nk (by decide), rd_eq]
  · rw [ne, rd_eq]
theorem g_cp87 {T To : Nat} {m : Int → Int} (w : WF m) (hT : T + 148 ≤ To ∨ To + 148 ≤ T) : ∀ (d k : Nat) (h : Hp) (n : Nat), (k : Int) + d = m 5 → d < n → LTb h T → TM h To m → qI h T 5 = iN (m 5) → (∀ i, 0 ≤ i → i < (k : Int) → CC h (cA h T i) (blk m i)) →
    ∃ h2, f_X7_copyFrom_L87 n h T To (iN k) = some (h2, .inr ()) ∧ FZ (fun x _ => T + 4 ≤ x ∧ x < T + 148) h h2 ∧ ∀ i, 0 ≤ i → i < m 5 → CC h2 (cA h2 T i) (blk m i) := by
  have h16 := w.1.2.2.2.2.2
  intro d
  induction d with
  | zero =>
    intro k h n hk hn l to n5 C
    obtain ⟨n, rfl⟩ : ∃ z, n = z + 1 := ⟨n - 1, by omega⟩
    refine ⟨h, ?_, FZ.rf, fun i h1 h2 => C i h1 (by omega)⟩
    show f_X7_copyFrom_B87 (f_X7_copyFrom_L87 n) h T To (iN k) = _
    unfold f_X7_copyFrom_B87
    rw [chk_pos l.o, n5, if_pos (yleN (by omega) (by omega) (by omega))]
  | succ d ih =>
    intro k h n hk hn l to n5 C
    obtain ⟨n, rfl⟩ : ∃ z, n = z + 1 := ⟨n - 1, by omega⟩
    have hk2 : 0 ≤ (k : Int) ∧ (k : Int) < 16 := by omega
    obtain ⟨z1, hz1, ez1⟩ := l.at hk2
    obtain ⟨z2, hz2, ez2⟩ := to.1.at hk2
    obtain ⟨h2, e2, f2, c2⟩ := g_cpCell (l.co hk2) (l.cr hk2) (l.cl hk2) (to.1.co hk2) (to.1.cr hk2) (to.1.cl hk2) (to.cc (i := (k : Int)) (by omega) (by omega)) (w.2.2.1 k (by omega) (by omega)).2 (by omega)
    have l2 := l.ly f2.1
    obtain ⟨h4, e4, f4, c4⟩ := ih (k + 1) h2 n (by omega) (by omega) l2 (to.fz h16 f2 (fun x j x1 x2 x3 => by omega)) ((f2.2 _ _ (by omega)).trans n5) (fun i h1 hi => by
      rw [cA_ly f2.1]
      by_cases e : i = k
      · rw [e]; exact c2
      · obtain ⟨z3, hz3, ez3⟩ := l.at (i := i) (by omega)
        have hne : z3 ≠ z1 := fun y => e (l.inj (i := i) (j := k) (by omega) (by omega) (by rw [ez3, ez1, y]))
        exact (C i h1 (by omega)).cg (fun x j x1 x2 _ => f2.2 x j (by omega)))
    refine ⟨h4, ?_, (f2.mo (fun x j y => by omega)).tr f4, c4⟩
    show f_X7_copyFrom_B87 (f_X7_copyFrom_L87 n) h T To (iN k) = _
    unfold f_X7_copyFrom_B87
    rw [chk_pos l.o, n5, if_neg (nleN (by omega) (by omega) (by omega)), l.r8, chk_pos l.o3, l.w3, ck_in (by omega) (by omega) (by omega), cA_eq (by omega) (by omega), chk_pos (l.co hk2), chk_pos to.1.o, to.1.r8, chk_pos to.1.o3, to.1.w3, ck_in (by omega) (by omega) (by omega), cA_eq (by omega) (by omega), chk_pos (to.1.co hk2), e2, bnd_ret, iN_add]
    exact e4
theorem g_cp50 {T To : Nat} {m : Int → Int} (w : WF m) (hT : T + 148 ≤ To ∨ To + 148 ≤ T) : ∀ (d k : Nat) (h : Hp) (n : Nat), k + d = 4 → d < n → LTb h T → TM h To m → qI h T 5 = iN (m 5) → AR h (T + 1) k (fun c => tyS (m (6 + c))) → AR h (T + 2) k (fun c => vaS (m (6 + c))) →
    ∃ h2, f_X7_copyFrom_L50 n h T To (iN k) = some (h2, .inr ()) ∧ FZ (fun x _ => T < x ∧ x < T + 148) h h2 ∧ AR h2 (T + 1) 4 (fun c => tyS (m (6 + c))) ∧ AR h2 (T + 2) 4 (fun c => vaS (m (6 + c))) ∧ ∀ i, 0 ≤ i → i < m 5 → CC h2 (cA h2 T i) (blk m i) := by
  have h16 := w.1.2.2.2.2.2
  intro d
  induction d with
  | zero =>
    intro k h n hk hn l to n5 A B
    obtain ⟨n, rfl⟩ : ∃ z, n = z + 1 := ⟨n - 1, by omega⟩
    obtain rfl : k = 4 := by omega
    obtain ⟨h2, e2, f2, c2⟩ := g_cp87 w hT (m 5).toNat 0 h 2000 (by omega) (by omega) l to n5 (fun i h1 h2 => by omega)
    refine ⟨h2, ?_, f2.mo (fun x j y => by omega), A.fz f2 (fun j => by omega), B.fz f2 (fun j => by omega), c2⟩
    show f_X7_copyFrom_B50 (f_X7_copyFrom_L50 n) h T To (iN ((4 : Nat) : Int)) = _
    unfold f_X7_copyFrom_B50
    rw [if_pos (yleN (by omega) (by omega) (by omega))]
    exact e2
  | succ d ih =>
    intro k h n hk hn l to n5 A B
    obtain ⟨n, rfl⟩ : ∃ z, n = z + 1 := ⟨n - 1, by omega⟩
    have f1 : FZ (fun x _ => x = T + 1 ∨ x = T + 2) h (putI h (T + 1) (k : Int).toNat (iN (tyS (m (6 + (k : Int)))))) := FZ.pI (Or.inl rfl)
    have f2 : FZ (fun x _ => x = T + 1 ∨ x = T + 2) h (putI (putI h (T + 1) (k : Int).toNat (iN (tyS (m (6 + (k : Int)))))) (T + 2) (k : Int).toNat (iN (vaS (m (6 + (k : Int)))))) := f1.tr (FZ.pI (Or.inr rfl))
    have l1 := l.ly f1.1
    have to1 := to.fz h16 f1 (fun x j x1 x2 x3 => by omega)
    obtain ⟨h4, e4, f4, a4, b4, c4⟩ := ih (k + 1) _ n (by omega) (by omega) (l.ly f2.1) (to.fz h16 f2 (fun x j x1 x2 x3 => by omega)) ((f2.2 _ _ (by omega)).trans n5) ((A.sn (by omega)).ne (by omega)) ((B.ne (by omega)).sn (by omega))
    refine ⟨h4, ?_, (f2.mo (fun x j y => by omega)).tr f4, a4, b4, c4⟩
    show f_X7_copyFrom_B50 (f_X7_copyFrom_L50 n) h T To (iN k) = _
    unfold f_X7_copyFrom_B50
    rw [if_neg (nleN (by omega) (by omega) (by omega)), chk_pos l.o, l.r6, chk_pos l.o1, chk_pos to.1.o, to.1.r6, chk_pos to.1.o1, to.1.w1, ck_in (by omega) (by omega) (by omega), l.w1, ck_in (by omega) (by omega) (by omega), lt_is, iN_cl (z := (k : Int)) (by omega) (by omega), show qI h (To + 1) (k : Int).toNat = iN (tyS (m (6 + (k : Int)))) from to.ty k (by omega) (by omega), l1.r7, chk_pos l1.o2, to1.1.r7, chk_pos to1.1.o2, to1.1.w2, ck_in (by omega) (by omega) (by omega), l1.w2, ck_in (by omega) (by omega) (by omega), lt_is, show qI (putI h (T + 1) (k : Int).toNat (iN (tyS (m (6 + (k : Int)))))) (To + 2) (k : Int).toNat = iN (vaS (m (6 + (k : Int)))) from to1.va k (by omega) (by omega), iN_add]
    exact e4
theorem g_copyT {h : Hp} {T To : Nat} {m : Int → Int} (w : WF m) (hT : T + 148 ≤ To ∨ To + 148 ≤ T) (l : LTb h T) (to : TM h To m) : ∃ h2, f_X7_copyFrom h T To = some (h2, .inr ()) ∧ FZ (fun x _ => T ≤ x ∧ x < T + 148) h h2 ∧ TM h2 T m := by
  have f0 : FZ (fun x _ => x = T) h (putI (putI (putI (putI (putI (putI h T 0 (iN (m 1))) T 1 (iN (m 2))) T 2 (iN (m 3))) T 3 (iN (m 0))) T 4 (iN (m 4))) T 5 (iN (m 5))) := (((((FZ.pI (P := fun x _ => x = T) rfl).tr (FZ.pI rfl)).tr (FZ.pI rfl)).tr (FZ.pI rfl)).tr (FZ.pI rfl)).tr (FZ.pI rfl)
  obtain ⟨h2, e2, f2, a2, b2, c2⟩ := g_cp50 w hT 4 0 _ 2000 (by omega) (by omega) (l.ly f0.1) (to.fz w.1.2.2.2.2.2 f0 (fun x j x1 x2 x3 => by omega)) rd_eq (fun k h1 h2 => by omega) (fun k h1 h2 => by omega)
  have rd : ∀ j, qI h2 T j = qI (putI (putI (putI (putI (putI (putI h T 0 (iN (m 1))) T 1 (iN (m 2))) T 2 (iN (m 3))) T 3 (iN (m 0))) T 4 (iN (m 4))) T 5 (iN (m 5))) T j := fun j => f2.2 _ _ (by omega)
  refine ⟨h2, ?_, (f0.mo (fun x j y => by omega)).tr (f2.mo (fun x j y => by omega)), (l.ly f0.1).ly f2.1, ⟨?_, ?_, ?_, ?_, ?_, ?_⟩, a2, b2, c2⟩
  · have ne : ∀ {g : Hp} {k j : Nat} {v : Int32}, qI (putI g T k v) To j = qI g To j := rd_ne (by omega)
    unfold f_X7_copyFrom
    rw [chk_pos to.1.o, chk_pos l.o, to.wd, lt_is, ne, to.gp, lt_is, ne, ne, to.pd, lt_is, ne, ne, ne, to.cs, lt_is, ne, ne, ne, ne, to.rs, lt_is, ne, ne, ne, ne, ne, to.ns, lt_is]
    exact e2
  · rw [rd, rd_nk (by decide), rd_nk (by decide), rd_nk (by decide), rd_nk (by decide), rd_nk (by decide), rd_eq]
  · rw [rd, rd_nk (by decide), rd_nk (by decide), rd_nk (by decide), rd_nk (by decide), rd_eq]
  · rw [rd, rd_nk (by decide), rd_nk (by decide), rd_nk (by decide), rd_eq]
  · rw [rd, rd_nk (by decide), rd_nk (by decide), rd_eq]
  · rw [rd, rd_nk (by decide), rd_eq]
  · rw [rd, rd_eq]
/-- the table is saved -/
def svR (R : Rst) (m : Int → Int) : Rst := (true, m, rB R, rL R, rE R, rK R, rZ R, rF R, rC R)
theorem g_svL9 {m : Int → Int} (w : WF m) : ∀ (d k : Nat) (h : Hp) (n : Nat), k + d = 506 → d < n → RM h 632 m → AR h 634 k m →
    ∃ h2, f_X9_save_L7 n h 632 (iN k) = some (h2, .inr (iN (m 5))) ∧ FZ (fun x j => (x = 632 ∧ j = 4) ∨ x = 634) h h2 ∧ AR h2 634 506 m ∧ qI h2 632 4 = iN 1 := by
  intro d
  induction d with
  | zero =>
    intro k h n hk hn r A
    obtain ⟨n, rfl⟩ : ∃ z, n = z + 1 := ⟨n - 1, by omega⟩
    have r2 : RM (putI h 632 4 (iN 1)) 632 m := ⟨r.1.ly Ly.pI, r.2.ne (by omega)⟩
    refine ⟨putI h 632 4 (iN 1), ?_, FZ.pI (by omega), (show AR (putI h 632 4 (iN 1)) 634 506 m by rw [show (506 : Int) = k by omega]; exact A.ne (by omega)), rd_eq⟩
    show f_X9_save_B7 (f_X9_save_L7 n) h 632 (iN k) = _
    unfold f_X9_save_B7
    rw [if_pos (yleN (by omega) (by omega) (by omega)), chk_pos r.1.1, lt_is, r2.1.r1, chk_pos r2.1.o1, r2.1.w1, ck_in (by omega) (by omega) (by omega), g_rd r2 (by omega) (by omega)]
  | succ d ih =>
    intro k h n hk hn r A
    obtain ⟨n, rfl⟩ : ∃ z, n = z + 1 := ⟨n - 1, by omega⟩
    obtain ⟨h4, e4, f4, a4, q4⟩ := ih (k + 1) (putI h 634 (k : Int).toNat (iN (m k))) n (by omega) (by omega) ⟨r.1.ly Ly.pI, r.2.ne (by omega)⟩ (A.sn (by omega))
    refine ⟨h4, ?_, (FZ.pI (by omega)).tr f4, a4, q4⟩
    show f_X9_save_B7 (f_X9_save_L7 n) h 632 (iN k) = _
    unfold f_X9_save_B7
    rw [if_neg (nleN (by omega) (by omega) (by omega)), chk_pos r.1.1, r.1.r2, chk_pos r.1.o2, r.1.r1, chk_pos r.1.o1, r.1.w1, ck_in (by omega) (by omega) (by omega), r.1.w2, ck_in (by omega) (by omega) (by omega), lt_is, g_rd r (by omega) (by omega), iN_cl (by omega) (by omega), iN_add]
    exact e4
theorem o_save {h : Hp} {D : Dt} (wd : WD D) (s : SL h) (c : CI h D) : OpD h D (f_X8_save h 1) (fun h1 => f_X9_save h1 632) := by
  have w := wd.1
  have t := c.1.1
  obtain ⟨h2, e2, f2, t2⟩ := g_copyT (T := 418) w (Or.inr (by omega)) s.2.1.2.2 t
  have s2 := s.ly f2.1
  have tm : TM (putI h2 1 7 (iN 1)) 2 D.1 := (t.fz w.1.2.2.2.2.2 f2 (fun x j x1 x2 x3 => by omega)).fz w.1.2.2.2.2.2 (FZ.pI (P := fun x _ => x = 1) rfl) (fun x j x1 x2 x3 => by omega)
  have ff : FZ (fun x j => (x = 1 ∧ j = 7) ∨ (418 ≤ x ∧ x < 566)) h (putI h2 1 7 (iN 1)) := (f2.mo (fun x j y => by omega)).tr (FZ.pI (by omega))
  obtain ⟨c0, c1, ⟨c2, c3, c4⟩, c5⟩ := c.2
  have cr : CR (putI h2 1 7 (iN 1)) (svR D.2 D.1) := by
    refine ⟨?_, fun _ => t2.fz w.1.2.2.2.2.2 (FZ.pI (P := fun x _ => x = 1) rfl) (fun x j x1 x2 x3 => by omega), ⟨(ff.2 _ _ (by omega)).trans c2, (ff.2 _ _ (by omega)).trans c3, c4.fz ff (fun j => by omega)⟩, fun c hc => (c5 c hc).fz ff (fun x j x1 x2 => by omega)⟩
    rw [rd_eq]
    exact (if_pos rfl).symm
  have wr : WR (svR D.2 D.1) := ⟨fun _ => w, wd.2.2⟩
  refine ⟨iN (D.1 5), (D.1, svR D.2 D.1), ⟨w, wr⟩, ⟨putI h2 1 7 (iN 1), ?_, s2.pI, ⟨c.1.fz w.1.2.2.2.2.2 ff (fun x j x1 x2 => by omega), cr⟩, fun x j z => ff.2 x j (by omega), by rw [ff.qc.1]; omega, by rw [ff.qc.2]; omega⟩, fun h1 s1 r1 => ?_⟩
  · unfold f_X8_save
    rw [chk_pos s.o1, s.t6, chk_pos s.2.1.2.2.o, s.t0, chk_pos t.1.o, e2, bnd_ret, chk_pos s2.o1, lt_is, s2.pI.t0, chk_pos tm.1.o, tm.ns]
  · obtain ⟨s0, r0, rm⟩ := ref0 s1 r1
    obtain ⟨h4, e4, f4, a4, q4⟩ := g_svL9 w 506 0 (putI h1 632 0 (iN 0)) 2000 (by omega) (by omega) rm (fun k h1 h2 => by omega)
    refine ⟨h4, ?_, FZ.r0.tr (f4.mo (fun x j y => by omega)), r0.1.fz f4 (fun j => by omega), ⟨?_, fun _ => a4, ⟨(f4.2 _ _ (by omega)).trans r0.2.2.2.1.1, (f4.2 _ _ (by omega)).trans r0.2.2.2.1.2.1, r0.2.2.2.1.2.2.fz f4 (fun j => by omega)⟩, r0.2.2.2.2.1.fz f4 (fun j => by omega), r0.2.2.2.2.2.1.fz f4 (fun j => by omega), r0.2.2.2.2.2.2.1.fz f4 (fun j => by omega), r0.2.2.2.2.2.2.2.fz f4 (fun j => by omega)⟩⟩
    · show f_X9_save h1 632 = _
      unfold f_X9_save
      rw [chk_pos s1.m.1, lt_is]
      exact e4
    · rw [q4]
      exact (if_pos rfl).symm
theorem g_reL9 {m V : Int → Int} (w : WF V) : ∀ (d k : Nat) (h : Hp) (n : Nat), k + d = 506 → d < n → AR h 634 506 V → RM h 632 (fun j => if j < k then V j else m j) →
    ∃ h2, f_X9_restore_L20 n h 632 (iN k) = some (h2, .inr (iN (V 5))) ∧ FZ (fun x _ => x = 633) h h2 ∧ RM h2 632 V := by
  intro d
  induction d with
  | zero =>
    intro k h n hk hn A r
    obtain ⟨n, rfl⟩ : ∃ z, n = z + 1 := ⟨n - 1, by omega⟩
    have r2 : RM h 632 V := ⟨r.1, r.2.cg (fun j h1 h2 => if_pos (by omega))⟩
    refine ⟨h, ?_, FZ.rf, r2⟩
    show f_X9_restore_B20 (f_X9_restore_L20 n) h 632 (iN k) = _
    unfold f_X9_restore_B20
    rw [if_pos (yleN (by omega) (by omega) (by omega)), chk_pos r.1.1, r.1.r1, chk_pos r.1.o1, r.1.w1, ck_in (by omega) (by omega) (by omega), g_rd r2 (by omega) (by omega)]
  | succ d ih =>
    intro k h n hk hn A r
    obtain ⟨n, rfl⟩ : ∃ z, n = z + 1 := ⟨n - 1, by omega⟩
    have r1 := r.up (k := (k : Int)) (v := V k) (by omega)
    obtain ⟨h4, e4, f4, r4⟩ := ih (k + 1) _ n (by omega) (by omega) (A.ne (by omega)) ⟨r1.1, r1.2.cg (fun j h1 h2 => by
      unfold up
      dsimp only
      by_cases e : j = k
      · rw [if_pos e, if_pos (by omega), e]
      · rw [if_neg e]
        by_cases e2 : j < k
        · rw [if_pos e2, if_pos (by omega)]
        · rw [if_neg e2, if_neg (by omega)])⟩
    refine ⟨h4, ?_, (FZ.pI (P := fun x _ => x = 633) rfl).tr f4, r4⟩
    show f_X9_restore_B20 (f_X9_restore_L20 n) h 632 (iN k) = _
    unfold f_X9_restore_B20
    rw [if_neg (nleN (by omega) (by omega) (by omega)), chk_pos r.1.1, r.1.r1, chk_pos r.1.o1, r.1.r2, chk_pos r.1.o2, r.1.w2, ck_in (by omega) (by omega) (by omega), r.1.w1, ck_in (by omega) (by omega) (by omega), lt_is, iN_cl (by omega) (by omega), show qI h (632 + 2) (k : Int).toNat = iN (V k) from A k (by omega) (by omega), iN_add]
    exact e4
theorem o_restore {h : Hp} {D : Dt} (wd : WD D) (s : SL h) (c : CI h D) : OpP h D (f_L_restore h 1 656) (fun h1 => f_X9_restore h1 632) := by
  by_cases q : rH D.2 = true
  · have wv := wd.2.1 q
    have to := c.2.2.1 q
    obtain ⟨h2, e2, f2, t2⟩ := g_copyT (T := 2) wv (Or.inl (by omega)) s.2.1.1 to
    have md := Mid.of wd s c (f2.mo (fun x j y => by omega)) t2
    obtain ⟨h3, e3, fn, fc⟩ := md.fin wv wd.2
    have t3 : TM h3 2 (rV D.2) := fn.2.1.1.1
    refine OpP.M (rV D.2 5) wv wd fn ?_ (fun h1 s1 r1 s0 rm => ?_)
    · unfold f_L_restore f_X8_restore
      rw [chk_pos s.o1, chk_pos s.o1, c.2.1, g_rqS, if_pos q, bnd_ret, chk_pos s.o1, s.t0, chk_pos s.2.1.1.o, s.t6, chk_pos s.2.1.2.2.o, e2, bnd_ret, chk_pos md.1.o1, e3, bnd_ret, chk_pos fn.1.o1, fn.1.t0, chk_pos t3.1.o, t3.ns, bndX_ret]
    · have r0 := (ref0 s1 r1).2.1
      obtain ⟨h4, e4, f4, r4⟩ := g_reL9 (m := D.1) wv 506 0 (putI h1 632 0 (iN 0)) 2000 (by omega) (by omega) (r0.2.2.1 q) ⟨rm.1, rm.2.cg (fun j h1 h2 => by rw [if_neg (by omega)])⟩
      refine ⟨h4, ?_, f4.mo (fun x j z => Or.inl z), r4.2⟩
      unfold f_X9_restore
      rw [chk_pos s1.m.1, lt_is, r0.2.1, if_neg (fun z => bN0.mp z q)]
      exact e4
  · refine OpP.f0 1 (by omega) wd s c ?_ (fun h1 s1 r1 s0 rm => ?_)
    · unfold f_L_restore f_X8_restore
      rw [chk_pos s.o1, chk_pos s.o1, c.2.1, g_rqS, if_neg q, bnd_thr, bndX_thr, if_pos rfl]
    · have r0 := (ref0 s1 r1).2.1
      unfold f_X9_restore
      rw [chk_pos s1.m.1, lt_is, r0.2.1, if_pos (bN0.mpr q), g_fails s0, bnd_ret]
