/-! ===== STAGE B: calls that change the table: setColumns, setMeasure, setColumn, addRow ===== -/
/-- the class's table has changed, its measures not yet -/
def Mid (h h2 : Hp) (R : Rst) (n : Int → Int) : Prop := SL h2 ∧ TM h2 2 n ∧ CR h2 R ∧ (∀ x j, 632 ≤ x → qI h2 x j = qI h x j) ∧ qC h2 = qC h ∧ qS h2 = qS h
theorem Mid.of {h h2 : Hp} {D : Dt} {n : Int → Int} (wd : WD D) (s : SL h) (c : CI h D) (f : FZ (fun x _ => 2 ≤ x ∧ x ≤ 149) h h2) (t : TM h2 2 n) : Mid h h2 D.2 n := ⟨s.ly f.1, t, c.2.fz wd.2 f (fun x j z z2 => by omega), fun x j z => f.2 x j (fun z2 => by omega), f.qc.1, f.qc.2⟩
/-- measured and ready -/
def Fnd (h h3 : Hp) (D : Dt) : Prop := SL h3 ∧ CI h3 D ∧ (∀ x j, 632 ≤ x → qI h3 x j = qI h x j) ∧ qC h3 = qC h ∧ qS h3 = qS h
theorem Mid.fin {h h2 : Hp} {R : Rst} {n : Int → Int} (a : Mid h h2 R n) (w : WF n) (wr : WR R) : ∃ h3, f_X8_changed h2 1 = some (h3, .inr ()) ∧ Fnd h h3 (n, R) ∧ FZ (fun x _ => 150 ≤ x ∧ x ≤ 209) h2 h3 := by
  obtain ⟨s, t, c, f, q1, q2⟩ := a
  obtain ⟨h3, e3, f3, c3⟩ := g_changed w s t
  exact ⟨h3, e3, ⟨s.ly f3.1, ⟨c3, c.fz wr f3 (fun x j z z2 => by omega)⟩, fun x j z => (f3.2 x j (fun z2 => by omega)).trans (f x j z), f3.qc.1.trans q1, f3.qc.2.trans q2⟩, f3⟩
theorem OpP.M {h h3 : Hp} {D : Dt} {n : Int → Int} {x : Option (Rs Int32)} {y : Hp → Option (Rs Int32)} (v : Int) (w : WF n) (wd : WD D) (a : Fnd h h3 (n, D.2)) (ex : x = ansL h3 (iN v)) (ey : ∀ h1, SL h1 → RI h1 D → SL (putI h1 632 0 (iN 0)) → RM (putI h1 632 0 (iN 0)) 632 D.1 → ∃ h2, y h1 = some (h2, .inr (iN v)) ∧ FZ (fun x j => x = 633 ∨ pX 632 x j) (putI h1 632 0 (iN 0)) h2 ∧ AR h2 633 506 n) : OpP h D x y := by
  refine ⟨0, v, (n, D.2), by omega, ⟨w, wd.2⟩, by rw [ex]; exact COp.ret a.1 a.2.1 a.2.2.1 (by rw [a.2.2.2.1]; omega) (by rw [a.2.2.2.2]; omega), fun h1 s1 r1 => ?_⟩
  obtain ⟨s0, r0, rm⟩ := ref0 s1 r1
  obtain ⟨h2, e2, f2, a2⟩ := ey h1 s1 r1 s0 rm
  refine ⟨h2, v, e2, fun _ => rfl, ?_, FZ.r0.tr (f2.mo (fun x j z => ?_)), a2, r0.2.fz f2.2 (fun x j z z2 => ?_)⟩
  · rw [f2.2 _ _ (fun z => by unfold pX at z; omega)]
    exact rd_eq
  · rcases z with z | z
    · omega
    · exact pX_632 z
  · unfold pX at z2
    omega
theorem hd_blk {m n : Int → Int} (e : ∀ j, 10 ≤ j → n j = m j) {i k : Int} (hi : 0 ≤ i) (hk : 0 ≤ k) : blk n i k = blk m i k := e _ (by omega)
theorem WB.cg {b b2 : Int → Int} (w : WB b) (e : ∀ k, 0 ≤ k → k < 31 → b2 k = b k) : WB b2 := by
  obtain ⟨w1, w2, w3, w4, w5, w6, w7⟩ := w
  have e3 := e 3 (by omega) (by omega)
  have e4 := e 4 (by omega) (by omega)
  have e5 := e 5 (by omega) (by omega)
  have e6 := e 6 (by omega) (by omega)
  refine ⟨by rw [e3]; exact w1, by rw [e4]; exact w2, by rw [e5]; exact w3, by rw [e6]; exact w4, fun k h1 h2 => ?_, by rw [e3, e4]; exact w6, by rw [e3, e5, e6]; exact w7⟩
  rw [e (7 + k) (by omega) (by omega), e (19 + k) (by omega) (by omega)]
  exact w5 k h1 (by rw [e4] at h2; exact h2)
theorem CO.cg {m n b b2 : Int → Int} (w : CO m b) (e : ∀ k, 0 ≤ k → k < 31 → b2 k = b k) (h4 : m 4 ≤ n 4) (h0 : n 0 = m 0) : CO n b2 := by
  unfold CO at *
  rw [e 0 (by omega) (by omega), e 1 (by omega) (by omega), e 2 (by omega) (by omega)]
  omega
theorem HC.cgb {h : Hp} {q : Nat} {b b2 : Int → Int} (c : HC h q b) (w : WB b) (e : ∀ k, 0 ≤ k → k < 31 → b2 k = b k) : HC h q b2 := c.bk (e 3 (by omega) (by omega)) (e 4 (by omega) (by omega)) (e 5 (by omega) (by omega)) (e 6 (by omega) (by omega)) (fun k h1 h2 => by have := w.2.1; exact ⟨e (7 + k) (by omega) (by omega), e (19 + k) (by omega) (by omega)⟩)
theorem CC.bk {h : Hp} {a : Nat} {b b2 : Int → Int} (c : CC h a b) (w : WB b) (e : ∀ k, 0 ≤ k → k < 31 → b2 k = b k) : CC h a b2 := ⟨⟨by rw [e 0 (by omega) (by omega)]; exact c.1.1, by rw [e 1 (by omega) (by omega)]; exact c.1.2.1, by rw [e 2 (by omega) (by omega)]; exact c.1.2.2⟩, c.2.cgb w e⟩
abbrev Hd (n : Int → Int) : Prop := (1 ≤ n 0 ∧ n 0 ≤ 4) ∧ (8 ≤ n 1 ∧ n 1 ≤ 36) ∧ (0 ≤ n 2 ∧ n 2 ≤ 2) ∧ (0 ≤ n 3 ∧ n 3 ≤ 2) ∧ (0 ≤ n 4 ∧ n 4 ≤ 6) ∧ (0 ≤ n 5 ∧ n 5 ≤ 16)
theorem WF_hd {m n : Int → Int} (w : WF m) (e : ∀ j, 10 ≤ j → n j = m j) (h : Hd n) (sp : ∀ c, 0 ≤ c → c < 4 → SpO (n (6 + c))) (h5 : n 5 = m 5) (h4 : m 4 ≤ n 4) (h0 : n 0 = m 0 ∨ m 5 = 0) : WF n := by
  refine ⟨h, sp, fun i h1 h2 => ?_, fun i j h1 h2 h3 h4 => ?_⟩
  · rw [h5] at h2
    have w1 := w.2.2.1 i h1 h2
    exact ⟨w1.1.cg (fun k k1 _ => hd_blk e h1 k1) h4 (by omega), w1.2.cg (fun k k1 _ => hd_blk e h1 k1)⟩
  · rw [h5] at h3
    have w1 := w.2.2.2 i j h1 h2 h3
    rw [hd_blk e h1 (by omega), hd_blk e (show 0 ≤ j by omega) (by omega)] at h4
    rw [hd_blk e h1 (by omega), hd_blk e h1 (by omega), hd_blk e (show 0 ≤ j by omega) (by omega), hd_blk e (show 0 ≤ j by omega) (by omega)]
    exact w1 h4
theorem TM_hd {h h2 : Hp} {T : Nat} {m n : Int → Int} (t : TM h T m) (w : WF m) (e : ∀ j, 10 ≤ j → n j = m j) (h5 : n 5 = m 5) (f : FZ (fun x _ => x = T ∨ x = T + 1 ∨ x = T + 2) h h2) (hr : qI h2 T 0 = iN (n 1) ∧ qI h2 T 1 = iN (n 2) ∧ qI h2 T 2 = iN (n 3) ∧ qI h2 T 3 = iN (n 0) ∧ qI h2 T 4 = iN (n 4) ∧ qI h2 T 5 = iN (n 5)) (ty : AR h2 (T + 1) 4 (fun c => tyS (n (6 + c)))) (va : AR h2 (T + 2) 4 (fun c => vaS (n (6 + c)))) : TM h2 T n := by
  refine ⟨t.1.ly f.1, hr, ty, va, fun i h1 hi => ?_⟩
  rw [h5] at hi
  have h16 := w.1.2.2.2.2.2
  obtain ⟨k, hk, ek⟩ := t.1.at (i := i) (by omega)
  rw [cA_ly f.1]
  exact ((t.cc h1 hi).cg (fun x j x1 x2 _ => f.2 x j (fun z => by omega))).bk (w.2.2.1 i h1 hi).2 (fun k k1 _ => hd_blk e h1 k1)
theorem AR.sn {h : Hp} {a : Nat} {k : Int} {f : Int → Int} (A : AR h a k f) (hk : 0 ≤ k) : AR (putI h a k.toNat (iN (f k))) a (k + 1) f := by
  intro j h1 h2
  rw [qI_pI]
  by_cases e : j = k
  · rw [e, if_pos ⟨rfl, rfl⟩]
  · rw [if_neg (fun z => e (by omega))]
    exact A j h1 (by omega)
theorem g_specify {h : Hp} {T : Nat} (l : LTb h T) {c ty v : Int} (hc : 0 ≤ c ∧ c < 4) (ht : 0 ≤ ty ∧ ty ≤ 2) : f_X7_specify h T (iN c) (iN ty) (iN v) = some (putI (putI h (T + 1) c.toNat (iN ty)) (T + 2) c.toNat (iN (if ty = 0 then 0 else v)), .inr ()) := by
  have l2 : LTb (putI h (T + 1) c.toNat (iN ty)) T := l.ly Ly.pI
  unfold f_X7_specify f_X7_specify_L21
  rw [chk_pos l.o, l.r6, chk_pos l.o1, l.w1, ck_in (by omega) (by omega) (by omega), lt_is, iN_cl (by omega) (by omega), l2.r7, chk_pos l2.o2, l2.w2, ck_in (by omega) (by omega) (by omega)]
  by_cases p : ty = 0
  · rw [if_pos ((iN_eq0 (by omega) (by omega)).mpr p), if_pos p, lt_is, chk_pos l2.o2]
  · rw [if_neg (eN0 p (by omega) (by omega)), if_neg p, lt_is, chk_pos l2.o2, ck_in (by omega) (by omega) (by omega)]
theorem g_rstL {T : Nat} : ∀ (d k : Nat) (h : Hp) (n : Nat), k + d = 4 → d < n → LTb h T → AR h (T + 1) k (fun _ => 0) → AR h (T + 2) k (fun _ => 0) →
    ∃ h2, f_X7_restartColumns_L7 n h T (iN k) = some (h2, .inr ()) ∧ FZ (fun x _ => x = T + 1 ∨ x = T + 2) h h2 ∧ AR h2 (T + 1) 4 (fun _ => 0) ∧ AR h2 (T + 2) 4 (fun _ => 0) := by
  intro d
  induction d with
  | zero =>
    intro k h n hk hn l A B
    obtain ⟨n, rfl⟩ : ∃ z, n = z + 1 := ⟨n - 1, by omega⟩
    refine ⟨h, ?_, FZ.rf, by rw [show (4 : Int) = k by omega]; exact A, by rw [show (4 : Int) = k by omega]; exact B⟩
    show f_X7_restartColumns_B7 (f_X7_restartColumns_L7 n) h T (iN k) = _
    unfold f_X7_restartColumns_B7
    rw [if_pos (yleN (by omega) (by omega) (by omega))]
  | succ d ih =>
    intro k h n hk hn l A B
    obtain ⟨n, rfl⟩ : ∃ z, n = z + 1 := ⟨n - 1, by omega⟩
    have kk : ((k : Nat) : Int).toNat = k := by omega
    obtain ⟨h4, e4, f4, a4, b4⟩ := ih (k + 1) (putI (putI h (T + 1) (k : Int).toNat (iN 0)) (T + 2) (k : Int).toNat (iN 0)) n (by omega) (by omega) (l.ly (Ly.pI.tr Ly.pI)) ((A.sn (by omega)).ne (by omega)) ((B.ne (by omega)).sn (by omega))
    refine ⟨h4, ?_, ((FZ.pI (Or.inl rfl)).tr (FZ.pI (Or.inr rfl))).tr f4, a4, b4⟩
    show f_X7_restartColumns_B7 (f_X7_restartColumns_L7 n) h T (iN k) = _
    unfold f_X7_restartColumns_B7
    rw [if_neg (nleN (by omega) (by omega) (by omega)), chk_pos l.o, g_specify l (by omega) (by omega), bnd_ret, iN_add]
    exact e4
/-- setColumns' table -/
def scN (m : Int → Int) (v j : Int) : Int := if 6 ≤ j ∧ j < 10 then 0 else if j = 0 then v else m j
theorem scN_hd {m : Int → Int} {v : Int} : ∀ j, 10 ≤ j → scN m v j = m j := fun j hj => by unfold scN; rw [if_neg (by omega), if_neg (by omega)]
theorem scN_c {m : Int → Int} {v c : Int} (hc : 0 ≤ c ∧ c < 4) : scN m v (6 + c) = 0 := if_pos (by omega)
theorem WF_sc {m : Int → Int} (w : WF m) (h5 : m 5 = 0) {v : Int} (hv : 1 ≤ v ∧ v ≤ 4) : WF (scN m v) := by
  refine WF_hd w scN_hd ?_ (fun c h1 h2 => Or.inl (scN_c ⟨h1, h2⟩)) rfl (Int.le_refl _) (Or.inr h5)
  exact ⟨hv, w.1.2⟩
theorem g_restart7 {h : Hp} {T : Nat} {m : Int → Int} (t : TM h T m) (w : WF m) {v : Int} : ∃ h2, f_X7_restartColumns h T (iN v) = some (h2, .inr ()) ∧ FZ (fun x _ => x = T ∨ x = T + 1 ∨ x = T + 2) h h2 ∧ TM h2 T (scN m v) := by
  obtain ⟨h2, e2, f2, a2, b2⟩ := g_rstL (T := T) 4 0 (putI h T 3 (iN v)) 2000 (by omega) (by omega) (t.1.ly Ly.pI) (fun k h1 h2 => by omega) (fun k h1 h2 => by omega)
  have ff : FZ (fun x _ => x = T ∨ x = T + 1 ∨ x = T + 2) h h2 := (FZ.pI (Or.inl rfl)).tr (f2.mo (fun x j z => by omega))
  have rd : ∀ j, qI h2 T j = qI (putI h T 3 (iN v)) T j := fun j => f2.2 _ _ (fun z => by omega)
  refine ⟨h2, ?_, ff, TM_hd t w scN_hd rfl ff ⟨?_, ?_, ?_, ?_, ?_, ?_⟩ (a2.cg (fun k h1 h2 => by rw [scN_c ⟨h1, h2⟩]; rfl)) (b2.cg (fun k h1 h2 => by rw [scN_c ⟨h1, h2⟩]; rfl))⟩
  · unfold f_X7_restartColumns
    rw [chk_pos t.1.o, lt_is]
    exact e2
  · rw [rd, rd_nk (by decide)]; exact t.wd
  · rw [rd, rd_nk (by decide)]; exact t.gp
  · rw [rd, rd_nk (by decide)]; exact t.pd
  · rw [rd, rd_eq]; rfl
  · rw [rd, rd_nk (by decide)]; exact t.rs
  · rw [rd, rd_nk (by decide)]; exact t.ns
theorem g_scL9 {m : Int → Int} {v u : Int} : ∀ (d k : Nat) (h : Hp) (n : Nat), k + d = 4 → d < n → SL h → AR h 633 506 (fun j => if 6 ≤ j ∧ j < 6 + (k : Int) then 0 else if j = 0 then v else m j) →
    ∃ h2, f_X9_setColumns_L51 n h 632 (iN u) (iN k) = some (h2, .inr (iN u)) ∧ FZ (fun x j => x = 633 ∨ pX 632 x j) h h2 ∧ AR h2 633 506 (scN m v) := by
  intro d
  induction d with
  | zero =>
    intro k h n hk hn s A
    obtain ⟨n, rfl⟩ : ∃ z, n = z + 1 := ⟨n - 1, by omega⟩
    obtain rfl : k = 4 := by omega
    refine ⟨h, ?_, FZ.rf, A⟩
    show f_X9_setColumns_B51 (f_X9_setColumns_L51 n) h 632 (iN u) (iN ((4 : Nat) : Int)) = _
    unfold f_X9_setColumns_B51
    rw [if_pos (yleN (by omega) (by omega) (by omega))]
  | succ d ih =>
    intro k h n hk hn s A
    obtain ⟨n, rfl⟩ : ∃ z, n = z + 1 := ⟨n - 1, by omega⟩
    obtain ⟨h4, e4, f4, a4⟩ := ih (k + 1) (putI h 633 (6 + (k : Int)).toNat (iN 0)) n (by omega) (by omega) s.pI ((A.put (k := 6 + (k : Int)) (by omega)).cg (fun j h1 h2 => by
      unfold up
      by_cases e : j = 6 + (k : Int)
      · rw [if_pos e, if_pos (by omega)]
      · rw [if_neg e]
        show (if 6 ≤ j ∧ j < 6 + (k : Int) then 0 else if j = 0 then v else m j) = _
        by_cases e2 : 6 ≤ j ∧ j < 6 + (k : Int)
        · rw [if_pos e2, if_pos (by omega)]
        · rw [if_neg e2, if_neg (show ¬ (6 ≤ j ∧ j < 6 + ((k + 1 : Nat) : Int)) by omega)]))
    refine ⟨h4, ?_, (FZ.pI (Or.inl rfl)).tr f4, a4⟩
    show f_X9_setColumns_B51 (f_X9_setColumns_L51 n) h 632 (iN u) (iN k) = _
    unfold f_X9_setColumns_B51
    rw [if_neg (nleN (by omega) (by omega) (by omega)), chk_pos s.m.1, s.m.r1, chk_pos s.m.o1, s.m.w1, iN_add, ck_in (by omega) (by omega) (by omega), lt_is, iN_cl (by omega) (by omega), iN_add]
    exact e4
theorem o_setColumns {h : Hp} {D : Dt} (wd : WD D) (s : SL h) (c : CI h D) {x : Int} (hx : InR x) : OpP h D (f_L_setColumns h 1 (iN x) 656) (fun h1 => f_X9_setColumns h1 632 (iN x)) := by
  have w := wd.1
  have t := c.1.1
  have h5 := w.1.2.2.2.2.2
  by_cases q : 1 ≤ x ∧ x ≤ 4
  · by_cases p : D.1 5 = 0
    · obtain ⟨h2, e2, f2, t2⟩ := g_restart7 t w (v := x)
      have wn := WF_sc w p q
      have md := Mid.of wd s c (f2.mo (fun x j z => by omega)) t2
      obtain ⟨h3, e3, fn, fc⟩ := md.fin wn wd.2
      refine OpP.M (D.1 0) wn wd fn ?_ (fun h1 s1 r1 s0 rm => ?_)
      · unfold f_L_setColumns f_X8_setColumns f_X8_setColumns_L24
        rw [chk_pos s.o1, g_isW hx ⟨(by omega), (by omega)⟩ ⟨(by omega), (by omega)⟩, bnd_ret, g_rqA, if_pos q, bnd_ret, chk_pos s.o1, s.t0, chk_pos t.1.o, t.ns, if_pos ((iN_eq0 (by omega) (by omega)).mpr p), g_rqS1, bnd_ret, chk_pos s.o1, s.t0, chk_pos t.1.o, e2, bnd_ret, chk_pos md.1.o1, e3, bnd_ret, bndX_ret, t.cs]
      · obtain ⟨h4, e4, f4, a4⟩ := g_scL9 (m := D.1) (v := x) (u := D.1 0) 4 0 (putI (putI h1 632 0 (iN 0)) 633 0 (iN x)) 2000 (by omega) (by omega) s0.pI ((rm.2.put (k := 0) (by omega)).cg (fun j h1 h2 => by
          unfold up
          rw [if_neg (show ¬ (6 ≤ j ∧ j < 6 + ((0 : Nat) : Int)) by omega)]))
        refine ⟨h4, ?_, (FZ.pI (Or.inl rfl)).tr f4, a4⟩
        unfold f_X9_setColumns
        rw [chk_pos s1.m.1, lt_is, g_in hx ⟨(by omega), (by omega)⟩ ⟨(by omega), (by omega)⟩, bnd_ret, if_neg (fun z => bN0.mp z q), chk_pos s0.m.1, s0.m.r1, chk_pos s0.m.o1, s0.m.w1, ck_in (by omega) (by omega) (by omega), g_rd rm (by omega) (by omega), if_pos ((iN_le0 (by omega) (by omega)).mpr (by omega)), ck_in (by omega) (by omega) (by omega), g_rd rm (by omega) (by omega), lt_is, cl0]
        exact e4
    · refine OpP.f0 2 (by omega) wd s c ?_ (fun h1 s1 r1 s0 rm => ?_)
      · unfold f_L_setColumns f_X8_setColumns f_X8_setColumns_L24
        rw [chk_pos s.o1, g_isW hx ⟨(by omega), (by omega)⟩ ⟨(by omega), (by omega)⟩, bnd_ret, g_rqA, if_pos q, bnd_ret, chk_pos s.o1, s.t0, chk_pos t.1.o, t.ns, if_neg (eN0 p (by omega) (by omega)), g_rqS0, bnd_thr, bndX_thr, if_neg (by decide), if_pos rfl]
      · unfold f_X9_setColumns
        rw [chk_pos s1.m.1, lt_is, g_in hx ⟨(by omega), (by omega)⟩ ⟨(by omega), (by omega)⟩, bnd_ret, if_neg (fun z => bN0.mp z q), chk_pos s0.m.1, s0.m.r1, chk_pos s0.m.o1, s0.m.w1, ck_in (by omega) (by omega) (by omega), g_rd rm (by omega) (by omega), if_neg (fun z => by have := (iN_le0 (by omega) (by omega)).mp z; omega), g_fails s0, bnd_ret]
  · refine OpP.f0 1 (by omega) wd s c ?_ (fun h1 s1 r1 s0 rm => ?_)
    · unfold f_L_setColumns f_X8_setColumns
      rw [chk_pos s.o1, g_isW hx ⟨(by omega), (by omega)⟩ ⟨(by omega), (by omega)⟩, bnd_ret, g_rqA, if_neg q, bnd_thr, bndX_thr, if_pos rfl]
    · unfold f_X9_setColumns
      rw [chk_pos s1.m.1, lt_is, g_in hx ⟨(by omega), (by omega)⟩ ⟨(by omega), (by omega)⟩, bnd_ret, if_pos (bN0.mpr q), chk_pos s0.m.1, g_fails s0, bnd_ret]
theorem up_hd {m : Int → Int} {k v : Int} (hk : k < 10) : ∀ j, 10 ≤ j → up m k v j = m j := fun j hj => up_ne (by omega)
/-- one of the class's measures is written: n = up m (1 + j) v -/
theorem TM_up {h : Hp} {T : Nat} {m : Int → Int} (t : TM h T m) (w : WF m) {j : Nat} {k v : Int} (hj : (j = 0 ∧ k = 1) ∨ (j = 1 ∧ k = 2) ∨ (j = 2 ∧ k = 3) ∨ (j = 4 ∧ k = 4)) : TM (putI h T j (iN v)) T (up m k v) := by
  have f : FZ (fun x _ => x = T ∨ x = T + 1 ∨ x = T + 2) h (putI h T j (iN v)) := FZ.pI (Or.inl rfl)
  have ne : ∀ {i : Nat} {a : Int}, qI h T i = iN (m a) → i ≠ j → a ≠ k → qI (putI h T j (iN v)) T i = iN (up m k v a) := fun e h1 h2 => by rw [rd_nk h1, up_ne h2]; exact e
  have eq : qI (putI h T j (iN v)) T j = iN (up m k v k) := by rw [rd_eq, up_eq]
  have sp : ∀ c : Int, 0 ≤ c → up m k v (6 + c) = m (6 + c) := fun c hc => up_ne (by omega)
  refine TM_hd t w (up_hd (by omega)) (up_ne (by omega)) f ?_ ((t.ty.ne (by omega)).cg (fun c h1 h2 => by rw [sp c h1])) ((t.va.ne (by omega)).cg (fun c h1 h2 => by rw [sp c h1]))
  rcases hj with ⟨rfl, rfl⟩ | ⟨rfl, rfl⟩ | ⟨rfl, rfl⟩ | ⟨rfl, rfl⟩
  · exact ⟨eq, ne t.gp (by omega) (by omega), ne t.pd (by omega) (by omega), ne t.cs (by omega) (by omega), ne t.rs (by omega) (by omega), ne t.ns (by omega) (by omega)⟩
  · exact ⟨ne t.wd (by omega) (by omega), eq, ne t.pd (by omega) (by omega), ne t.cs (by omega) (by omega), ne t.rs (by omega) (by omega), ne t.ns (by omega) (by omega)⟩
  · exact ⟨ne t.wd (by omega) (by omega), ne t.gp (by omega) (by omega), eq, ne t.cs (by omega) (by omega), ne t.rs (by omega) (by omega), ne t.ns (by omega) (by omega)⟩
  · exact ⟨ne t.wd (by omega) (by omega), ne t.gp (by omega) (by omega), ne t.pd (by omega) (by omega), ne t.cs (by omega) (by omega), eq, ne t.ns (by omega) (by omega)⟩
theorem WF_up {m : Int → Int} (w : WF m) {k v : Int} (hk : (k = 1 ∧ 8 ≤ v ∧ v ≤ 36) ∨ (k = 2 ∧ 0 ≤ v ∧ v ≤ 2) ∨ (k = 3 ∧ 0 ≤ v ∧ v ≤ 2) ∨ (k = 4 ∧ m 4 ≤ v ∧ v ≤ 6)) : WF (up m k v) := by
  have hb := w.1
  refine WF_hd w (up_hd (by omega)) ?_ (fun c h1 h2 => ?_) (up_ne (by omega)) ?_ (Or.inl (up_ne (by omega)))
  · unfold Hd up
    rcases hk with ⟨rfl, hk⟩ | ⟨rfl, hk⟩ | ⟨rfl, hk⟩ | ⟨rfl, hk⟩ <;> simp <;> omega
  · rw [up_ne (by omega)]
    exact w.2.1 c h1 h2
  · unfold up
    split <;> omega
theorem o_setMeasure {h : Hp} {D : Dt} (wd : WD D) (s : SL h) (c : CI h D) {x y : Int} (hx : InR x) (hy : InR y) : OpP h D (f_L_setMeasure h 1 (iN x) (iN y) 656) (fun h1 => f_X9_setMeasure h1 632 (iN x) (iN y)) := by
  have w := wd.1
  have t := c.1.1
  by_cases q : 0 ≤ x ∧ x ≤ 2
  · have isM : ∀ g : Hp, f_X9_isMeasure g (iN x) (iN y) = some (g, .inr (bN (if x = 0 then 8 ≤ y ∧ y ≤ 36 else 0 ≤ y ∧ y ≤ 2))) := fun g => by
      unfold f_X9_isMeasure
      by_cases x0 : x = 0
      · rw [if_pos ((iN_eq0 (by omega) (by omega)).mpr x0), g_in hy ⟨(by omega), (by omega)⟩ ⟨(by omega), (by omega)⟩, bnd_ret, ck_b]
        simp only [x0, if_true]
      · rw [if_neg (eN0 x0 (by omega) (by omega)), g_in hy ⟨(by omega), (by omega)⟩ ⟨(by omega), (by omega)⟩, bnd_ret, ck_b]
        simp only [x0, if_false]
    by_cases p : (if x = 0 then 8 ≤ y ∧ y ≤ 36 else 0 ≤ y ∧ y ≤ 2)
    · have ref : ∀ h1, SL h1 → RM (putI h1 632 0 (iN 0)) 632 D.1 → SL (putI h1 632 0 (iN 0)) → ∃ h2, f_X9_setMeasure h1 632 (iN x) (iN y) = some (h2, .inr (iN (D.1 (1 + x)))) ∧ FZ (fun x j => x = 633 ∨ pX 632 x j) (putI h1 632 0 (iN 0)) h2 ∧ AR h2 633 506 (up D.1 (1 + x) y) := by
        intro h1 s1 rm s0
        refine ⟨putI (putI h1 632 0 (iN 0)) 633 (1 + x).toNat (iN y), ?_, FZ.pI (Or.inl rfl), rm.2.put (by omega)⟩
        unfold f_X9_setMeasure
        rw [chk_pos s1.m.1, lt_is, g_in hx ⟨(by omega), (by omega)⟩ ⟨(by omega), (by omega)⟩, bnd_ret, if_neg (fun z => bN0.mp z q), isM, bnd_ret, if_neg (fun z => bN0.mp z p), chk_pos s0.m.1, s0.m.r1, chk_pos s0.m.o1, s0.m.w1, iN_add, ck_in (by omega) (by omega) (by omega), g_rd rm (by omega) (by omega), lt_is, iN_cl (by omega) (by omega)]
      have hq : x = 0 ∨ x = 1 ∨ x = 2 := by omega
      have fz : ∀ j, FZ (fun x _ => 2 ≤ x ∧ x ≤ 149) h (putI h 2 j (iN y)) := fun j => FZ.pI (by omega)
      rcases hq with rfl | rfl | rfl
      · have p0 : 8 ≤ y ∧ y ≤ 36 := p
        have wn : WF (up D.1 (1 + 0) y) := WF_up w (Or.inl ⟨rfl, p0⟩)
        have md := Mid.of wd s c (fz 0) (TM_up t w (k := 1 + 0) (Or.inl ⟨rfl, rfl⟩))
        obtain ⟨h3, e3, fn, fc⟩ := md.fin wn wd.2
        refine OpP.M _ wn wd fn ?_ (fun h1 s1 r1 s0 rm => ref h1 s1 rm s0)
        unfold f_L_setMeasure f_X8_setMeasure f_X8_setMeasure_L101
        rw [chk_pos s.o1, g_isW hx ⟨(by omega), (by omega)⟩ ⟨(by omega), (by omega)⟩, bnd_ret, g_rqI, if_pos q, bnd_ret, if_pos (by decide), g_isW hy ⟨(by omega), (by omega)⟩ ⟨(by omega), (by omega)⟩, bnd_ret, g_rqA, if_pos p0, bnd_ret, chk_pos s.o1, s.t0, chk_pos t.1.o, lt_is, t.wd, chk_pos md.1.o1, e3, bnd_ret, bndX_ret]
        rfl
      · have p0 : 0 ≤ y ∧ y ≤ 2 := p
        have wn : WF (up D.1 (1 + 1) y) := WF_up w (Or.inr (Or.inl ⟨rfl, p0⟩))
        have md := Mid.of wd s c (fz 1) (TM_up t w (k := 1 + 1) (Or.inr (Or.inl ⟨rfl, rfl⟩)))
        obtain ⟨h3, e3, fn, fc⟩ := md.fin wn wd.2
        refine OpP.M _ wn wd fn ?_ (fun h1 s1 r1 s0 rm => ref h1 s1 rm s0)
        unfold f_L_setMeasure f_X8_setMeasure f_X8_setMeasure_L101
        rw [chk_pos s.o1, g_isW hx ⟨(by omega), (by omega)⟩ ⟨(by omega), (by omega)⟩, bnd_ret, g_rqI, if_pos q, bnd_ret, if_neg (by decide), if_pos (by decide), g_isW hy ⟨(by omega), (by omega)⟩ ⟨(by omega), (by omega)⟩, bnd_ret, g_rqA, if_pos p0, bnd_ret, chk_pos s.o1, s.t0, chk_pos t.1.o, lt_is, t.gp, chk_pos md.1.o1, e3, bnd_ret, bndX_ret]
        rfl
      · have p0 : 0 ≤ y ∧ y ≤ 2 := p
        have wn : WF (up D.1 (1 + 2) y) := WF_up w (Or.inr (Or.inr (Or.inl ⟨rfl, p0⟩)))
        have md := Mid.of wd s c (fz 2) (TM_up t w (k := 1 + 2) (Or.inr (Or.inr (Or.inl ⟨rfl, rfl⟩))))
        obtain ⟨h3, e3, fn, fc⟩ := md.fin wn wd.2
        refine OpP.M _ wn wd fn ?_ (fun h1 s1 r1 s0 rm => ref h1 s1 rm s0)
        unfold f_L_setMeasure f_X8_setMeasure f_X8_setMeasure_L101
        rw [chk_pos s.o1, g_isW hx ⟨(by omega), (by omega)⟩ ⟨(by omega), (by omega)⟩, bnd_ret, g_rqI, if_pos q, bnd_ret, if_neg (by decide), if_neg (by decide), g_isW hy ⟨(by omega), (by omega)⟩ ⟨(by omega), (by omega)⟩, bnd_ret, g_rqA, if_pos p0, bnd_ret, chk_pos s.o1, s.t0, chk_pos t.1.o, lt_is, t.pd, chk_pos md.1.o1, e3, bnd_ret, bndX_ret]
        rfl
    · refine OpP.f0 2 (by omega) wd s c ?_ (fun h1 s1 r1 s0 rm => ?_)
      · have hq : x = 0 ∨ x = 1 ∨ x = 2 := by omega
        unfold f_L_setMeasure f_X8_setMeasure
        rw [chk_pos s.o1, g_isW hx ⟨(by omega), (by omega)⟩ ⟨(by omega), (by omega)⟩, bnd_ret, g_rqI, if_pos q, bnd_ret]
        rcases hq with rfl | rfl | rfl
        · have p0 : ¬ (8 ≤ y ∧ y ≤ 36) := p
          rw [if_pos (by decide), g_isW hy ⟨(by omega), (by omega)⟩ ⟨(by omega), (by omega)⟩, bnd_ret, g_rqA, if_neg p0, bnd_thr, bndX_thr, if_neg (by decide), if_pos rfl]
        · have p0 : ¬ (0 ≤ y ∧ y ≤ 2) := p
          rw [if_neg (by decide), if_pos (by decide), g_isW hy ⟨(by omega), (by omega)⟩ ⟨(by omega), (by omega)⟩, bnd_ret, g_rqA, if_neg p0, bnd_thr, bndX_thr, if_neg (by decide), if_pos rfl]
        · have p0 : ¬ (0 ≤ y ∧ y ≤ 2) := p
          rw [if_neg (by decide), if_neg (by decide), g_isW hy ⟨(by omega), (by omega)⟩ ⟨(by omega), (by omega)⟩, bnd_ret, g_rqA, if_neg p0, bnd_thr, bndX_thr, if_neg (by decide), if_pos rfl]
      · unfold f_X9_setMeasure
        rw [chk_pos s1.m.1, lt_is, g_in hx ⟨(by omega), (by omega)⟩ ⟨(by omega), (by omega)⟩, bnd_ret, if_neg (fun z => bN0.mp z q), isM, bnd_ret, if_pos (bN0.mpr p), chk_pos s0.m.1, g_fails s0, bnd_ret]
  · refine OpP.f0 1 (by omega) wd s c ?_ (fun h1 s1 r1 s0 rm => ?_)
    · unfold f_L_setMeasure f_X8_setMeasure
      rw [chk_pos s.o1, g_isW hx ⟨(by omega), (by omega)⟩ ⟨(by omega), (by omega)⟩, bnd_ret, g_rqI, if_neg q, bnd_thr, bndX_thr, if_pos rfl]
    · unfold f_X9_setMeasure
      rw [chk_pos s1.m.1, lt_is, g_in hx ⟨(by omega), (by omega)⟩ ⟨(by omega), (by omega)⟩, bnd_ret, if_pos (bN0.mpr q), chk_pos s0.m.1, g_fails s0, bnd_ret]
/-- a column is specified -/
theorem TM_sp {h : Hp} {T : Nat} {m : Int → Int} (t : TM h T m) (w : WF m) {c ty v : Int} (hc : 0 ≤ c ∧ c < 4) {sv : Int} (e1 : tyS sv = ty) (e2 : vaS sv = v) : TM (putI (putI h (T + 1) c.toNat (iN ty)) (T + 2) c.toNat (iN v)) T (up m (6 + c) sv) := by
  have f : FZ (fun x _ => x = T ∨ x = T + 1 ∨ x = T + 2) h (putI (putI h (T + 1) c.toNat (iN ty)) (T + 2) c.toNat (iN v)) := (FZ.pI (Or.inr (Or.inl rfl))).tr (FZ.pI (Or.inr (Or.inr rfl)))
  have ne : ∀ {i : Nat} {a : Int}, qI h T i = iN (m a) → a < 6 → qI (putI (putI h (T + 1) c.toNat (iN ty)) (T + 2) c.toNat (iN v)) T i = iN (up m (6 + c) sv a) := fun e h2 => by rw [rd_ne (by omega), rd_ne (by omega), up_ne (by omega)]; exact e
  refine TM_hd t w (up_hd (by omega)) (up_ne (by omega)) f ⟨ne t.wd (by omega), ne t.gp (by omega), ne t.pd (by omega), ne t.cs (by omega), ne t.rs (by omega), ne t.ns (by omega)⟩ ?_ ?_
  · refine AR.ne ((t.ty.put (k := c) hc.1).cg (fun k h1 h2 => ?_)) (by omega)
    unfold up
    by_cases e : k = c
    · rw [if_pos e, if_pos (by omega), e1]
    · rw [if_neg e, if_neg (by omega)]
  · refine ((t.va.ne (by omega)).put (k := c) hc.1).cg (fun k h1 h2 => ?_)
    unfold up
    by_cases e : k = c
    · rw [if_pos e, if_pos (by omega), e2]
    · rw [if_neg e, if_neg (by omega)]
theorem WF_sp {m : Int → Int} (w : WF m) {c sv : Int} (hc : 0 ≤ c ∧ c < 4) (hs : SpO sv) : WF (up m (6 + c) sv) := by
  have hb := w.1
  refine WF_hd w (up_hd (by omega)) ?_ (fun k h1 h2 => ?_) (up_ne (by omega)) (by rw [up_ne (by omega)]; omega) (Or.inl (up_ne (by omega)))
  · unfold Hd
    rw [up_ne (by omega), up_ne (by omega), up_ne (by omega), up_ne (by omega), up_ne (by omega), up_ne (by omega)]
    exact hb
  · by_cases e : k = c
    · rw [e, up_eq]
      exact hs
    · rw [up_ne (by omega)]
      exact w.2.1 k h1 h2
/-- a type and a value as one number -/
def spN (ty v : Int) : Int := if ty = 0 then 0 else 100 * ty + v
theorem spN_ok {ty v : Int} (ht : 0 ≤ ty ∧ ty ≤ 2) (h1 : ty = 1 → 1 ≤ v ∧ v ≤ 36) (h2 : ty = 2 → 1 ≤ v ∧ v ≤ 100) : SpO (spN ty v) ∧ tyS (spN ty v) = ty ∧ vaS (spN ty v) = if ty = 0 then 0 else v := by
  have h3 : ty = 0 ∨ ty = 1 ∨ ty = 2 := by omega
  unfold SpO tyS vaS spN
  rcases h3 with rfl | rfl | rfl
  · simp
  · have := h1 rfl
    simp
    omega
  · have := h2 rfl
    simp
    omega
abbrev okSp (ty v : Int) : Prop := (ty = 1 → 1 ≤ v ∧ v ≤ 36) ∧ (ty = 2 → 1 ≤ v ∧ v ≤ 100)
theorem o_setColumn {h : Hp} {D : Dt} (wd : WD D) (s : SL h) (c : CI h D) {x y v : Int} (hx : InR x) (hy : InR y) (hv : InR v) : OpP h D (f_L_setColumn h 1 (iN x) (iN y) (iN v) 656) (fun h1 => f_X9_setColumn h1 632 (iN x) (iN y) (iN v)) := by
  have w := wd.1
  have t := c.1.1
  have h0 := w.1.1
  have hy' := hy
  unfold InR at hy'
  by_cases q : 0 ≤ x ∧ x ≤ D.1 0 - 1
  · have sx := w.2.1 x (by omega) (by omega)
    by_cases p : 0 ≤ y ∧ y ≤ 2
    · have ref0 : ∀ h1, SL h1 → RM (putI h1 632 0 (iN 0)) 632 D.1 → SL (putI h1 632 0 (iN 0)) → f_X9_setColumn h1 632 (iN x) (iN y) (iN v) = if okSp y v then f_X9_setColumn_L64 (putI h1 632 0 (iN 0)) 632 (iN x) (iN y) (iN v) else some (putI (putI h1 632 0 (iN 0)) 632 0 (iN 2), .inr (iN 0)) := by
        intro h1 s1 rm s0
        unfold f_X9_setColumn f_X9_setColumn_L43 f_X9_setColumn_L58
        rw [chk_pos s1.m.1, lt_is, g_isColumn rm w hx, bnd_ret, if_neg (fun z => bN0.mp z q), g_in hy ⟨(by omega), (by omega)⟩ ⟨(by omega), (by omega)⟩, bnd_ret, if_neg (fun z => bN0.mp z p), g_in hv ⟨(by omega), (by omega)⟩ ⟨(by omega), (by omega)⟩, bnd_ret, g_in hv ⟨(by omega), (by omega)⟩ ⟨(by omega), (by omega)⟩, bnd_ret, chk_pos s0.m.1, g_fails s0, bnd_ret]
        have hq : y = 0 ∨ y = 1 ∨ y = 2 := by omega
        rcases hq with rfl | rfl | rfl
        · rw [if_neg (by decide), if_neg (by decide), if_pos (show okSp 0 v from ⟨fun z => by omega, fun z => by omega⟩)]
        · rw [if_pos (by decide)]
          by_cases z : 1 ≤ v ∧ v ≤ 36
          · rw [if_neg (fun y => bN0.mp y z), if_neg (by decide), if_pos (show okSp 1 v from ⟨fun _ => z, fun z => by omega⟩)]
          · rw [if_pos (bN0.mpr z), if_neg (show ¬ okSp 1 v from fun y => z (y.1 rfl))]
        · rw [if_neg (by decide), if_pos (by decide)]
          by_cases z : 1 ≤ v ∧ v ≤ 100
          · rw [if_neg (fun y => bN0.mp y z), if_pos (show okSp 2 v from ⟨fun z => by omega, fun _ => z⟩)]
          · rw [if_pos (bN0.mpr z), if_neg (show ¬ okSp 2 v from fun y => z (y.2 rfl))]
      have cls0 : f_X8_setColumn h 1 (iN x) (iN y) (iN v) = if okSp y v then f_X8_setColumn_L57 h 1 (iN x) (iN y) (iN v) (iN 1) else some (bump h, .inl 1) := by
        have rq1 : f_X8_requireArgument h (iN 1) = some (h, .inr ()) := by
          unfold f_X8_requireArgument
          rw [if_neg (by decide)]
        have rq0 : f_X8_requireArgument h (iN 0) = some (bump h, .inl 1) := by
          unfold f_X8_requireArgument
          rw [if_pos (by decide)]
        unfold f_X8_setColumn f_X8_setColumn_L34 f_X8_setColumn_L29 f_X8_setColumn_L34 f_X8_setColumn_L52
        rw [chk_pos s.o1, g_rqCol w s t hx, if_pos q, bnd_ret, g_isW hy ⟨(by omega), (by omega)⟩ ⟨(by omega), (by omega)⟩, bnd_ret, g_rqA, if_pos p, bnd_ret, g_isW hv ⟨(by omega), (by omega)⟩ ⟨(by omega), (by omega)⟩, bnd_ret, rq1, rq0, bnd_ret, bnd_thr, g_isW hv ⟨(by omega), (by omega)⟩ ⟨(by omega), (by omega)⟩, bnd_ret]
        have hq : y = 0 ∨ y = 1 ∨ y = 2 := by omega
        rcases hq with rfl | rfl | rfl
        · rw [if_neg (by decide), if_neg (by decide), if_pos (show okSp 0 v from ⟨fun z => by omega, fun z => by omega⟩)]
        · rw [if_pos (by decide)]
          by_cases z : 1 ≤ v ∧ v ≤ 36
          · rw [if_neg (fun y => bN0.mp y z), if_neg (by decide), if_pos (show okSp 1 v from ⟨fun _ => z, fun z => by omega⟩)]
          · rw [if_pos (bN0.mpr z), if_neg (show ¬ okSp 1 v from fun y => z (y.1 rfl))]
        · rw [if_neg (by decide), if_pos (by decide)]
          by_cases z : 1 ≤ v ∧ v ≤ 100
          · rw [if_neg (fun y => bN0.mp y z), if_pos (show okSp 2 v from ⟨fun z => by omega, fun _ => z⟩)]
          · rw [if_pos (bN0.mpr z), if_neg (show ¬ okSp 2 v from fun y => z (y.2 rfl))]
            unfold f_X8_setColumn_L57
            rw [rq0, bnd_thr]
      by_cases ok : okSp y v
      · have so := spN_ok p ok.1 ok.2
        have wn := WF_sp w (c := x) (by omega) so.1
        have t2 := TM_sp t w (c := x) (by omega) so.2.1 so.2.2
        have md := Mid.of wd s c ((FZ.pI (by omega)).tr (FZ.pI (by omega))) t2
        obtain ⟨h3, e3, fn, fc⟩ := md.fin wn wd.2
        refine OpP.M (D.1 (6 + x)) wn wd fn ?_ (fun h1 s1 r1 s0 rm => ?_)
        · have rq1 : f_X8_requireArgument h (iN 1) = some (h, .inr ()) := by
            unfold f_X8_requireArgument
            rw [if_neg (by decide)]
          unfold f_L_setColumn
          rw [chk_pos s.o1, cls0, if_pos ok]
          unfold f_X8_setColumn_L57
          rw [rq1, bnd_ret, chk_pos s.o1, s.t0, chk_pos t.1.o, t.1.r6, chk_pos t.1.o1, t.1.w1, ck_in (by omega) (by omega) (by omega), t.1.r7, chk_pos t.1.o2, t.1.w2, ck_in (by omega) (by omega) (by omega), g_specify t.1 (by omega) p, bnd_ret, chk_pos md.1.o1, e3, bnd_ret, bndX_ret, iN_cl (z := x) (by omega) (by omega), show qI h (2 + 1) x.toNat = iN (tyS (D.1 (6 + x))) from t.ty x (by omega) (by omega), show qI h (2 + 2) x.toNat = iN (vaS (D.1 (6 + x))) from t.va x (by omega) (by omega), iN_mul, iN_add, sx.ty.2.2.2.2.2.2.2.2]
        · refine ⟨putI (putI h1 632 0 (iN 0)) 633 (6 + x).toNat (iN (spN y v)), ?_, FZ.pI (Or.inl rfl), rm.2.put (by omega)⟩
          rw [ref0 h1 s1 rm s0, if_pos ok]
          unfold f_X9_setColumn_L64 f_X9_setColumn_L97 spN
          rw [chk_pos s0.m.1, s0.m.r1, chk_pos s0.m.o1, s0.m.w1, iN_add, ck_in (by omega) (by omega) (by omega), ck_in (by omega) (by omega) (by omega), ck_in (by omega) (by omega) (by omega), g_rd rm (by omega) (by omega), lt_is, lt_is, iN_cl (by omega) (by omega), iN_mul, iN_add]
          by_cases y0 : y = 0
          · rw [if_pos ((iN_eq0 (by omega) (by omega)).mpr y0), if_pos y0, chk_pos s0.m.o1]
          · rw [if_neg (eN0 y0 (by omega) (by omega)), if_neg y0, chk_pos s0.m.o1]
      · refine OpP.f0 2 (by omega) wd s c ?_ (fun h1 s1 r1 s0 rm => ?_)
        · unfold f_L_setColumn
          rw [chk_pos s.o1, cls0, if_neg ok, bndX_thr, if_neg (by decide), if_pos rfl]
        · rw [ref0 h1 s1 rm s0, if_neg ok]
    · refine OpP.f0 2 (by omega) wd s c ?_ (fun h1 s1 r1 s0 rm => ?_)
      · unfold f_L_setColumn f_X8_setColumn
        rw [chk_pos s.o1, chk_pos s.o1, g_rqCol w s t hx, if_pos q, bnd_ret, g_isW hy ⟨(by omega), (by omega)⟩ ⟨(by omega), (by omega)⟩, bnd_ret, g_rqA, if_neg p, bnd_thr, bndX_thr, if_neg (by decide), if_pos rfl]
      · unfold f_X9_setColumn f_X9_setColumn_L58
        rw [chk_pos s1.m.1, lt_is, g_isColumn rm w hx, bnd_ret, if_neg (fun z => bN0.mp z q), g_in hy ⟨(by omega), (by omega)⟩ ⟨(by omega), (by omega)⟩, bnd_ret, if_pos (bN0.mpr p), chk_pos s0.m.1, g_fails s0, bnd_ret]
  · refine OpP.f0 1 (by omega) wd s c ?_ (fun h1 s1 r1 s0 rm => ?_)
    · unfold f_L_setColumn f_X8_setColumn
      rw [chk_pos s.o1, chk_pos s.o1, g_rqCol w s t hx, if_neg q, bnd_thr, bndX_thr, if_pos rfl]
    · unfold f_X9_setColumn
      rw [chk_pos s1.m.1, lt_is, g_isColumn rm w hx, bnd_ret, if_pos (bN0.mpr q), chk_pos s0.m.1, g_fails s0, bnd_ret]
theorem o_addRow {h : Hp} {D : Dt} (wd : WD D) (s : SL h) (c : CI h D) : OpP h D (f_L_addRow h 1 656) (fun h1 => f_X9_addRow h1 632) := by
  have w := wd.1
  have t := c.1.1
  have h4 := w.1.2.2.2.2.1
  by_cases q : D.1 4 < 6
  · have wn : WF (up D.1 4 (D.1 4 + 1)) := WF_up w (Or.inr (Or.inr (Or.inr ⟨rfl, (by omega), (by omega)⟩)))
    have md := Mid.of wd s c (FZ.pI (by omega)) (TM_up t w (k := 4) (v := D.1 4 + 1) (Or.inr (Or.inr (Or.inr ⟨rfl, rfl⟩))))
    obtain ⟨h3, e3, fn, fc⟩ := md.fin wn wd.2
    refine OpP.M (D.1 4) wn wd fn ?_ (fun h1 s1 r1 s0 rm => ?_)
    · have t3 : TM h3 2 (up D.1 4 (D.1 4 + 1)) := fn.2.1.1.1
      unfold f_L_addRow f_X8_addRow f_X8_addRow_L17
      rw [chk_pos s.o1, chk_pos s.o1, s.t0, chk_pos t.1.o, t.rs, if_neg (nleN (by omega) (by omega) (by omega)), g_rqS1, bnd_ret, chk_pos s.o1, s.t0, chk_pos t.1.o, lt_is, t.rs, iN_add, e3, bnd_ret, chk_pos fn.1.o1, fn.1.t0, chk_pos t3.1.o, t3.rs, up_eq, iN_sub, bndX_ret, show D.1 4 + 1 - 1 = D.1 4 by omega]
    · refine ⟨putI (putI h1 632 0 (iN 0)) 633 4 (iN (D.1 4 + 1)), ?_, FZ.pI (Or.inl rfl), rm.2.put (k := 4) (by omega)⟩
      have r2 : RM (putI (putI h1 632 0 (iN 0)) 633 4 (iN (D.1 4 + 1))) 632 (up D.1 4 (D.1 4 + 1)) := ⟨s0.pI.m, rm.2.put (k := 4) (by omega)⟩
      unfold f_X9_addRow
      rw [chk_pos s1.m.1, lt_is, s0.m.r1, chk_pos s0.m.o1, s0.m.w1, ck_in (by omega) (by omega) (by omega), g_rd rm (by omega) (by omega), if_neg (neN (by omega) (by omega) (by omega) (by omega) (by omega)), lt_is, iN_add, iN_cl (by omega) (by omega), show (4 : Int).toNat = 4 from rfl, s0.pI.m.r1, chk_pos s0.pI.m.o1, s0.pI.m.w1, ck_in (by omega) (by omega) (by omega), show qI (putI (putI h1 632 0 (iN 0)) 633 4 (iN (D.1 4 + 1))) 633 4 = iN (D.1 4 + 1) from rd_eq, iN_sub, show D.1 4 + 1 - 1 = D.1 4 by omega]
  · refine OpP.f0 1 (by omega) wd s c ?_ (fun h1 s1 r1 s0 rm => ?_)
    · unfold f_L_addRow f_X8_addRow f_X8_addRow_L17
      rw [chk_pos s.o1, chk_pos s.o1, s.t0, chk_pos t.1.o, t.rs, if_pos (yleN (by omega) (by omega) (by omega)), g_rqS0, bnd_thr, bndX_thr, if_pos rfl]
    · unfold f_X9_addRow
      rw [chk_pos s1.m.1, lt_is, s0.m.r1, chk_pos s0.m.o1, s0.m.w1, ck_in (by omega) (by omega) (by omega), g_rd rm (by omega) (by omega), if_pos (by rw [show D.1 4 = 6 by omega]), g_fails s0, bnd_ret]
