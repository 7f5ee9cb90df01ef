/-! ===== STAGE B: calls of both sides: rowHeight, tallest, heightAt, narrowest, improvements, improvement ===== -/
/-- a step of the class within a call: the document's state stays -/
def Stq (h h2 : Hp) (D : Dt) : Prop := SL h2 ∧ CI h2 D ∧ (∀ x j, 632 ≤ x → qI h2 x j = qI h x j) ∧ qC h2 = qC h ∧ qS h2 = qS h
theorem Stq.rf {h : Hp} {D : Dt} (s : SL h) (c : CI h D) : Stq h h D := ⟨s, c, fun _ _ _ => rfl, rfl, rfl⟩
theorem Stq.tr {h h1 h2 : Hp} {D : Dt} (a : Stq h h1 D) (b : Stq h1 h2 D) : Stq h h2 D := ⟨b.1, b.2.1, fun x j z => (b.2.2.1 x j z).trans (a.2.2.1 x j z), b.2.2.2.1.trans a.2.2.2.1, b.2.2.2.2.trans a.2.2.2.2⟩
theorem Stq.h {h h1 h2 : Hp} {D : Dt} (a : Stq h h1 D) (wd : WD D) (f : FZ (pH 2) h1 h2) (t : TM h2 2 D.1) : Stq h h2 D := a.tr ⟨a.1.ly f.1, a.2.1.h wd f t, f.h632, f.qc.1, f.qc.2⟩
theorem Stq.s {h h1 h2 : Hp} {D : Dt} (a : Stq h h1 D) (wd : WD D) (f : FZ (pS 2 162) h1 h2) (t : TM h2 2 D.1) (sm : SM h2 162 D.1 1000000) : Stq h h2 D := a.tr ⟨a.1.ly f.1, a.2.1.s wd f t sm, f.s632, f.qc.1, f.qc.2⟩
theorem OpP.A {h h' : Hp} {D : Dt} {x : Option (Rs Int32)} {y : Hp → Option (Rs Int32)} (v : Int) (wd : WD D) (a : Stq h h' D) (ex : x = ansL h' (iN v)) (ey : ∀ h1, SL h1 → RI h1 D → SL (putI h1 632 0 (iN 0)) → RM (putI h1 632 0 (iN 0)) 632 D.1 → ∃ h2, y h1 = some (h2, .inr (iN v)) ∧ FZ (pX 632) (putI h1 632 0 (iN 0)) h2) : OpP h D x y := OpP.a v wd a.1 a.2.1 a.2.2.1 (by rw [a.2.2.2.1]; omega) (by rw [a.2.2.2.2]; omega) ex ey
theorem OpP.F {h h' : Hp} {D : Dt} {x : Option (Rs Int32)} {y : Hp → Option (Rs Int32)} (k : Int) (hk : 1 ≤ k ∧ k ≤ 4) (wd : WD D) (a : Stq h h' D) (ex : x = some (bump h', .inr (iN k))) (ey : ∀ h1, SL h1 → RI h1 D → SL (putI h1 632 0 (iN 0)) → RM (putI h1 632 0 (iN 0)) 632 D.1 → ∃ h2, y h1 = some (putI h2 632 0 (iN k), .inr (iN 0)) ∧ FZ (pX 632) (putI h1 632 0 (iN 0)) h2) : OpP h D x y := OpP.f k hk wd a.1 a.2.1 a.2.2.1 (by rw [a.2.2.2.1]; omega) (by rw [a.2.2.2.2]; omega) ex ey
theorem g_leastS {h : Hp} {D : Dt} (wd : WD D) (s : SL h) (c : CI h D) {x : Int} (hx : 0 ≤ x ∧ x ≤ 36) : ∃ h2, f_X6_leastHeight h 162 (iN x) = some (h2, .inr (iN (lhF D.1 1000000 x))) ∧ Stq h h2 D := by
  obtain ⟨h2, e2, f2, s2, c2⟩ := g_leastW wd s c hx
  exact ⟨h2, e2, s2, c2, f2.s632, f2.qc.1, f2.qc.2⟩
theorem g_bestS {h : Hp} {D : Dt} (wd : WD D) (s : SL h) (c : CI h D) : ∃ h2, f_X8_bestWidths h 1 = (if 0 ≤ lhF D.1 1000000 (D.1 1) then some (h2, .inr (162 + 3 + (D.1 1).toNat)) else some (bump h2, .inl 0)) ∧ Stq h h2 D ∧ (0 ≤ lhF D.1 1000000 (D.1 1) → AR h2 (162 + 3 + (D.1 1).toNat) (D.1 0) (bsC D.1 1000000 (D.1 1)).2 ∧ GW D.1 (bsC D.1 1000000 (D.1 1)).2) := by
  have h1 := wd.1.1.2.1
  have lb := lh_bd wd.1 (L := 1000000) (x := D.1 1) h1.2
  obtain ⟨h2, e2, f2, t2, s2, a2⟩ := g_bestW wd.1 s c.1
  exact ⟨h2, e2, (Stq.rf s c).s wd f2 t2 s2, fun q => ⟨a2 q, (bs_GW wd.1 h1.2 (lb.2.2.1.mp q)).1⟩⟩
theorem o_rowHeight {h : Hp} {D : Dt} (wd : WD D) (s : SL h) (c : CI h D) {x : Int} {b : Int32} (hx : InR x) : OpP h D (f_L_rowHeight h 1 (iN x) b 656) (fun h1 => f_X9_rowHeight h1 632 (iN x) b) := by
  have w := wd.1
  have t := c.1.1
  have k := c.1.2.1
  have h4 := w.1.2.2.2.2.1
  have hm1 := w.1.2.1
  by_cases q : 0 ≤ x ∧ x ≤ D.1 4 - 1
  · by_cases b0 : b = 0
    · by_cases p : gsS D.1 0 ≤ usF D.1
      · have gw := au_GW w p
        obtain ⟨h2, e2, f2, t2⟩ := g_heightOfRow t w gw (arr := 150 + 10) (r := x) (by omega) (by omega) s.k.o10 s.k.w10 k.2.2.2.2.2.1
        refine OpP.A (rhN D.1 x (auF D.1) (D.1 5).toNat) wd ((Stq.rf s c).h wd f2 t2) ?_ (fun h1 s1 r1 s0 rm => ?_)
        · unfold f_L_rowHeight f_X8_rowHeight f_X8_rowHeight_L25
          rw [chk_pos s.o1, chk_pos s.o1, g_rqRow w s t hx, if_pos q, bnd_ret, chk_pos s.o1, s.t0, chk_pos t.1.o, if_pos b0, g_autoW s k, if_pos p, bnd_ret, chk_pos t.1.o, e2, bnd_ret, bndX_ret]
        · obtain ⟨h3, e3, f3, a3⟩ := g_laysOut w rm
          have s3 := s0.ly f3.1
          obtain ⟨h4, e4, f4⟩ := g_rowHigh (rm.v f3) w gw (arr := 632 + 18) (r := x) (by omega) (by omega) s3.m.o27 s3.m.w27 (a3 p)
          refine ⟨h4, ?_, f3.vx.tr f4.bx⟩
          unfold f_X9_rowHeight f_X9_rowHeight_L46 f_X9_rowHeight_L63
          rw [chk_pos s1.m.1, lt_is, g_isRow rm w hx, bnd_ret, if_neg (fun z => bN0.mp z q), if_pos b0, chk_pos s0.m.1, e3, bnd_ret, if_neg (fun z => bN0.mp z p), if_pos b0, chk_pos s3.m.1, s3.m.r27, chk_pos s3.m.o27, chk_pos s3.m.1, e4, bnd_ret]
      · refine OpP.F 2 (by omega) wd (Stq.rf s c) ?_ (fun h1 s1 r1 s0 rm => ?_)
        · unfold f_L_rowHeight f_X8_rowHeight
          rw [chk_pos s.o1, chk_pos s.o1, g_rqRow w s t hx, if_pos q, bnd_ret, chk_pos s.o1, s.t0, chk_pos t.1.o, if_pos b0, g_autoW s k, if_neg p, bnd_thr, bndX_thr, if_neg (by decide), if_pos rfl]
        · obtain ⟨h3, e3, f3, a3⟩ := g_laysOut w rm
          have s3 := s0.ly f3.1
          refine ⟨h3, ?_, f3.vx⟩
          unfold f_X9_rowHeight f_X9_rowHeight_L40
          rw [chk_pos s1.m.1, lt_is, g_isRow rm w hx, bnd_ret, if_neg (fun z => bN0.mp z q), if_pos b0, chk_pos s0.m.1, e3, bnd_ret, if_pos (bN0.mpr p), chk_pos s3.m.1, g_fails s3, bnd_ret]
    · obtain ⟨h2, e2, st, a2⟩ := g_bestS wd s c
      by_cases p : 0 ≤ lhF D.1 1000000 (D.1 1)
      · obtain ⟨a2, gw⟩ := a2 p
        rw [if_pos p] at e2
        obtain ⟨h3, e3, f3, t3⟩ := g_heightOfRow st.2.1.1.1 w gw (arr := 162 + 3 + (D.1 1).toNat) (r := x) (by omega) (by omega) (st.1.u.lo (by omega)) (st.1.u.lw (by omega)) a2
        refine OpP.A (rhN D.1 x (bsC D.1 1000000 (D.1 1)).2 (D.1 5).toNat) wd (st.h wd f3 t3) ?_ (fun h1 s1 r1 s0 rm => ?_)
        · unfold f_L_rowHeight f_X8_rowHeight f_X8_rowHeight_L25
          rw [chk_pos s.o1, chk_pos s.o1, g_rqRow w s t hx, if_pos q, bnd_ret, chk_pos s.o1, s.t0, chk_pos t.1.o, if_neg b0, e2, bnd_ret, chk_pos st.2.1.1.1.1.o, e3, bnd_ret, bndX_ret]
        · obtain ⟨h5, e5, f5, t5, a5⟩ := g_isBest w rm
          have s5 := s0.ly f5.1
          obtain ⟨h6, e6, f6⟩ := g_rowHigh (rm.x f5) w gw (arr := 632 + 22) (r := x) (by omega) (by omega) s5.m.o31 s5.m.w31 (a5 p).2
          refine ⟨h6, ?_, f5.tr f6.bx⟩
          unfold f_X9_rowHeight f_X9_rowHeight_L46 f_X9_rowHeight_L63
          rw [chk_pos s1.m.1, lt_is, g_isRow rm w hx, bnd_ret, if_neg (fun z => bN0.mp z q), if_neg b0, chk_pos s0.m.1, e5, bnd_ret, if_neg (fun z => bN0.mp z p), if_neg b0, chk_pos s5.m.1, s5.m.r31, chk_pos s5.m.o31, chk_pos s5.m.1, e6, bnd_ret]
      · rw [if_neg p] at e2
        refine OpP.F 2 (by omega) wd st ?_ (fun h1 s1 r1 s0 rm => ?_)
        · unfold f_L_rowHeight f_X8_rowHeight
          rw [chk_pos s.o1, chk_pos s.o1, g_rqRow w s t hx, if_pos q, bnd_ret, chk_pos s.o1, s.t0, chk_pos t.1.o, if_neg b0, e2, bnd_thr, bndX_thr, if_neg (by decide), if_pos rfl]
        · obtain ⟨h5, e5, f5, t5, a5⟩ := g_isBest w rm
          have s5 := s0.ly f5.1
          refine ⟨h5, ?_, f5⟩
          unfold f_X9_rowHeight f_X9_rowHeight_L40
          rw [chk_pos s1.m.1, lt_is, g_isRow rm w hx, bnd_ret, if_neg (fun z => bN0.mp z q), if_neg b0, chk_pos s0.m.1, e5, bnd_ret, if_pos (bN0.mpr p), chk_pos s5.m.1, g_fails s5, bnd_ret]
  · refine OpP.f0 1 (by omega) wd s c ?_ (fun h1 s1 r1 s0 rm => ?_)
    · unfold f_L_rowHeight f_X8_rowHeight
      rw [chk_pos s.o1, chk_pos s.o1, g_rqRow w s t hx, if_neg q, bnd_thr, bndX_thr, if_pos rfl]
    · unfold f_X9_rowHeight
      rw [chk_pos s1.m.1, lt_is, g_isRow rm w hx, bnd_ret, if_pos (bN0.mpr q), chk_pos s0.m.1, g_fails s0, bnd_ret]
theorem g_talL {D : Dt} (wd : WD D) {W : Int → Int} (gw : GW D.1 W) {r : Int} (hr : 0 ≤ r ∧ r < 100) {H : Int} (hH : 0 ≤ H ∧ H ≤ 1000) {arr : Nat} (hA : arr < 2 ∨ 2 + 148 ≤ arr) : ∀ (d k : Nat) (h : Hp) (n : Nat), (k : Int) + d = D.1 5 → d < n → SL h → CI h D → okr h arr 20 → qW h arr = 4 → AR h arr (D.1 0) W →
    ∃ h2 z, f_X8_tallest_L26 n h 1 (iN r) arr (iN H) (iN (-1)) (iN k) = f_X8_tallest_L88 h2 (iN (if z = D.1 5 then -1 else z)) ∧ Stq h h2 D ∧ LsT (fun i => blk D.1 i 0 = r ∧ hC D.1 i (wC D.1 i W) = H) k (D.1 5) z := by
  have w := wd.1
  have h5 := w.1.2.2.2.2.2
  intro d
  induction d with
  | zero =>
    intro k h n hk hn s c oa wa A
    obtain ⟨n, rfl⟩ : ∃ z, n = z + 1 := ⟨n - 1, by omega⟩
    refine ⟨h, D.1 5, ?_, Stq.rf s c, LsT.nil (by omega)⟩
    show f_X8_tallest_B26 (f_X8_tallest_L26 n) h 1 (iN r) arr (iN H) (iN (-1)) (iN k) = _
    unfold f_X8_tallest_B26
    rw [chk_pos s.o1, s.t0, chk_pos c.1.1.1.o, c.1.1.ns, if_pos (yleN (by omega) (by omega) (by omega)), if_pos rfl]
  | succ d ih =>
    intro k h n hk hn s c oa wa A
    have t := c.1.1
    have hk2 : 0 ≤ (k : Int) ∧ (k : Int) < D.1 5 := by omega
    have cc := t.cc hk2.1 hk2.2
    have co := (w.2.2.1 k hk2.1 hk2.2).1.1
    have h46 := w.1.2.2.2.2.1
    obtain ⟨n, rfl⟩ : ∃ z, n = z + 1 := ⟨n - 1, by omega⟩
    by_cases p : blk D.1 k 0 = r
    · obtain ⟨h2, e2, f2, t2⟩ := g_heightIn t w hk2 oa wa A gw
      have st := (Stq.rf s c).h wd f2 t2
      have hb := hC_bd w gw hk2
      have A2 : AR h2 arr (D.1 0) W := A.fz f2 (fun j z => by unfold pH at z; omega)
      by_cases p2 : hC D.1 k (wC D.1 k W) = H
      · refine ⟨h2, k, ?_, st, LsT.hit ⟨p, p2⟩ (by omega)⟩
        obtain ⟨n, rfl⟩ : ∃ z, n = z + 1 := ⟨n - 1, by omega⟩
        show f_X8_tallest_B26 (f_X8_tallest_L26 (n + 1)) h 1 (iN r) arr (iN H) (iN (-1)) (iN k) = _
        unfold f_X8_tallest_B26 f_X8_tallest_L82
        rw [chk_pos s.o1, s.t0, chk_pos t.1.o, t.ns, if_neg (nleN (by omega) (by omega) (by omega)), if_neg (by decide), t.1.r8, chk_pos t.1.o3, t.1.w3, ck_in (by omega) (by omega) (by omega), cA_eq (by omega) (by omega), chk_pos (t.1.co (by omega)), cc.1.1, if_pos (by rw [p]), e2, bnd_ret, if_pos (by rw [p2]), iN_add]
        show f_X8_tallest_B26 (f_X8_tallest_L26 n) h2 1 (iN r) arr (iN H) (iN k) (iN (k + 1)) = _
        unfold f_X8_tallest_B26
        rw [chk_pos st.1.o1, st.1.t0, chk_pos t2.1.o, t2.ns, if_neg (show ¬ (k : Int) = D.1 5 by omega), if_pos (show (0 : Int32) ≤ iN k from (iN_0le (by omega) (by omega)).mpr (by omega))]
        split <;> rfl
      · obtain ⟨h4, z, e4, st4, l4⟩ := ih (k + 1) h2 n (by omega) (by omega) st.1 st.2.1 (f2.1.ok.mpr oa) (by rw [f2.1.2.2.1]; exact wa) A2
        refine ⟨h4, z, ?_, st.tr st4, l4.nx (fun y => p2 y.2)⟩
        show f_X8_tallest_B26 (f_X8_tallest_L26 n) h 1 (iN r) arr (iN H) (iN (-1)) (iN k) = _
        unfold f_X8_tallest_B26 f_X8_tallest_L82
        rw [chk_pos s.o1, s.t0, chk_pos t.1.o, t.ns, if_neg (nleN (by omega) (by omega) (by omega)), if_neg (by decide), t.1.r8, chk_pos t.1.o3, t.1.w3, ck_in (by omega) (by omega) (by omega), cA_eq (by omega) (by omega), chk_pos (t.1.co (by omega)), cc.1.1, if_pos (by rw [p]), e2, bnd_ret, if_neg (neN p2 (by omega) (by omega) (by omega) (by omega)), iN_add]
        exact e4
    · obtain ⟨h4, z, e4, st4, l4⟩ := ih (k + 1) h n (by omega) (by omega) s c oa wa A
      refine ⟨h4, z, ?_, st4, l4.nx (fun y => p y.1)⟩
      show f_X8_tallest_B26 (f_X8_tallest_L26 n) h 1 (iN r) arr (iN H) (iN (-1)) (iN k) = _
      unfold f_X8_tallest_B26 f_X8_tallest_L82
      rw [chk_pos s.o1, s.t0, chk_pos t.1.o, t.ns, if_neg (nleN (by omega) (by omega) (by omega)), if_neg (by decide), t.1.r8, chk_pos t.1.o3, t.1.w3, ck_in (by omega) (by omega) (by omega), cA_eq (by omega) (by omega), chk_pos (t.1.co (by omega)), cc.1.1, if_neg (neN p (by omega) (by omega) (by omega) (by omega)), iN_add]
      exact e4
theorem LsT.dn {P : Int → Prop} {a b z : Int} (l : LsT P (a + 1) b z) (hab : a < b) : (P a → LsT P a b a) ∧ (¬ P a → LsT P a b z) := ⟨fun h => LsT.hit h hab, fun h => l.nx h⟩
theorem g_talL9 {m : Int → Int} (w : WF m) {W : Int → Int} (gw : GW m W) {r : Int} (hr : 0 ≤ r ∧ r < 100) : ∀ (d : Nat) (z : Int) (h : Hp) (n : Nat), (d : Int) ≤ m 5 → d < n → SL h → RM h 632 m → AR h 654 (m 0) W → LsT (fun i => blk m i 0 = r ∧ hC m i (wC m i W) = rhN m r W (m 5).toNat) d (m 5) z →
    ∃ h2 y, f_X9_tallest_L43 n h 632 (iN r) (iN (if z = m 5 then -1 else z)) (iN ((d : Int) - 1)) = (if y = m 5 then some (putI h2 632 0 (iN 3), .inr (iN 0)) else some (h2, .inr (iN y))) ∧ FZ (pX 632) h h2 ∧ LsT (fun i => blk m i 0 = r ∧ hC m i (wC m i W) = rhN m r W (m 5).toNat) 0 (m 5) y := by
  have h5 := w.1.2.2.2.2.2
  have h46 := w.1.2.2.2.2.1
  intro d
  induction d with
  | zero =>
    intro z h n hd hn s rm A l
    obtain ⟨n, rfl⟩ : ∃ z, n = z + 1 := ⟨n - 1, by omega⟩
    have zb := l.bd (by omega)
    refine ⟨h, z, ?_, FZ.rf, l⟩
    show f_X9_tallest_B43 (f_X9_tallest_L43 n) h 632 (iN r) (iN (if z = m 5 then -1 else z)) (iN (((0 : Nat) : Int) - 1)) = _
    unfold f_X9_tallest_B43
    rw [if_pos ((iN_lt0 (by omega) (by omega)).mpr (by omega))]
    by_cases e : z = m 5
    · rw [if_pos e, if_pos e, if_pos rfl, chk_pos s.m.1, g_fails s, bnd_ret]
    · rw [if_neg e, if_neg e, if_neg (neN (by omega) (by omega) (by omega) (by omega) (by omega))]
  | succ d ih =>
    intro z h n hd hn s rm A l
    obtain ⟨n, rfl⟩ : ∃ z, n = z + 1 := ⟨n - 1, by omega⟩
    have hk2 : 0 ≤ (d : Int) ∧ (d : Int) < m 5 := by omega
    have hk3 : 0 ≤ (d : Int) ∧ (d : Int) < 16 := by omega
    have wb := w.2.2.1 d hk2.1 hk2.2
    have l1 : LsT (fun i => blk m i 0 = r ∧ hC m i (wC m i W) = rhN m r W (m 5).toNat) ((d : Int) + 1) (m 5) z := l
    have l2 := l1.dn hk2.2
    have ec : (((d + 1 : Nat) : Int) - 1) = d := by omega
    rw [ec]
    by_cases p : blk m d 0 = r
    · have hb := hC_bd w gw hk2
      obtain ⟨h3, e3, f3⟩ := g_heightOf rm hk3 wb.2 w.1.2.2.2.1 (x := wC m d W) (by omega) hb.1
      have s3 := s.ly f3.1
      have rm3 := rm.fz f3 (fun j z => by unfold pB at z; omega)
      have A3 : AR h3 654 (m 0) W := A.fz f3 (fun j z => by unfold pB at z; omega)
      obtain ⟨h4, e4, f4⟩ := g_rowHigh rm3 w gw (arr := 654) (r := r) (by omega) (by omega) s3.m.o31 s3.m.w31 A3
      have s4 := s3.ly f4.1
      have rm4 := rm3.fz f4 (fun j z => by unfold pB at z; omega)
      have A4 : AR h4 654 (m 0) W := A3.fz f4 (fun j z => by unfold pB at z; omega)
      have rb := rhN_bd w gw (r := r) (m 5).toNat (by omega)
      by_cases p2 : hC m d (wC m d W) = rhN m r W (m 5).toNat
      · obtain ⟨h6, y, e6, f6, l6⟩ := ih d h4 n (by omega) (by omega) s4 rm4 A4 (l2.1 ⟨p, p2⟩)
        refine ⟨h6, y, ?_, (f3.bx.tr f4.bx).tr f6, l6⟩
        show f_X9_tallest_B43 (f_X9_tallest_L43 n) h 632 (iN r) (iN (if z = m 5 then -1 else z)) (iN d) = _
        unfold f_X9_tallest_B43 f_X9_tallest_L88 f_X9_tallest_L100
        rw [if_neg (fun z => by have := (iN_lt0 (by omega) (by omega)).mp z; omega), chk_pos s.m.1, g_ofA rm hk3 (by omega), bnd_ret, if_pos (by rw [p]), chk_pos s.m.1, s.m.r31, chk_pos s.m.o31, g_widthOf rm w hk2 s.m.o31 s.m.w31 A, bnd_ret, chk_pos s.m.1, e3, bnd_ret, chk_pos s3.m.1, s3.m.r31, chk_pos s3.m.o31, e4, bnd_ret, if_pos (by rw [p2]), if_neg (by decide), iN_add, show (d : Int) + -1 = d - 1 by omega, ← e6, if_neg (show ¬ (d : Int) = m 5 by omega)]
      · obtain ⟨h6, y, e6, f6, l6⟩ := ih z h4 n (by omega) (by omega) s4 rm4 A4 (l2.2 (fun y => p2 y.2))
        refine ⟨h6, y, ?_, (f3.bx.tr f4.bx).tr f6, l6⟩
        show f_X9_tallest_B43 (f_X9_tallest_L43 n) h 632 (iN r) (iN (if z = m 5 then -1 else z)) (iN d) = _
        unfold f_X9_tallest_B43 f_X9_tallest_L87 f_X9_tallest_L88 f_X9_tallest_L100
        rw [if_neg (fun z => by have := (iN_lt0 (by omega) (by omega)).mp z; omega), chk_pos s.m.1, g_ofA rm hk3 (by omega), bnd_ret, if_pos (by rw [p]), chk_pos s.m.1, s.m.r31, chk_pos s.m.o31, g_widthOf rm w hk2 s.m.o31 s.m.w31 A, bnd_ret, chk_pos s.m.1, e3, bnd_ret, chk_pos s3.m.1, s3.m.r31, chk_pos s3.m.o31, e4, bnd_ret, if_neg (neN p2 (by omega) (by omega) (by omega) (by omega)), if_pos (by decide), iN_add, show (d : Int) + -1 = d - 1 by omega, ← e6]
    · obtain ⟨h6, y, e6, f6, l6⟩ := ih z h n (by omega) (by omega) s rm A (l2.2 (fun y => p y.1))
      refine ⟨h6, y, ?_, f6, l6⟩
      show f_X9_tallest_B43 (f_X9_tallest_L43 n) h 632 (iN r) (iN (if z = m 5 then -1 else z)) (iN d) = _
      have c0 := wb.1.1
      unfold f_X9_tallest_B43 f_X9_tallest_L87 f_X9_tallest_L88 f_X9_tallest_L100
      rw [if_neg (fun z => by have := (iN_lt0 (by omega) (by omega)).mp z; omega), chk_pos s.m.1, g_ofA rm hk3 (by omega), bnd_ret, if_neg (neN p (by omega) (by omega) (by omega) (by omega)), if_pos (by decide), iN_add, show (d : Int) + -1 = d - 1 by omega, ← e6]
theorem o_tallest {h : Hp} {D : Dt} (wd : WD D) (s : SL h) (c : CI h D) {x : Int} (hx : InR x) : OpP h D (f_L_tallest h 1 (iN x) 656) (fun h1 => f_X9_tallest h1 632 (iN x)) := by
  have w := wd.1
  have t := c.1.1
  have h4 := w.1.2.2.2.2.1
  have h5 := w.1.2.2.2.2.2
  have hm1 := w.1.2.1
  by_cases q : 0 ≤ x ∧ x ≤ D.1 4 - 1
  · obtain ⟨h2, e2, st, a2⟩ := g_bestS wd s c
    by_cases p : 0 ≤ lhF D.1 1000000 (D.1 1)
    · obtain ⟨a2, gw⟩ := a2 p
      rw [if_pos p] at e2
      have ao := st.1.u.lo (x := (D.1 1).toNat) (by omega)
      have aw := st.1.u.lw (x := (D.1 1).toNat) (by omega)
      obtain ⟨h3, e3, f3, t3⟩ := g_heightOfRow st.2.1.1.1 w gw (arr := 162 + 3 + (D.1 1).toNat) (r := x) (by omega) (by omega) ao aw a2
      have st3 := st.h wd f3 t3
      have rb := rhN_bd w gw (r := x) (D.1 5).toNat (by omega)
      obtain ⟨h6, z, e6, st6, l6⟩ := g_talL wd gw (r := x) (H := rhN D.1 x (bsC D.1 1000000 (D.1 1)).2 (D.1 5).toNat) (by omega) (by omega) (arr := 162 + 3 + (D.1 1).toNat) (by omega) (D.1 5).toNat 0 h3 2000 (by omega) (by omega) st3.1 st3.2.1 (f3.1.ok.mpr ao) (by rw [f3.1.2.2.1]; exact aw) (a2.fz f3 (fun j z => by unfold pH at z; omega))
      have zb := l6.bd (by omega)
      have cls : f_X8_tallest h 1 (iN x) = f_X8_tallest_L88 h6 (iN (if z = D.1 5 then -1 else z)) := by
        unfold f_X8_tallest
        rw [chk_pos s.o1, g_rqRow w s t hx, if_pos q, bnd_ret, chk_pos s.o1, e2, bnd_ret, chk_pos st.1.o1, st.1.t0, chk_pos st.2.1.1.1.1.o, e3, bnd_ret]
        exact e6
      have ref : ∀ h1, SL h1 → RM (putI h1 632 0 (iN 0)) 632 D.1 → SL (putI h1 632 0 (iN 0)) → ∃ h2, f_X9_tallest h1 632 (iN x) = (if z = D.1 5 then some (putI h2 632 0 (iN 3), .inr (iN 0)) else some (h2, .inr (iN z))) ∧ FZ (pX 632) (putI h1 632 0 (iN 0)) h2 := by
        intro h1 s1 rm s0
        obtain ⟨h5, e5, f5, t5, a5⟩ := g_isBest w rm
        have s5 := s0.ly f5.1
        have rm5 := rm.x f5
        obtain ⟨h7, y, e7, f7, l7⟩ := g_talL9 w gw (r := x) (by omega) (D.1 5).toNat (D.1 5) h5 2000 (by omega) (by omega) s5 rm5 (a5 p).2 (LsT.nil (by omega))
        have ey : y = z := l7.uq l6
        rw [ey] at e7
        refine ⟨h7, ?_, f5.tr f7⟩
        rw [if_pos rfl, show (((D.1 5).toNat : Nat) : Int) - 1 = D.1 5 - 1 by omega] at e7
        unfold f_X9_tallest
        rw [chk_pos s1.m.1, lt_is, g_isRow rm w hx, bnd_ret, if_neg (fun z => bN0.mp z q), chk_pos s0.m.1, e5, bnd_ret, if_neg (fun z => bN0.mp z p), chk_pos s5.m.1, s5.m.r1, chk_pos s5.m.o1, s5.m.w1, ck_in (by omega) (by omega) (by omega), g_rd rm5 (by omega) (by omega), iN_sub]
        exact e7
      by_cases zz : z = D.1 5
      · rw [if_pos zz] at cls
        refine OpP.F 3 (by omega) wd (st3.tr st6) ?_ (fun h1 s1 r1 s0 rm => ?_)
        · unfold f_L_tallest
          rw [chk_pos s.o1, cls]
          unfold f_X8_tallest_L88 f_X8_tallest_L98
          rw [if_pos (by decide), g_rqE0, bnd_thr, bndX_thr, if_neg (by decide), if_neg (by decide), if_pos rfl]
        · obtain ⟨h8, e8, f8⟩ := ref h1 s1 rm s0
          exact ⟨h8, by rw [e8, if_pos zz], f8⟩
      · rw [if_neg zz] at cls
        refine OpP.A z wd (st3.tr st6) ?_ (fun h1 s1 r1 s0 rm => ?_)
        · unfold f_L_tallest
          rw [chk_pos s.o1, cls]
          unfold f_X8_tallest_L88 f_X8_tallest_L98
          rw [if_neg (fun z => by have := (iN_lt0 (by omega) (by omega)).mp z; omega), g_rqE1, bnd_ret, bndX_ret]
        · obtain ⟨h8, e8, f8⟩ := ref h1 s1 rm s0
          exact ⟨h8, by rw [e8, if_neg zz], f8⟩
    · rw [if_neg p] at e2
      refine OpP.F 2 (by omega) wd st ?_ (fun h1 s1 r1 s0 rm => ?_)
      · unfold f_L_tallest f_X8_tallest
        rw [chk_pos s.o1, chk_pos s.o1, g_rqRow w s t hx, if_pos q, bnd_ret, chk_pos s.o1, e2, bnd_thr, bndX_thr, if_neg (by decide), if_pos rfl]
      · obtain ⟨h5, e5, f5, t5, a5⟩ := g_isBest w rm
        have s5 := s0.ly f5.1
        refine ⟨h5, ?_, f5⟩
        unfold f_X9_tallest
        rw [chk_pos s1.m.1, lt_is, g_isRow rm w hx, bnd_ret, if_neg (fun z => bN0.mp z q), chk_pos s0.m.1, e5, bnd_ret, if_pos (bN0.mpr p), chk_pos s5.m.1, g_fails s5, bnd_ret]
  · refine OpP.f0 1 (by omega) wd s c ?_ (fun h1 s1 r1 s0 rm => ?_)
    · unfold f_L_tallest f_X8_tallest
      rw [chk_pos s.o1, chk_pos s.o1, g_rqRow w s t hx, if_neg q, bnd_thr, bndX_thr, if_pos rfl]
    · unfold f_X9_tallest
      rw [chk_pos s1.m.1, lt_is, g_isRow rm w hx, bnd_ret, if_pos (bN0.mpr q), chk_pos s0.m.1, g_fails s0, bnd_ret]
theorem o_heightAt {h : Hp} {D : Dt} (wd : WD D) (s : SL h) (c : CI h D) {x : Int} (hx : InR x) : OpP h D (f_L_heightAt h 1 (iN x) 656) (fun h1 => f_X9_heightAt h1 632 (iN x)) := by
  have w := wd.1
  by_cases q : 8 ≤ x ∧ x ≤ 36
  · obtain ⟨h2, e2, st⟩ := g_leastS wd s c (x := x) (by omega)
    have lb := lh_bd w (L := 1000000) (x := x) q.2
    have ref : ∀ h1, SL h1 → RM (putI h1 632 0 (iN 0)) 632 D.1 → SL (putI h1 632 0 (iN 0)) → ∃ h2, f_X9_heightAt h1 632 (iN x) = (if 0 ≤ lhF D.1 1000000 x then some (h2, .inr (iN (lhF D.1 1000000 x))) else some (putI h2 632 0 (iN 2), .inr (iN 0))) ∧ FZ (pX 632) (putI h1 632 0 (iN 0)) h2 := by
      intro h1 s1 rm s0
      obtain ⟨h3, e3, f3, t3⟩ := g_reckons w rm
      have s3 := s0.ly f3.1
      obtain ⟨h4, e4, f4, t4⟩ := g_highAt w q (rm.x f3.rx) t3
      have s4 := s3.ly f4.1
      refine ⟨h4, ?_, f3.rx.tr f4⟩
      unfold f_X9_heightAt
      rw [chk_pos s1.m.1, lt_is, g_in hx ⟨(by omega), (by omega)⟩ ⟨(by omega), (by omega)⟩, bnd_ret, if_neg (fun z => bN0.mp z q), chk_pos s0.m.1, e3, bnd_ret, chk_pos s3.m.1, e4, bnd_ret]
      by_cases p : 0 ≤ lhF D.1 1000000 x
      · rw [if_pos p, if_neg (neN (by omega) (by omega) (by omega) (by omega) (by omega))]
      · rw [if_neg p, if_pos (by rw [show lhF D.1 1000000 x = -1 by omega]), chk_pos s4.m.1, g_fails s4, bnd_ret]
    by_cases p : 0 ≤ lhF D.1 1000000 x
    · refine OpP.A (lhF D.1 1000000 x) wd st ?_ (fun h1 s1 r1 s0 rm => ?_)
      · unfold f_L_heightAt f_X8_heightAt f_X8_heightAt_L29
        rw [chk_pos s.o1, g_isW hx ⟨(by omega), (by omega)⟩ ⟨(by omega), (by omega)⟩, bnd_ret, g_rqA, if_pos q, bnd_ret, chk_pos s.o1, s.t2, chk_pos s.u.o, e2, bnd_ret, if_neg (fun z => by have := (iN_lt0 (by omega) (by omega)).mp z; omega), g_rqE1, bnd_ret, bndX_ret]
      · obtain ⟨h8, e8, f8⟩ := ref h1 s1 rm s0
        exact ⟨h8, by rw [e8, if_pos p], f8⟩
    · refine OpP.F 2 (by omega) wd st ?_ (fun h1 s1 r1 s0 rm => ?_)
      · unfold f_L_heightAt f_X8_heightAt f_X8_heightAt_L29
        rw [chk_pos s.o1, g_isW hx ⟨(by omega), (by omega)⟩ ⟨(by omega), (by omega)⟩, bnd_ret, g_rqA, if_pos q, bnd_ret, chk_pos s.o1, s.t2, chk_pos s.u.o, e2, bnd_ret, if_pos ((iN_lt0 (by omega) (by omega)).mpr (by omega)), g_rqE0, bnd_thr, bndX_thr, if_neg (by decide), if_pos rfl]
      · obtain ⟨h8, e8, f8⟩ := ref h1 s1 rm s0
        exact ⟨h8, by rw [e8, if_neg p], f8⟩
  · refine OpP.f0 1 (by omega) wd s c ?_ (fun h1 s1 r1 s0 rm => ?_)
    · unfold f_L_heightAt f_X8_heightAt
      rw [chk_pos s.o1, g_isW hx ⟨(by omega), (by omega)⟩ ⟨(by omega), (by omega)⟩, bnd_ret, g_rqA, if_neg q, bnd_thr, bndX_thr, if_pos rfl]
    · unfold f_X9_heightAt
      rw [chk_pos s1.m.1, lt_is, g_in hx ⟨(by omega), (by omega)⟩ ⟨(by omega), (by omega)⟩, bnd_ret, if_pos (bN0.mpr q), chk_pos s0.m.1, g_fails s0, bnd_ret]
