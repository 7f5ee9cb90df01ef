/-! ===== STAGE B: calls of both sides: count, property, cellAt, columnWidth, .. ===== -/
theorem bndX_ret {α β : Type} {h1 : Hp} {v : α} {k : Hp → α → Option (Rs β)} {kx : Hp → Nat → Option (Rs β)} : bndX (some (h1, .inr v)) k kx = k h1 v := rfl
theorem bndX_thr {α β : Type} {h1 : Hp} {e : Nat} {k : Hp → α → Option (Rs β)} {kx : Hp → Nat → Option (Rs β)} : bndX (some (h1, .inl e)) k kx = kx h1 e := rfl
theorem g_fails {h : Hp} (s : SL h) {k : Int} : f_X9_fails h 632 (iN k) = some (putI h 632 0 (iN k), .inr (iN 0)) := by
  unfold f_X9_fails
  rw [chk_pos s.m.1, lt_is]
theorem RI.t {h : Hp} {D : Dt} (r : RI h D) {v : Int32} : RI (putI h 632 0 v) D := ⟨r.1.ne (by decide), r.2.fz (P := fun x j => x = 632 ∧ j = 0) (fun x j z => by rw [qI_pI, if_neg z]) (fun x j z => by omega)⟩
theorem SL.pI {h : Hp} {a k : Nat} {v : Int32} (s : SL h) : SL (putI h a k v) := s.ly Ly.pI
theorem pX_632 {x j : Nat} (z : pX 632 x j) : 632 ≤ x := by unfold pX at z; omega
theorem RI.x {h h2 : Hp} {D : Dt} (r : RI h D) (f : FZ (pX 632) h h2) : RI h2 D := ⟨r.1.fz f (fun j z => by unfold pX at z; omega), r.2.fz f.2 (fun x j z z2 => by unfold pX at z2; omega)⟩
theorem FZ.r0 {h : Hp} {v : Int32} : FZ (fun x _ => 632 ≤ x) h (putI h 632 0 v) := FZ.pI (by omega)
/-- the reference answers v out of scratch alone -/
theorem ROp.a {h h2 : Hp} {D : Dt} {y : Option (Rs Int32)} {v : Int} (r : RI h D) (f : FZ (pX 632) (putI h 632 0 (iN 0)) h2) (e : y = some (h2, .inr (iN v))) : ROp h D y 0 v := ⟨h2, v, e, fun _ => rfl, by rw [f.2 632 0 (fun z => by unfold pX at z; omega), rd_eq], FZ.r0.tr (f.mo (fun x j z => pX_632 z)), r.t.x f⟩
/-- the reference fails with k -/
theorem ROp.f {h h2 : Hp} {D : Dt} {y : Option (Rs Int32)} {v k : Int} (hk : k ≠ 0) (r : RI h D) (f : FZ (pX 632) (putI h 632 0 (iN 0)) h2) (e : y = some (putI h2 632 0 (iN k), .inr (iN 0))) : ROp h D y k v := ⟨_, 0, e, fun z => absurd z hk, rd_eq, (FZ.r0.tr (f.mo (fun x j z => pX_632 z))).tr FZ.r0, (r.t.x f).t⟩
theorem pS_632 {x j : Nat} (z : pS 2 162 x j) : 2 ≤ x ∧ x ≤ 209 ∧ ¬ (150 ≤ x ∧ x ≤ 161) := by unfold pS pH at z; omega
theorem CI.s {h h2 : Hp} {D : Dt} (w : WD D) (c : CI h D) (f : FZ (pS 2 162) h h2) (t : TM h2 2 D.1) (sm : SM h2 162 D.1 1000000) : CI h2 D := ⟨⟨t, c.1.2.1.fz f (fun x j h1 h2 z => by have := pS_632 z; omega), sm⟩, c.2.fz w.2 f (fun x j z z2 => by have := pS_632 z2; omega)⟩
theorem FZ.s632 {h h2 : Hp} (f : FZ (pS 2 162) h h2) : ∀ x j, 632 ≤ x → qI h2 x j = qI h x j := fun x j hx => f.2 x j (fun z => by have := pS_632 z; omega)
/-- caches of the main table's cells alone -/
theorem CI.h {h h2 : Hp} {D : Dt} (w : WD D) (c : CI h D) (f : FZ (pH 2) h h2) (t : TM h2 2 D.1) : CI h2 D := ⟨⟨t, c.1.2.1.fz f (fun x j h1 h2 z => by unfold pH at z; omega), c.1.2.2.fz f (fun x j h1 h2 z => by unfold pH at z; omega)⟩, c.2.fz w.2 f (fun x j z z2 => by unfold pH at z2; omega)⟩
theorem FZ.h632 {h h2 : Hp} (f : FZ (pH 2) h h2) : ∀ x j, 632 ≤ x → qI h2 x j = qI h x j := fun x j hx => f.2 x j (fun z => by unfold pH at z; omega)
theorem FZ.qc {P : Nat → Nat → Prop} {h h2 : Hp} (f : FZ P h h2) : qC h2 = qC h ∧ qS h2 = qS h := ⟨f.1.2.2.2.2.2.1, f.1.2.2.2.2.2.2⟩
theorem ref0 {h : Hp} {D : Dt} (s : SL h) (r : RI h D) : SL (putI h 632 0 (iN 0)) ∧ RI (putI h 632 0 (iN 0)) D ∧ RM (putI h 632 0 (iN 0)) 632 D.1 := ⟨s.pI, r.t, r.t.rm s.pI⟩
/-- the class's last step: v into out -/
noncomputable abbrev ansL (h : Hp) (v : Int32) : Option (Rs Int32) := chk (okr h 656 21) <| chk (vp_in (iN 0) (qW h 656)) <| lt (putL h 656 (Int32.toNatClampNeg (iN 0)) (Int32.toInt64 v)) fun h6 => some (h6, .inr (iN 0))
/-- both answer v, and nothing of the document's changes -/
theorem OpP.a {h h' : Hp} {D : Dt} {x : Option (Rs Int32)} {y : Hp → Option (Rs Int32)} (v : Int) (wd : WD D) (s : SL h') (c : CI h' D) (f : ∀ x j, 632 ≤ x → qI h' x j = qI h x j) (e1 : qC h' ≤ qC h + 1) (e2 : qS h' ≤ qS h + 6) (ex : x = ansL h' (iN v)) (ey : ∀ h1, SL h1 → RI h1 D → SL (putI h1 632 0 (iN 0)) → RM (putI h1 632 0 (iN 0)) 632 D.1 → ∃ h2, y h1 = some (h2, .inr (iN v)) ∧ FZ (pX 632) (putI h1 632 0 (iN 0)) h2) : OpP h D x y := by
  refine ⟨0, v, D, by omega, wd, by rw [ex]; exact COp.ret s c f e1 e2, fun h1 s1 r1 => ?_⟩
  obtain ⟨s0, r0, rm⟩ := ref0 s1 r1
  obtain ⟨h2, e3, f3⟩ := ey h1 s1 r1 s0 rm
  exact ROp.a r1 f3 e3
/-- both fail with k, and nothing of the document's changes -/
theorem OpP.f {h h' : Hp} {D : Dt} {x : Option (Rs Int32)} {y : Hp → Option (Rs Int32)} (k : Int) (hk : 1 ≤ k ∧ k ≤ 4) (wd : WD D) (s : SL h') (c : CI h' D) (f : ∀ x j, 632 ≤ x → qI h' x j = qI h x j) (e1 : qC h' ≤ qC h) (e2 : qS h' ≤ qS h) (ex : x = some (bump h', .inr (iN k))) (ey : ∀ h1, SL h1 → RI h1 D → SL (putI h1 632 0 (iN 0)) → RM (putI h1 632 0 (iN 0)) 632 D.1 → ∃ h2, y h1 = some (putI h2 632 0 (iN k), .inr (iN 0)) ∧ FZ (pX 632) (putI h1 632 0 (iN 0)) h2) : OpP h D x y := by
  refine ⟨k, 0, D, by omega, wd, by rw [ex]; exact COp.thr (by omega) s c f e1 e2, fun h1 s1 r1 => ?_⟩
  obtain ⟨s0, r0, rm⟩ := ref0 s1 r1
  obtain ⟨h2, e3, f3⟩ := ey h1 s1 r1 s0 rm
  exact ROp.f (by omega) r1 f3 e3
/-- the same, with the class's heap as it was -/
theorem OpP.a0 {h : Hp} {D : Dt} {x : Option (Rs Int32)} {y : Hp → Option (Rs Int32)} (v : Int) (wd : WD D) (s : SL h) (c : CI h D) (ex : x = ansL h (iN v)) (ey : ∀ h1, SL h1 → RI h1 D → SL (putI h1 632 0 (iN 0)) → RM (putI h1 632 0 (iN 0)) 632 D.1 → ∃ h2, y h1 = some (h2, .inr (iN v)) ∧ FZ (pX 632) (putI h1 632 0 (iN 0)) h2) : OpP h D x y := OpP.a v wd s c (fun _ _ _ => rfl) (by omega) (by omega) ex ey
theorem OpP.f0 {h : Hp} {D : Dt} {x : Option (Rs Int32)} {y : Hp → Option (Rs Int32)} (k : Int) (hk : 1 ≤ k ∧ k ≤ 4) (wd : WD D) (s : SL h) (c : CI h D) (ex : x = some (bump h, .inr (iN k))) (ey : ∀ h1, SL h1 → RI h1 D → SL (putI h1 632 0 (iN 0)) → RM (putI h1 632 0 (iN 0)) 632 D.1 → y h1 = some (putI (putI h1 632 0 (iN 0)) 632 0 (iN k), .inr (iN 0))) : OpP h D x y := OpP.f k hk wd s c (fun _ _ _ => rfl) (Nat.le_refl _) (Nat.le_refl _) ex (fun h1 s1 r1 s0 rm => ⟨_, ey h1 s1 r1 s0 rm, FZ.rf⟩)
theorem eN0 {a : Int} (h : a ≠ 0) (h1 : -2147483648 ≤ a) (h2 : a < 2147483648) : ¬ iN a = 0 := fun z => h ((iN_eq0 h1 h2).mp z)
theorem g_textOf {h : Hp} {m : Int → Int} (w : WF m) (s : SL h) (t : TM h 2 m) {x : Int} (hx : InR x) : f_X8_textOf h 1 (iN x) = if 0 ≤ x ∧ x ≤ m 5 - 1 then (if blk m x 3 ≤ 3 then some (h, .inr (cA h 2 x + 1)) else some (bump h, .inl 4)) else some (bump h, .inl 2) := by
  have h5 := w.1.2.2.2.2.2
  unfold f_X8_textOf
  rw [chk_pos s.o1, g_rqCell w s t hx]
  by_cases q : 0 ≤ x ∧ x ≤ m 5 - 1
  · have cc := t.cc q.1 (show x < m 5 by omega)
    have wb := (w.2.2.1 x q.1 (by omega)).2
    have hx2 : 0 ≤ x ∧ x < 16 := by omega
    rw [if_pos q, if_pos q, bnd_ret, chk_pos s.o1, s.t0, chk_pos t.1.o, t.1.r8, chk_pos t.1.o3, t.1.w3, ck_in (by omega) (by omega) (by omega), cA_eq (by omega) (by omega), chk_pos (t.1.co hx2), t.1.cr hx2, chk_pos (t.1.cl hx2).1, g_isT (t.1.cl hx2) cc.2 wb, bnd_ret, g_rqU]
    by_cases q3 : blk m x 3 ≤ 3
    · rw [if_pos q3, if_pos q3, bnd_ret]
    · rw [if_neg q3, if_neg q3, bnd_thr]
  · rw [if_neg q, if_neg q, bnd_thr]
theorem g_autoW {h : Hp} {m : Int → Int} (s : SL h) (k : KM h 150 m) : f_X8_automaticWidths h 1 = if gsS m 0 ≤ usF m then some (h, .inr (150 + 10)) else some (bump h, .inl 0) := by
  unfold f_X8_automaticWidths
  rw [chk_pos s.o1, s.t1, chk_pos s.k.o, k.2.2.2.2.2.2, g_rqS]
  by_cases q : gsS m 0 ≤ usF m
  · rw [if_pos q, if_pos q, bnd_ret, chk_pos s.o1, s.t1, chk_pos s.k.o, s.k.r6, chk_pos s.k.o10]
  · rw [if_neg q, if_neg q, bnd_thr]
theorem g_bestW {h : Hp} {m : Int → Int} (w : WF m) (s : SL h) (c : CM h m) : ∃ h2, f_X8_bestWidths h 1 = (if 0 ≤ lhF m 1000000 (m 1) then some (h2, .inr (162 + 3 + (m 1).toNat)) else some (bump h2, .inl 0)) ∧ FZ (pS 2 162) h h2 ∧ TM h2 2 m ∧ SM h2 162 m 1000000 ∧ (0 ≤ lhF m 1000000 (m 1) → AR h2 (162 + 3 + (m 1).toNat) (m 0) (bsC m 1000000 (m 1)).2) := by
  have h1 := w.1.2.1
  have lb := lh_bd w (L := 1000000) (x := m 1) h1.2
  obtain ⟨h2, e2, f2, t2, s2, a2⟩ := g_leastHeight w (L := 1000000) (x := m 1) (by omega) (by omega) s.u c.1 c.2.2
  have sl := s.ly f2.1
  refine ⟨h2, ?_, f2, t2, s2, fun q => a2 (lb.2.2.1.mp q)⟩
  unfold f_X8_bestWidths f_X8_bestWidths_L22
  rw [chk_pos s.o1, s.t2, chk_pos s.u.o, s.t0, chk_pos c.1.1.o, c.1.wd, e2, bnd_ret]
  by_cases q : 0 ≤ lhF m 1000000 (m 1)
  · have rq : f_X8_requireState h2 (iN 1) = some (h2, .inr ()) := by
      unfold f_X8_requireState
      rw [if_neg (by decide)]
    rw [if_neg (fun z => by have := (iN_lt0 (by omega) (by omega)).mp z; omega), if_pos q, rq, bnd_ret, chk_pos sl.o1, sl.t2, chk_pos sl.u.o, sl.t0, chk_pos t2.1.o, t2.wd]
    unfold f_X6_widthsFor
    rw [chk_pos sl.u.o, sl.u.r3, chk_pos sl.u.o2, sl.u.w2, ck_in (by omega) (by omega) (by omega), sl.u.lr (by omega), chk_pos (sl.u.lo (by omega)), bnd_ret]
  · have rq : f_X8_requireState h2 (iN 0) = some (bump h2, .inl 0) := by
      unfold f_X8_requireState
      rw [if_pos (by decide)]
    rw [if_pos ((iN_lt0 (by omega) (by omega)).mpr (by omega)), if_neg q, rq, bnd_thr]
theorem au_GW {m : Int → Int} (w : WF m) (h : gsS m 0 ≤ usF m) : GW m (auF m) := GW_of w (fun c z1 z2 => by
  have ub := us_bd w
  obtain ⟨b1, b2, b3, b4⟩ := au_eq w h (c := c) ⟨z1, z2⟩
  have sw := wkF_SW w h
  have fb := shF_bd sw ⟨z1, z2⟩
  have gb := gsS_bd w (g := bsF m)
  have g1 : (msW m).1 c ≤ gsF m (bsF m) c := by
    have := gs_bd w (c := c) ⟨z1, z2⟩
    unfold gsF
    split
    · omega
    · split
      · omega
      · split <;> omega
  have g2 : gsF m (bsF m) c ≤ gsS m (bsF m) := by
    have h0 := w.1.1
    have := sumF_ge (F := gsF m (bsF m)) (m 0).toNat (fun j hj => by have := gsF_bd w (g := bsF m) (c := (j : Int)) (by omega); omega) c.toNat (by omega)
    rw [Int.toNat_of_nonneg z1] at this
    exact this
  omega)
theorem o_count {h : Hp} {D : Dt} (wd : WD D) (s : SL h) (c : CI h D) {x : Int} (hx : InR x) : OpP h D (f_L_count h 1 (iN x) 656) (fun h1 => f_X9_count h1 632 (iN x)) := by
  have t := c.1.1
  have hx' := hx
  unfold InR at hx
  by_cases q : 0 ≤ x ∧ x ≤ 2
  · have hq : x = 0 ∨ x = 1 ∨ x = 2 := by omega
    have cl : f_L_count h 1 (iN x) 656 = if iN x = 0 then ansL h (iN (D.1 0)) else if iN x = iN 1 then ansL h (iN (D.1 4)) else ansL h (iN (D.1 5)) := by
      unfold f_L_count f_X8_count
      rw [chk_pos s.o1, g_isW hx' ⟨by omega, by omega⟩ ⟨by omega, by omega⟩, bnd_ret, g_rqA, if_pos q, bnd_ret, s.t0, chk_pos s.o1, chk_pos t.1.o, chk_pos s.o1, chk_pos t.1.o, chk_pos s.o1, chk_pos t.1.o, t.cs, t.rs, t.ns]
      rcases hq with rfl | rfl | rfl
      · rw [if_pos (by decide), if_pos (by decide), bndX_ret]
      · rw [if_neg (by decide), if_pos (by decide), if_neg (by decide), if_pos (by decide), bndX_ret]
      · rw [if_neg (by decide), if_neg (by decide), bndX_ret, if_neg (by decide), if_neg (by decide)]
    rcases hq with rfl | rfl | rfl
    · refine OpP.a0 (D.1 0) wd s c (by rw [cl, if_pos (by decide)]) (fun h1 s1 r1 s0 rm => ⟨_, ?_, FZ.rf⟩)
      unfold f_X9_count
      rw [chk_pos s1.m.1, lt_is, if_pos (by decide), rm.1.r1, chk_pos rm.1.o1, rm.1.w1, ck_in (by omega) (by omega) (by omega), g_rd rm (by omega) (by omega)]
    · refine OpP.a0 (D.1 4) wd s c (by rw [cl, if_neg (by decide), if_pos (by decide)]) (fun h1 s1 r1 s0 rm => ⟨_, ?_, FZ.rf⟩)
      unfold f_X9_count
      rw [chk_pos s1.m.1, lt_is, if_neg (by decide), if_pos (by decide), rm.1.r1, chk_pos rm.1.o1, rm.1.w1, ck_in (by omega) (by omega) (by omega), g_rd rm (by omega) (by omega)]
    · refine OpP.a0 (D.1 5) wd s c (by rw [cl, if_neg (by decide), if_neg (by decide)]) (fun h1 s1 r1 s0 rm => ⟨_, ?_, FZ.rf⟩)
      unfold f_X9_count
      rw [chk_pos s1.m.1, lt_is, if_neg (by decide), if_neg (by decide), if_pos (by decide), rm.1.r1, chk_pos rm.1.o1, rm.1.w1, ck_in (by omega) (by omega) (by omega), g_rd rm (by omega) (by omega)]
  · refine OpP.f0 1 (by omega) wd s c ?_ (fun h1 s1 r1 s0 rm => ?_)
    · unfold f_L_count f_X8_count
      rw [chk_pos s.o1, g_isW hx' ⟨by omega, by omega⟩ ⟨by omega, by omega⟩, bnd_ret, g_rqA, if_neg q, bnd_thr, bndX_thr, if_pos rfl]
    · unfold f_X9_count
      rw [chk_pos s1.m.1, lt_is, if_neg (eN0 (by omega) (by omega) (by omega)), if_neg (neN (by omega) (by omega) (by omega) (by omega) (by omega)), if_neg (neN (by omega) (by omega) (by omega) (by omega) (by omega)), g_fails s0, bnd_ret]
theorem c_property {h : Hp} {D : Dt} (wd : WD D) (s : SL h) (c : CI h D) {x y : Int} (hx : InR x) (hy : InR y) : f_L_property h 1 (iN x) (iN y) 656 = if 0 ≤ x ∧ x ≤ D.1 5 - 1 then (if 0 ≤ y ∧ y ≤ 6 then (if y = 5 then ansL h (iN (mnC D.1 x)) else if y = 6 then ansL h (iN (mxC D.1 x)) else ansL h (iN (blk D.1 x y))) else some (bump h, .inr (iN 2))) else some (bump h, .inr (iN 1)) := by
  have w := wd.1
  have t := c.1.1
  have h5 := w.1.2.2.2.2.2
  have hy' := hy
  unfold InR at hy'
  unfold f_L_property f_X8_property
  rw [chk_pos s.o1, chk_pos s.o1, g_rqCell w s t hx]
  by_cases q : 0 ≤ x ∧ x ≤ D.1 5 - 1
  · have hx3 : 0 ≤ x ∧ x < D.1 5 := by omega
    have hx2 : 0 ≤ x ∧ x < 16 := by omega
    have cc := t.cc hx3.1 hx3.2
    have wb := (w.2.2.1 x hx3.1 hx3.2).2
    rw [if_pos q, if_pos q, bnd_ret, g_isW hy ⟨by omega, by omega⟩ ⟨by omega, by omega⟩, bnd_ret, g_rqA]
    by_cases p : 0 ≤ y ∧ y ≤ 6
    · rw [if_pos p, if_pos p, bnd_ret, chk_pos s.o1, s.t0, chk_pos t.1.o, t.1.r8, chk_pos t.1.o3, t.1.w3, ck_in (by omega) (by omega) (by omega), cA_eq (by omega) (by omega), chk_pos (t.1.co hx2), cc.1.1, cc.1.2.1, cc.1.2.2, t.1.cr hx2, chk_pos (t.1.cl hx2).1, cc.2.1.1, chk_pos (t.1.cl hx2).1, HW_3 cc.2.2.1 wb.2.1.1, g_minimumOf t w hx3, g_maximumOf t w hx3, bnd_ret, bnd_ret]
      have hy7 : y = 0 ∨ y = 1 ∨ y = 2 ∨ y = 3 ∨ y = 4 ∨ y = 5 ∨ y = 6 := by omega
      rcases hy7 with rfl | rfl | rfl | rfl | rfl | rfl | rfl
      · rw [if_pos rfl, bndX_ret, if_neg (by decide), if_neg (by decide)]
      · rw [if_neg (by decide), if_pos rfl, bndX_ret, if_neg (by decide), if_neg (by decide)]
      · rw [if_neg (by decide), if_neg (by decide), if_pos rfl, bndX_ret, if_neg (by decide), if_neg (by decide)]
      · rw [if_neg (by decide), if_neg (by decide), if_neg (by decide), if_pos rfl, bndX_ret, if_neg (by decide), if_neg (by decide)]
      · rw [if_neg (by decide), if_neg (by decide), if_neg (by decide), if_neg (by decide), if_pos rfl, bndX_ret, if_neg (by decide), if_neg (by decide)]
      · rw [if_neg (by decide), if_neg (by decide), if_neg (by decide), if_neg (by decide), if_neg (by decide), if_pos rfl, bndX_ret, if_pos rfl]
      · rw [if_neg (by decide), if_neg (by decide), if_neg (by decide), if_neg (by decide), if_neg (by decide), if_neg (by decide), bndX_ret, if_neg (by decide), if_pos rfl]
    · rw [if_neg p, if_neg p, bnd_thr, bndX_thr, if_neg (by decide), if_pos rfl]
  · rw [if_neg q, if_neg q, bnd_thr, bndX_thr, if_pos rfl]
theorem o_property {h : Hp} {D : Dt} (wd : WD D) (s : SL h) (c : CI h D) {x y : Int} (hx : InR x) (hy : InR y) : OpP h D (f_L_property h 1 (iN x) (iN y) 656) (fun h1 => f_X9_property h1 632 (iN x) (iN y)) := by
  have w := wd.1
  have t := c.1.1
  have h5 := w.1.2.2.2.2.2
  have hy' := hy
  unfold InR at hy'
  have cl := c_property wd s c hx hy
  by_cases q : 0 ≤ x ∧ x ≤ D.1 5 - 1
  · have hx3 : 0 ≤ x ∧ x < D.1 5 := by omega
    have hx2 : 0 ≤ x ∧ x < 16 := by omega
    have wb := (w.2.2.1 x hx3.1 hx3.2).2
    rw [if_pos q] at cl
    by_cases p : 0 ≤ y ∧ y ≤ 6
    · rw [if_pos p] at cl
      by_cases y5 : y = 5
      · rw [if_pos y5] at cl
        refine OpP.a0 _ wd s c cl (fun h1 s1 r1 s0 rm => ?_)
        obtain ⟨h2, e2, f2⟩ := g_leastOf rm hx2 wb
        refine ⟨h2, ?_, f2.bx⟩
        unfold f_X9_property
        rw [y5, chk_pos s1.m.1, lt_is, g_isCell rm w hx, bnd_ret, if_neg (fun z => bN0.mp z q), if_neg (by decide), if_pos rfl, chk_pos s0.m.1, e2, bnd_ret]
      · rw [if_neg y5] at cl
        by_cases y6 : y = 6
        · rw [if_pos y6] at cl
          refine OpP.a0 _ wd s c cl (fun h1 s1 r1 s0 rm => ?_)
          obtain ⟨h2, e2, f2⟩ := g_mostOf rm hx2 wb
          refine ⟨h2, ?_, f2.bx⟩
          unfold f_X9_property
          rw [y6, chk_pos s1.m.1, lt_is, g_isCell rm w hx, bnd_ret, if_neg (fun z => bN0.mp z q), if_neg (by decide), if_neg (by decide), if_pos rfl, chk_pos s0.m.1, e2, bnd_ret]
        · rw [if_neg y6] at cl
          refine OpP.a0 _ wd s c cl (fun h1 s1 r1 s0 rm => ⟨_, ?_, FZ.rf⟩)
          unfold f_X9_property
          rw [chk_pos s1.m.1, lt_is, g_isCell rm w hx, bnd_ret, if_neg (fun z => bN0.mp z q)]
          by_cases y4 : y = 4
          · rw [y4, if_pos rfl, chk_pos s0.m.1, g_isText9 rm hx2 wb, bnd_ret]
            by_cases q3 : blk D.1 x 3 ≤ 3
            · rw [if_neg (fun z => bN0.mp z q3), chk_pos s0.m.1, g_ofA rm hx2 (by omega), bnd_ret]
            · rw [if_pos (bN0.mpr q3), wb.2.2.2.2.2.1 (by omega)]
          · rw [if_neg (neN y4 (by omega) (by omega) (by omega) (by omega)), if_neg (neN y5 (by omega) (by omega) (by omega) (by omega)), if_neg (neN y6 (by omega) (by omega) (by omega) (by omega)), g_in hy ⟨by omega, by omega⟩ ⟨by omega, by omega⟩, bnd_ret, if_neg (fun z => bN0.mp z (by omega)), chk_pos s0.m.1, g_ofA rm hx2 (by omega), bnd_ret]
    · rw [if_neg p] at cl
      refine OpP.f0 2 (by omega) wd s c cl (fun h1 s1 r1 s0 rm => ?_)
      unfold f_X9_property
      rw [chk_pos s1.m.1, lt_is, g_isCell rm w hx, bnd_ret, if_neg (fun z => bN0.mp z q), if_neg (neN (by omega) (by omega) (by omega) (by omega) (by omega)), if_neg (neN (by omega) (by omega) (by omega) (by omega) (by omega)), if_neg (neN (by omega) (by omega) (by omega) (by omega) (by omega)), g_in hy ⟨by omega, by omega⟩ ⟨by omega, by omega⟩, bnd_ret, if_pos (bN0.mpr (by omega)), chk_pos s0.m.1, g_fails s0, bnd_ret]
  · rw [if_neg q] at cl
    refine OpP.f0 1 (by omega) wd s c cl (fun h1 s1 r1 s0 rm => ?_)
    unfold f_X9_property
    rw [chk_pos s1.m.1, lt_is, g_isCell rm w hx, bnd_ret, if_pos (bN0.mpr q), chk_pos s0.m.1, g_fails s0, bnd_ret]
