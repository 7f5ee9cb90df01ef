/-! ===== STAGE B: density ===== -/
theorem g_ink4L {h : Hp} {q : Nat} {b : Int → Int} (l : LC h q) (c : HC h q b) (w : WB b) : ∀ (d k n : Nat), k + d = (b 4).toNat → d < n → f_X4_inkWithin_L26 n h q (iN (ltB b k)) (iN k) = some (h, .inr (iN (ltB b (b 4).toNat))) := by
  have w4 := w.2.1
  have h3 := HW_3 c.2.1 w4.1
  intro d
  induction d with
  | zero =>
    intro k n hk hn
    obtain ⟨n, rfl⟩ : ∃ z, n = z + 1 := ⟨n - 1, by omega⟩
    show f_X4_inkWithin_B26 (f_X4_inkWithin_L26 n) h q (iN (ltB b k)) (iN k) = _
    unfold f_X4_inkWithin_B26
    rw [chk_pos l.1, h3, if_pos (yleN (by omega) (by omega) (by omega)), show k = (b 4).toNat by omega]
  | succ d ih =>
    intro k n hk hn
    obtain ⟨n, rfl⟩ : ∃ z, n = z + 1 := ⟨n - 1, by omega⟩
    have e := (HW_at c.2.1 (k := k) (by omega)).1
    show f_X4_inkWithin_B26 (f_X4_inkWithin_L26 n) h q (iN (ltB b k)) (iN k) = _
    unfold f_X4_inkWithin_B26
    rw [chk_pos l.1, h3, if_neg (nleN (by omega) (by omega) (by omega)), l.2.1.1, chk_pos l.2.2.1.1, l.2.2.2.1, ck_in (by omega) (by omega) (by omega), iN_clN (by omega), e, iN_add, iN_add]
    have e2 : ltB b k + b (7 + (k : Int)) = ltB b (k + 1) := by
      unfold ltB
      rw [sumF, show (0 : Int) + (k : Int) = (k : Int) by omega]
    rw [e2]
    exact ih (k + 1) n (by omega) (by omega)
theorem g_ink4 {h : Hp} {q : Nat} {b : Int → Int} (l : LC h q) (c : HC h q b) (w : WB b) {x : Int} (hx : -50000 ≤ x ∧ x ≤ 50000) (hx1 : 4 ≤ b 3 → 1 ≤ x) : ∃ h2, f_X4_inkWithin h q (iN x) = some (h2, .inr (iN (inkB b x))) ∧ FZ (pQ q) h h2 ∧ HC h2 q b := by
  have w5 := w.2.2.1
  unfold f_X4_inkWithin inkB
  rw [chk_pos l.1, g_isT l c w, bnd_ret]
  by_cases q3 : b 3 ≤ 3
  · refine ⟨h, ?_, FZ.rf, c⟩
    rw [if_neg (fun z => bN0.mp z q3), if_pos q3]
    have := g_ink4L l c w (b 4).toNat 0 2000 (by omega) (by have := w.2.1; omega)
    exact this
  · obtain ⟨h2, e2, f2, c2⟩ := g_hw l c w hx hx1
    refine ⟨h2, ?_, f2, c2⟩
    rw [if_pos (bN0.mpr q3), chk_pos l.1, e2, bnd_ret, c.1.2.1, g_jmin ⟨by omega, by omega⟩ ⟨by omega, by omega⟩, iN_mul, if_neg q3]
/-- the class's ink -/
theorem g_denL {D : Dt} (wd : WD D) (gw : GW D.1 (auF D.1)) {A : Int} : ∀ (d k n : Nat) (h : Hp), (k : Int) + d = D.1 5 → d < n → SL h → CI h D → ∃ h2, f_X8_densityBits_L39 n h 1 (150 + 10) (iN A) (iN (inkS D.1 (auF D.1) k)) (iN k) = (chk (vf_n64 (FP.ddiv (FP.i2d (iN (inkS D.1 (auF D.1) (D.1 5).toNat))) (FP.i2d (iN A)))) <| bnd (f_X0_ofDouble h2 (FP.ddiv (FP.i2d (iN (inkS D.1 (auF D.1) (D.1 5).toNat))) (FP.i2d (iN A)))) fun h5 r6 => some (h5, .inr r6)) ∧ Stq h h2 D := by
  have w := wd.1
  have h5 := w.1.2.2.2.2.2
  have hp := w.1.2.2.2.1
  intro d
  induction d with
  | zero =>
    intro k n h hk hn s c
    have t := c.1.1
    obtain ⟨n, rfl⟩ : ∃ z, n = z + 1 := ⟨n - 1, by omega⟩
    refine ⟨h, ?_, Stq.rf s c⟩
    show f_X8_densityBits_B39 (f_X8_densityBits_L39 n) h 1 (150 + 10) (iN A) (iN (inkS D.1 (auF D.1) k)) (iN k) = _
    unfold f_X8_densityBits_B39
    rw [chk_pos s.o1, s.t0, chk_pos t.1.o, t.ns, if_pos (yleN (by omega) (by omega) (by omega)), show k = (D.1 5).toNat by omega]
  | succ d ih =>
    intro k n h hk hn s c
    have t := c.1.1
    obtain ⟨n, rfl⟩ : ∃ z, n = z + 1 := ⟨n - 1, by omega⟩
    have hi : 0 ≤ (k : Int) ∧ (k : Int) < D.1 5 := by omega
    have hi2 : 0 ≤ (k : Int) ∧ (k : Int) < 16 := by omega
    have wb := (w.2.2.1 k hi.1 hi.2).2
    have cc := t.cc hi.1 hi.2
    have gx := gw k hi.1 hi.2
    have mb := mnB_bd wb
    have mc : mnC D.1 k = mnB (blk D.1 k) + 2 * D.1 3 := rfl
    have eW := g_widthIn t w hi s.k.o10 s.k.w10 c.1.2.1.2.2.2.2.2.1
    obtain ⟨h2, e2, f2, c2⟩ := g_ink4 (t.1.cl hi2) cc.2 wb (x := wC D.1 k (auF D.1) - 2 * D.1 3) (by omega) (by omega)
    obtain ⟨t2, fz2⟩ := t.hw h5 hi f2 c2
    have st := (Stq.rf s c).h wd fz2 t2
    obtain ⟨h3, e3, st3⟩ := ih (k + 1) n h2 (by omega) (by omega) st.1 st.2.1
    refine ⟨h3, ?_, st.tr st3⟩
    show f_X8_densityBits_B39 (f_X8_densityBits_L39 n) h 1 (150 + 10) (iN A) (iN (inkS D.1 (auF D.1) k)) (iN k) = _
    unfold f_X8_densityBits_B39
    rw [chk_pos s.o1, s.t0, chk_pos t.1.o, t.ns, if_neg (nleN (by omega) (by omega) (by omega)), t.1.r8, chk_pos t.1.o3, t.1.w3, ck_in (by omega) (by omega) (by omega), cA_eq (by omega) (by omega), chk_pos (t.1.co hi2), t.1.cr hi2, chk_pos (t.1.cl hi2).1]
    have eW2 : f_X7_widthIn h 2 (cA h 2 k) (150 + 10) = some (h, .inr (iN (wC D.1 k (auF D.1)))) := eW
    rw [eW2, bnd_ret, chk_pos s.o1, s.t0, chk_pos t.1.o, chk_pos (t.1.cl hi2).1, t.2.1.2.2.1, iN_mul, iN_sub, e2, bnd_ret, iN_add, iN_add]
    exact e3
/-- the reference's ink of a cell -/
theorem g_ink9L {h : Hp} {m : Int → Int} (r : RM h 632 m) {i : Int} (hi : 0 ≤ i ∧ i < 16) (w : WB (blk m i)) (h3 : blk m i 3 ≤ 3) : ∀ (d k n : Nat), k + d = (blk m i 4).toNat → d < n → f_X9_inkOf_L4 n h 632 (iN i) (iN (ltB (blk m i) k)) (iN k) = some (h, .inr (iN (ltB (blk m i) (blk m i 4).toNat))) := by
  have w4 := w.2.1
  intro d
  induction d with
  | zero =>
    intro k n hk hn
    obtain ⟨n, rfl⟩ : ∃ z, n = z + 1 := ⟨n - 1, by omega⟩
    show f_X9_inkOf_B4 (f_X9_inkOf_L4 n) h 632 (iN i) (iN (ltB (blk m i) k)) (iN k) = _
    unfold f_X9_inkOf_B4 f_X9_inkOf_L40
    rw [chk_pos r.1.1, g_ofA r hi (by omega), bnd_ret, if_pos (yleN (by omega) (by omega) (by omega)), chk_pos r.1.1, g_isText9 r hi w, bnd_ret, if_neg (fun z => bN0.mp z h3), show k = (blk m i 4).toNat by omega]
  | succ d ih =>
    intro k n hk hn
    obtain ⟨n, rfl⟩ : ∃ z, n = z + 1 := ⟨n - 1, by omega⟩
    show f_X9_inkOf_B4 (f_X9_inkOf_L4 n) h 632 (iN i) (iN (ltB (blk m i) k)) (iN k) = _
    unfold f_X9_inkOf_B4
    rw [chk_pos r.1.1, g_ofA r hi (by omega), bnd_ret, if_neg (nleN (by omega) (by omega) (by omega)), chk_pos r.1.1, g_isText9 r hi w, bnd_ret, if_neg (fun z => bN0.mp z h3), chk_pos r.1.1, iN_add, g_ofA r hi (by omega), bnd_ret, iN_add, iN_add]
    have e2 : ltB (blk m i) k + blk m i (7 + (k : Int)) = ltB (blk m i) (k + 1) := by
      unfold ltB
      rw [sumF, show (0 : Int) + (k : Int) = (k : Int) by omega]
    rw [e2]
    exact ih (k + 1) n (by omega) (by omega)
theorem g_ink9 {h : Hp} {m W : Int → Int} (w : WF m) (gw : GW m W) (s : SL h) (r : RM h 632 m) (A : AR h (632 + 18) (m 0) W) {i : Int} (hi : 0 ≤ i ∧ i < m 5) : ∃ h2, f_X9_inkOf h 632 (iN i) = some (h2, .inr (iN (inkN m W i))) ∧ FZ (pB 632) h h2 := by
  have h5 := w.1.2.2.2.2.2
  have hp := w.1.2.2.2.1
  have hi2 : 0 ≤ i ∧ i < 16 := by omega
  have wb := (w.2.2.1 i hi.1 hi.2).2
  have w4 := wb.2.1
  have w5 := wb.2.2.1
  have gx := gw i hi.1 hi.2
  have mb := mnB_bd wb
  have mc : mnC m i = mnB (blk m i) + 2 * m 3 := rfl
  unfold f_X9_inkOf inkN inkB
  by_cases h3 : blk m i 3 ≤ 3
  · refine ⟨h, ?_, FZ.rf⟩
    rw [if_pos h3]
    exact g_ink9L r hi2 wb h3 (blk m i 4).toNat 0 2000 (by omega) (by omega)
  · have e4 := wb.2.2.2.2.2.1 (by omega)
    obtain ⟨h2, e2, f2⟩ := g_contentHeight r hi2 wb (x := wC m i W - 2 * m 3) (by omega) (by omega)
    refine ⟨h2, ?_, f2⟩
    have eW : f_X9_widthOf h 632 (iN i) (632 + 18) = some (h, .inr (iN (wC m i W))) := g_widthOf r w hi s.m.o27 s.m.w27 A
    rw [if_neg h3]
    show f_X9_inkOf_B4 (f_X9_inkOf_L4 1999) h 632 (iN i) (iN 0) (iN 0) = _
    unfold f_X9_inkOf_B4 f_X9_inkOf_L40 f_X9_inkOf_L89
    rw [chk_pos r.1.1, g_ofA r hi2 (by omega), bnd_ret, if_pos (yleN (by omega) (by omega) (by omega)), chk_pos r.1.1, g_isText9 r hi2 wb, bnd_ret, if_pos (bN0.mpr h3), chk_pos r.1.1, s.m.r27, chk_pos s.m.o27, eW, bnd_ret, chk_pos r.1.1, r.1.r1, chk_pos r.1.o1, r.1.w1, ck_in (by omega) (by omega) (by omega), g_rd r (by omega) (by omega), iN_mul, iN_sub, g_ofA r hi2 (by omega), bnd_ret]
    by_cases q : blk m i 5 ≤ wC m i W - 2 * m 3
    · rw [if_pos (yleN q (by omega) (by omega)), chk_pos r.1.1, g_ofA r hi2 (by omega), bnd_ret, chk_pos r.1.1, e2, bnd_ret, iN_mul, show min (blk m i 5) (wC m i W - 2 * m 3) = blk m i 5 by omega]
    · rw [if_neg (nleN (by omega) (by omega) (by omega)), chk_pos r.1.1, e2, bnd_ret, iN_mul, show min (blk m i 5) (wC m i W - 2 * m 3) = wC m i W - 2 * m 3 by omega]
theorem g_denL9 {m W : Int → Int} (w : WF m) (gw : GW m W) {T : Int} : ∀ (d k n : Nat) (h : Hp), (k : Int) + d = m 5 → d < n → SL h → RM h 632 m → AR h (632 + 18) (m 0) W → ∃ h2, f_X9_densityBits_L43 n h 632 (iN T) (iN (inkS m W k)) (iN k) = (chk (vf_n64 (FP.ddiv (FP.i2d (iN (inkS m W (m 5).toNat))) (FP.i2d (iN (m 1 * T))))) <| bnd (f_Jxe99ae_doubleToLongBits_ccdee h2 (FP.ddiv (FP.i2d (iN (inkS m W (m 5).toNat))) (FP.i2d (iN (m 1 * T))))) fun h7 r8 => some (h7, .inr r8)) ∧ FZ (pX 632) h h2 := by
  have h5 := w.1.2.2.2.2.2
  intro d
  induction d with
  | zero =>
    intro k n h hk hn s r A
    obtain ⟨n, rfl⟩ : ∃ z, n = z + 1 := ⟨n - 1, by omega⟩
    refine ⟨h, ?_, FZ.rf⟩
    show f_X9_densityBits_B43 (f_X9_densityBits_L43 n) h 632 (iN T) (iN (inkS m W k)) (iN k) = _
    unfold f_X9_densityBits_B43
    rw [chk_pos r.1.1, r.1.r1, chk_pos r.1.o1, r.1.w1, ck_in (by omega) (by omega) (by omega), g_rd r (by omega) (by omega), if_pos (yleN (by omega) (by omega) (by omega)), ck_in (by omega) (by omega) (by omega), g_rd r (by omega) (by omega), iN_mul, show k = (m 5).toNat by omega]
  | succ d ih =>
    intro k n h hk hn s r A
    obtain ⟨n, rfl⟩ : ∃ z, n = z + 1 := ⟨n - 1, by omega⟩
    obtain ⟨h2, e2, f2⟩ := g_ink9 w gw s r A (i := k) ⟨by omega, by omega⟩
    obtain ⟨h3, e3, f3⟩ := ih (k + 1) n h2 (by omega) (by omega) (s.ly f2.1) (r.b f2) (A.fz f2 (fun j z => by unfold pB at z; omega))
    refine ⟨h3, ?_, f2.bx.tr f3⟩
    show f_X9_densityBits_B43 (f_X9_densityBits_L43 n) h 632 (iN T) (iN (inkS m W k)) (iN k) = _
    unfold f_X9_densityBits_B43
    rw [chk_pos r.1.1, r.1.r1, chk_pos r.1.o1, r.1.w1, ck_in (by omega) (by omega) (by omega), g_rd r (by omega) (by omega), if_neg (nleN (by omega) (by omega) (by omega)), e2, bnd_ret, iN_add, iN_add]
    exact e3
/-- both sides' call with a long for an answer -/
def OpL (h : Hp) (D : Dt) (x : Option (Rs Int32)) (y : Hp → Option (Rs Int64)) : Prop := ∃ (k : Int) (v : Int64), (0 ≤ k ∧ k ≤ 4) ∧ COp h D x k v ∧ ∀ h1, SL h1 → RI h1 D → ∃ h2 v2, y h1 = some (h2, .inr v2) ∧ (k = 0 → v2 = v) ∧ qI h2 632 0 = iN k ∧ FZ (fun x _ => 632 ≤ x) h1 h2 ∧ RI h2 D
theorem o_density {h : Hp} {D : Dt} (wd : WD D) (s : SL h) (c : CI h D) : OpL h D (f_L_densityBits h 1 656) (fun h1 => f_X9_densityBits h1 632) := by
  have w := wd.1
  have t := c.1.1
  have k := c.1.2.1
  have h0 := w.1.1
  have h1' := w.1.2.1
  have h5 := w.1.2.2.2.2.2
  by_cases p : gsS D.1 0 ≤ usF D.1
  · have gw := au_GW w p
    have tb := taH_bd w gw
    obtain ⟨h2, e2, f2, t2⟩ := g_heightOfAll t w gw (arr := 150 + 10) (by omega) s.k.o10 s.k.w10 k.2.2.2.2.2.1
    have st := (Stq.rf s c).h wd f2 t2
    have ref : ∀ h1, SL h1 → RI h1 D → ∃ h4, f_X9_densityBits h1 632 = (if iN (taH D.1 (auF D.1)) = 0 then some (putI h4 632 0 (iN 2), .inr (Int64.ofNat 0)) else f_X9_densityBits_L43 2000 h4 632 (iN (taH D.1 (auF D.1))) (iN 0) (iN 0)) ∧ FZ (pX 632) (putI h1 632 0 (iN 0)) h4 ∧ SL h4 ∧ RM h4 632 D.1 ∧ AR h4 (632 + 18) (D.1 0) (auF D.1) := by
      intro h1 s1 r1
      obtain ⟨s0, r0, rm⟩ := ref0 s1 r1
      obtain ⟨h3, e3, f3, a3⟩ := g_laysOut w rm
      have s3 := s0.ly f3.1
      have rm3 := rm.v f3
      obtain ⟨h4, e4, f4⟩ := g_tableHigh rm3 w gw (arr := 632 + 18) (by omega) s3.m.o27 s3.m.w27 (a3 p)
      have s4 := s3.ly f4.1
      refine ⟨h4, ?_, f3.vx.tr f4.bx, s4, rm3.b f4, (a3 p).fz f4 (fun j z => by unfold pB at z; omega)⟩
      unfold f_X9_densityBits
      rw [chk_pos s1.m.1, lt_is, e3, bnd_ret, if_neg (fun z => bN0.mp z p), chk_pos s3.m.1, s3.m.r27, chk_pos s3.m.o27, e4, bnd_ret, chk_pos s4.m.1, lt_is]
    have ar : 0 ≤ D.1 1 * taH D.1 (auF D.1) ∧ D.1 1 * taH D.1 (auF D.1) ≤ 36 * 182 := ⟨Int.mul_nonneg (by omega) tb.1, Int.mul_le_mul h1'.2 tb.2 tb.1 (by omega)⟩
    have cls : f_X8_densityBits h 1 = if iN (D.1 1 * taH D.1 (auF D.1)) = 0 then some (bump h2, .inl 3) else f_X8_densityBits_L39 2000 h2 1 (150 + 10) (iN (D.1 1 * taH D.1 (auF D.1))) (iN 0) (iN 0) := by
      unfold f_X8_densityBits
      rw [chk_pos s.o1, g_autoW s k, if_pos p, bnd_ret, chk_pos s.o1, s.t0, chk_pos t.1.o, e2, bnd_ret, t.2.1.1, iN_mul]
    by_cases z : taH D.1 (auF D.1) = 0
    · refine ⟨2, 0, by omega, ?_, fun h1 s1 r1 => ?_⟩
      · unfold f_L_densityBits
        rw [chk_pos s.o1, cls, if_pos (by rw [z, Int.mul_zero]; rfl), bndX_thr, if_neg (by decide), if_pos rfl]
        exact COp.thr (by omega) st.1 st.2.1 st.2.2.1 (by rw [st.2.2.2.1]; omega) (by rw [st.2.2.2.2]; omega)
      · obtain ⟨h4, e4, f4, s4, r4, a4⟩ := ref h1 s1 r1
        refine ⟨putI h4 632 0 (iN 2), Int64.ofNat 0, ?_, fun y => ?_, rd_eq, (FZ.r0.tr (f4.mo (fun x j z => pX_632 z))).tr FZ.r0, (r1.t.x f4).t⟩
        · show f_X9_densityBits h1 632 = _
          rw [e4, if_pos (by rw [z]; rfl)]
        · omega
    · have nz : 1 ≤ D.1 1 * taH D.1 (auF D.1) := by
        have := Int.mul_le_mul (a := 1) (b := 1) (c := D.1 1) (d := taH D.1 (auF D.1)) (by omega) (by omega) (by omega) (by omega)
        omega
      obtain ⟨i0, i1⟩ := ink_area w gw (fun c c0 c1 => au_nn w ⟨c0, c1⟩) (au_sum w p)
      obtain ⟨h6, e6, st6⟩ := g_denL wd gw (A := D.1 1 * taH D.1 (auF D.1)) (D.1 5).toNat 0 2000 h2 (by omega) (by omega) st.1 st.2.1
      have bd := dd_bd (a := (inkS D.1 (auF D.1) (D.1 5).toNat).toNat) (b := (D.1 1 * taH D.1 (auF D.1)).toNat) (by omega) (by omega) (by omega)
      rw [Int.toNat_of_nonneg i0, Int.toNat_of_nonneg ar.1] at bd
      have nb : (FP.ddiv (FP.i2d (iN (inkS D.1 (auF D.1) (D.1 5).toNat))) (FP.i2d (iN (D.1 1 * taH D.1 (auF D.1))))).toNat ≤ 9218868437227405312 := by omega
      have e6' : f_X8_densityBits_L39 2000 h2 1 (150 + 10) (iN (D.1 1 * taH D.1 (auF D.1))) (iN 0) (iN 0) = _ := e6
      have st7 := st.tr st6
      refine ⟨0, jN ((FP.ddiv (FP.i2d (iN (inkS D.1 (auF D.1) (D.1 5).toNat))) (FP.i2d (iN (D.1 1 * taH D.1 (auF D.1))))).toNat : Int), by omega, ?_, fun h1 s1 r1 => ?_⟩
      · refine ⟨putL h6 656 0 (jN ((FP.ddiv (FP.i2d (iN (inkS D.1 (auF D.1) (D.1 5).toNat))) (FP.i2d (iN (D.1 1 * taH D.1 (auF D.1))))).toNat : Int)), ?_, st7.1.q (Lq.l ..), st7.2.1.q (Lq.l ..), st7.2.2.1, fun _ => (if_pos (⟨rfl, rfl⟩ : 656 = 656 ∧ 0 = 0) : (if 656 = 656 ∧ 0 = 0 then jN ((FP.ddiv (FP.i2d (iN (inkS D.1 (auF D.1) (D.1 5).toNat))) (FP.i2d (iN (D.1 1 * taH D.1 (auF D.1))))).toNat : Int) else qL h6 656 0) = _), by show qC h6 ≤ _; rw [st7.2.2.2.1]; omega, by show qS h6 ≤ _; rw [st7.2.2.2.2]; omega⟩
        unfold f_L_densityBits
        rw [chk_pos s.o1, cls, if_neg (eN0 (by omega) (by omega) (by omega)), e6', chk_pos (n64_lt nb), ofA64 bd, bnd_ret, bndX_ret, chk_pos st7.1.oo, st7.1.ow, ck_in (by omega) (by omega) (by omega), lt_is]
        rfl
      · obtain ⟨h4, e4, f4, s4, r4, a4⟩ := ref h1 s1 r1
        obtain ⟨h8, e8, f8⟩ := g_denL9 w gw (T := taH D.1 (auF D.1)) (D.1 5).toNat 0 2000 h4 (by omega) (by omega) s4 r4 a4
        have e8' : f_X9_densityBits_L43 2000 h4 632 (iN (taH D.1 (auF D.1))) (iN 0) (iN 0) = _ := e8
        refine ⟨h8, jN ((FP.ddiv (FP.i2d (iN (inkS D.1 (auF D.1) (D.1 5).toNat))) (FP.i2d (iN (D.1 1 * taH D.1 (auF D.1))))).toNat : Int), ?_, fun _ => rfl, ?_, FZ.r0.tr ((f4.tr f8).mo (fun x j z => pX_632 z)), r1.t.x (f4.tr f8)⟩
        · show f_X9_densityBits h1 632 = _
          rw [e4, if_neg (eN0 (by omega) (by omega) (by omega)), e8', chk_pos (n64_lt nb), fb64 nb, bnd_ret]
        · rw [(f4.tr f8).2 632 0 (fun z => by unfold pX at z; omega), rd_eq]
  · refine ⟨1, 0, by omega, ?_, fun h1 s1 r1 => ?_⟩
    · unfold f_L_densityBits f_X8_densityBits
      rw [chk_pos s.o1, chk_pos s.o1, g_autoW s k, if_neg p, bnd_thr, bndX_thr, if_pos rfl]
      exact COp.thr (by omega) s c (fun _ _ _ => rfl) (Nat.le_refl _) (Nat.le_refl _)
    · obtain ⟨s0, r0, rm⟩ := ref0 s1 r1
      obtain ⟨h3, e3, f3, a3⟩ := g_laysOut w rm
      have s3 := s0.ly f3.1
      refine ⟨putI h3 632 0 (iN 1), Int64.ofNat 0, ?_, fun y => ?_, rd_eq, (FZ.r0.tr (f3.vx.mo (fun x j z => pX_632 z))).tr FZ.r0, (r1.t.x f3.vx).t⟩
      · show f_X9_densityBits h1 632 = _
        unfold f_X9_densityBits
        rw [chk_pos s1.m.1, lt_is, e3, bnd_ret, if_pos (bN0.mpr p), chk_pos s3.m.1, lt_is]
      · omega
