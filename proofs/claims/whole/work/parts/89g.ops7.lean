/-! ===== STAGE B: calls of both sides: errorPosition, heightFor ===== -/
theorem o_errorPosition {h : Hp} {D : Dt} (wd : WD D) (s : SL h) (c : CI h D) : OpD h D (f_X8_errorPosition h 1) (fun h1 => f_X9_errorPosition h1 632) := by
  refine ⟨iN (rE D.2), D, wd, ⟨h, ?_, s, c, fun _ _ _ => rfl, by omega, by omega⟩, fun h1 s1 r1 => ?_⟩
  · unfold f_X8_errorPosition
    rw [chk_pos s.o1, s.t8, chk_pos s.2.2.2.2.1.1, c.2.2.2.1.2.1]
  · obtain ⟨s0, r0, rm⟩ := ref0 s1 r1
    refine ⟨_, ?_, FZ.r0, r0⟩
    show f_X9_errorPosition h1 632 = _
    unfold f_X9_errorPosition
    rw [chk_pos s1.m.1, lt_is, r0.2.2.2.1.2.1]
def w4 (a b c d k : Int) : Int := if k = 0 then a else if k = 1 then b else if k = 2 then c else d
theorem AR.four {h : Hp} {a : Nat} {x0 x1 x2 x3 : Int} : AR (putI (putI (putI (putI h a 0 (iN x0)) a 1 (iN x1)) a 2 (iN x2)) a 3 (iN x3)) a 4 (w4 x0 x1 x2 x3) := by
  intro k h1 h2
  have hk : k = 0 ∨ k = 1 ∨ k = 2 ∨ k = 3 := by omega
  rcases hk with rfl | rfl | rfl | rfl
  · rw [show Int.toNat 0 = 0 from rfl, rd_nk (by decide), rd_nk (by decide), rd_nk (by decide), rd_eq]
    rfl
  · rw [show Int.toNat 1 = 1 from rfl, rd_nk (by decide), rd_nk (by decide), rd_eq]
    rfl
  · rw [show Int.toNat 2 = 2 from rfl, rd_nk (by decide), rd_eq]
    rfl
  · rw [show Int.toNat 3 = 3 from rfl, rd_eq]
    rfl
theorem Stq.g {h h1 h2 : Hp} {D : Dt} (a : Stq h h1 D) (wd : WD D) (f : FZ (fun x _ => x = 631) h1 h2) : Stq h h2 D := a.tr ⟨a.1.ly f.1, ⟨a.2.1.1.fz wd.1.1.2.2.2.2.2 f (fun x j z1 z2 z3 => by omega), a.2.1.2.fz wd.2 f (fun x j z1 z3 => by omega)⟩, fun x j z => f.2 x j (by omega), f.qc.1, f.qc.2⟩
abbrev okW (m W : Int → Int) : Prop := ∀ c, 0 ≤ c → c < m 0 → (msW m).1 c ≤ W c ∧ W c ≤ 36
theorem g_hfL {D : Dt} (wd : WD D) {W : Int → Int} (hW : ∀ c, 0 ≤ c → c < 4 → InR (W c)) {h : Hp} (s : SL h) (c : CI h D) (A : AR h 631 4 W) : ∀ (d k n : Nat), (k : Int) + d = D.1 0 → d < n → (∀ c, 0 ≤ c → c < (k : Int) → (msW D.1).1 c ≤ W c ∧ W c ≤ 36) →
    (okW D.1 W → f_X8_heightFor_L32 n h 1 (iN k) = bnd (f_X7_heightOfAll h 2 631) fun h5 r6 => some (h5, .inr r6)) ∧ (¬ okW D.1 W → f_X8_heightFor_L32 n h 1 (iN k) = some (bump h, .inl 1)) := by
  have w := wd.1
  have t := c.1.1
  have kk := c.1.2.1
  have h0 := w.1.1
  intro d
  induction d with
  | zero =>
    intro k n hk hn hg
    obtain ⟨n, rfl⟩ : ∃ z, n = z + 1 := ⟨n - 1, by omega⟩
    refine ⟨fun _ => ?_, fun z => absurd (fun c h1 h2 => hg c h1 (by omega)) z⟩
    show f_X8_heightFor_B32 (f_X8_heightFor_L32 n) h 1 (iN k) = _
    unfold f_X8_heightFor_B32
    rw [chk_pos s.o1, s.t0, chk_pos t.1.o, t.cs, if_pos (yleN (by omega) (by omega) (by omega)), s.t10, chk_pos s.og]
  | succ d ih =>
    intro k n hk hn hg
    obtain ⟨n, rfl⟩ : ∃ z, n = z + 1 := ⟨n - 1, by omega⟩
    have gb := gs_bd w (c := (k : Int)) (by omega)
    have hwk := hW k (by omega) (by omega)
    by_cases p : (msW D.1).1 k ≤ W k ∧ W k ≤ 36
    · have e := ih (k + 1) n (by omega) (by omega) (fun c h1 h2 => by
        by_cases e : c = k
        · rw [e]; exact p
        · exact hg c h1 (by omega))
      have st : f_X8_heightFor_L32 (n + 1) h 1 (iN k) = f_X8_heightFor_L32 n h 1 (iN ((k + 1 : Nat) : Int)) := by
        show f_X8_heightFor_B32 (f_X8_heightFor_L32 n) h 1 (iN k) = _
        unfold f_X8_heightFor_B32
        rw [chk_pos s.o1, s.t0, chk_pos t.1.o, t.cs, if_neg (nleN (by omega) (by omega) (by omega)), s.t10, chk_pos s.og, s.gw, ck_in (by omega) (by omega) (by omega), s.t1, chk_pos s.k.o, s.k.r1, chk_pos s.k.o1, s.k.w1, ck_in (by omega) (by omega) (by omega), iN_cl (by omega) (by omega), A k (by omega) (by omega), kk.1 k (by omega) (by omega), g_isW hwk ⟨(by omega), (by omega)⟩ ⟨(by omega), (by omega)⟩, bnd_ret, g_rqA, if_pos p, bnd_ret, iN_add]
        rfl
      rw [st]
      exact e
    · refine ⟨fun z => absurd (z k (by omega) (by omega)) p, fun _ => ?_⟩
      show f_X8_heightFor_B32 (f_X8_heightFor_L32 n) h 1 (iN k) = _
      unfold f_X8_heightFor_B32
      rw [chk_pos s.o1, s.t0, chk_pos t.1.o, t.cs, if_neg (nleN (by omega) (by omega) (by omega)), s.t10, chk_pos s.og, s.gw, ck_in (by omega) (by omega) (by omega), s.t1, chk_pos s.k.o, s.k.r1, chk_pos s.k.o1, s.k.w1, ck_in (by omega) (by omega) (by omega), iN_cl (by omega) (by omega), A k (by omega) (by omega), kk.1 k (by omega) (by omega), g_isW hwk ⟨(by omega), (by omega)⟩ ⟨(by omega), (by omega)⟩, bnd_ret, g_rqA, if_neg p, bnd_thr]
theorem g_hfL9 {m : Int → Int} (w : WF m) {W : Int → Int} (hW : ∀ c, 0 ≤ c → c < 4 → InR (W c)) {h : Hp} (s : SL h) (r : RM h 632 m) (A1 : AR h 644 (m 0) (msW m).1) (A : AR h 655 4 W) : ∀ (d k n : Nat), (k : Int) + d = m 0 → d < n → (∀ c, 0 ≤ c → c < (k : Int) → (msW m).1 c ≤ W c ∧ W c ≤ 36) →
    (okW m W → f_X9_heightFor_L41 n h 632 (iN k) = bnd (f_X9_tableHigh h 632 655) fun h5 r6 => some (h5, .inr r6)) ∧ (¬ okW m W → f_X9_heightFor_L41 n h 632 (iN k) = some (putI h 632 0 (iN 1), .inr (iN 0))) := by
  have h0 := w.1.1
  intro d
  induction d with
  | zero =>
    intro k n hk hn hg
    obtain ⟨n, rfl⟩ : ∃ z, n = z + 1 := ⟨n - 1, by omega⟩
    refine ⟨fun _ => ?_, fun z => absurd (fun c h1 h2 => hg c h1 (by omega)) z⟩
    show f_X9_heightFor_B41 (f_X9_heightFor_L41 n) h 632 (iN k) = _
    unfold f_X9_heightFor_B41
    rw [chk_pos r.1.1, r.1.r1, chk_pos r.1.o1, r.1.w1, ck_in (by omega) (by omega) (by omega), g_rd r (by omega) (by omega), if_pos (yleN (by omega) (by omega) (by omega)), r.1.r33, chk_pos r.1.o33]
  | succ d ih =>
    intro k n hk hn hg
    obtain ⟨n, rfl⟩ : ∃ z, n = z + 1 := ⟨n - 1, by omega⟩
    have gb := gs_bd w (c := (k : Int)) (by omega)
    have hwk := hW k (by omega) (by omega)
    by_cases p : (msW m).1 k ≤ W k ∧ W k ≤ 36
    · have e := ih (k + 1) n (by omega) (by omega) (fun c h1 h2 => by
        by_cases e : c = k
        · rw [e]; exact p
        · exact hg c h1 (by omega))
      have st : f_X9_heightFor_L41 (n + 1) h 632 (iN k) = f_X9_heightFor_L41 n h 632 (iN ((k + 1 : Nat) : Int)) := by
        show f_X9_heightFor_B41 (f_X9_heightFor_L41 n) h 632 (iN k) = _
        unfold f_X9_heightFor_B41
        rw [chk_pos r.1.1, r.1.r1, chk_pos r.1.o1, r.1.w1, ck_in (by omega) (by omega) (by omega), g_rd r (by omega) (by omega), if_neg (nleN (by omega) (by omega) (by omega)), r.1.r33, chk_pos r.1.o33, r.1.w33, ck_in (by omega) (by omega) (by omega), r.1.r21, chk_pos r.1.o21, r.1.w21, ck_in (by omega) (by omega) (by omega), iN_cl (by omega) (by omega), A k (by omega) (by omega), A1 k (by omega) (by omega), g_in hwk ⟨(by omega), (by omega)⟩ ⟨(by omega), (by omega)⟩, bnd_ret, if_neg (fun z => bN0.mp z p), iN_add]
        rfl
      rw [st]
      exact e
    · refine ⟨fun z => absurd (z k (by omega) (by omega)) p, fun _ => ?_⟩
      show f_X9_heightFor_B41 (f_X9_heightFor_L41 n) h 632 (iN k) = _
      unfold f_X9_heightFor_B41
      rw [chk_pos r.1.1, r.1.r1, chk_pos r.1.o1, r.1.w1, ck_in (by omega) (by omega) (by omega), g_rd r (by omega) (by omega), if_neg (nleN (by omega) (by omega) (by omega)), r.1.r33, chk_pos r.1.o33, r.1.w33, ck_in (by omega) (by omega) (by omega), r.1.r21, chk_pos r.1.o21, r.1.w21, ck_in (by omega) (by omega) (by omega), iN_cl (by omega) (by omega), A k (by omega) (by omega), A1 k (by omega) (by omega), g_in hwk ⟨(by omega), (by omega)⟩ ⟨(by omega), (by omega)⟩, bnd_ret, if_pos (bN0.mpr p), chk_pos r.1.1, g_fails s, bnd_ret]
theorem cl0 : (iN 0).toNatClampNeg = 0 := by decide
theorem cl1 : (iN 1).toNatClampNeg = 1 := by decide
theorem cl2 : (iN 2).toNatClampNeg = 2 := by decide
theorem cl3 : (iN 3).toNatClampNeg = 3 := by decide
theorem o_heightFor {h : Hp} {D : Dt} (wd : WD D) (s : SL h) (c : CI h D) {x0 x1 x2 x3 : Int} (y0 : InR x0) (y1 : InR x1) (y2 : InR x2) (y3 : InR x3) : OpP h D (f_L_heightFor h 1 (iN x0) (iN x1) (iN x2) (iN x3) 656) (fun h1 => f_X9_heightFor h1 632 (iN x0) (iN x1) (iN x2) (iN x3)) := by
  have w := wd.1
  have h0 := w.1.1
  have hW : ∀ c, 0 ≤ c → c < 4 → InR (w4 x0 x1 x2 x3 c) := fun c h1 h2 => by
    unfold w4
    split
    · exact y0
    · split
      · exact y1
      · split
        · exact y2
        · exact y3
  have f4 : ∀ (P : Nat → Nat → Prop) (g : Hp) (a : Nat), (∀ j, P a j) → FZ P g (putI (putI (putI (putI g a 0 (iN x0)) a 1 (iN x1)) a 2 (iN x2)) a 3 (iN x3)) := fun P g a hp => (((FZ.pI (hp 0)).tr (FZ.pI (hp 1))).tr (FZ.pI (hp 2))).tr (FZ.pI (hp 3))
  have st := (Stq.rf s c).g wd (f4 (fun x _ => x = 631) h 631 (fun _ => rfl))
  have A : AR (putI (putI (putI (putI h 631 0 (iN x0)) 631 1 (iN x1)) 631 2 (iN x2)) 631 3 (iN x3)) 631 4 (w4 x0 x1 x2 x3) := AR.four
  have cl : (okW D.1 (w4 x0 x1 x2 x3) → f_X8_heightFor_L32 2000 (putI (putI (putI (putI h 631 0 (iN x0)) 631 1 (iN x1)) 631 2 (iN x2)) 631 3 (iN x3)) 1 (iN 0) = _) ∧ (¬ okW D.1 (w4 x0 x1 x2 x3) → f_X8_heightFor_L32 2000 (putI (putI (putI (putI h 631 0 (iN x0)) 631 1 (iN x1)) 631 2 (iN x2)) 631 3 (iN x3)) 1 (iN 0) = _) := g_hfL wd hW st.1 st.2.1 A (D.1 0).toNat 0 2000 (by omega) (by omega) (fun c h1 h2 => by omega)
  have cls : f_X8_heightFor h 1 (iN x0) (iN x1) (iN x2) (iN x3) = f_X8_heightFor_L32 2000 (putI (putI (putI (putI h 631 0 (iN x0)) 631 1 (iN x1)) 631 2 (iN x2)) 631 3 (iN x3)) 1 (iN 0) := by
    unfold f_X8_heightFor
    rw [chk_pos s.o1, s.t10, chk_pos s.og, s.gw, ck_in (by omega) (by omega) (by omega), lt_is, cl0, (s.pI).t10, chk_pos (s.pI).og, (s.pI).gw, ck_in (by omega) (by omega) (by omega), lt_is, cl1, (s.pI.pI).t10, chk_pos (s.pI.pI).og, (s.pI.pI).gw, ck_in (by omega) (by omega) (by omega), lt_is, cl2, (s.pI.pI.pI).t10, chk_pos (s.pI.pI.pI).og, (s.pI.pI.pI).gw, ck_in (by omega) (by omega) (by omega), lt_is, cl3]
  have ref : ∀ h1, SL h1 → RM (putI h1 632 0 (iN 0)) 632 D.1 → SL (putI h1 632 0 (iN 0)) → ∃ h3, RM h3 632 D.1 ∧ SL h3 ∧ AR h3 655 4 (w4 x0 x1 x2 x3) ∧ FZ (pX 632) (putI h1 632 0 (iN 0)) h3 ∧ AR h3 644 (D.1 0) (msW D.1).1 ∧ f_X9_heightFor h1 632 (iN x0) (iN x1) (iN x2) (iN x3) = f_X9_heightFor_L41 2000 h3 632 (iN 0) := by
    intro h1 s1 rm s0
    have f5 := f4 (pX 632) (putI h1 632 0 (iN 0)) 655 (fun j => Or.inr ⟨by omega, by omega⟩)
    obtain ⟨h3, e3, f3, a1, a2, a3⟩ := g_measures w (rm.x f5)
    refine ⟨h3, (rm.x f5).v f3, (s0.ly f5.1).ly f3.1, (AR.four (h := putI h1 632 0 (iN 0)) (a := 655)).fz f3 (fun j z => by unfold pV pB at z; omega), f5.tr f3.vx, a1, ?_⟩
    unfold f_X9_heightFor
    rw [chk_pos s1.m.1, lt_is, s0.m.r33, s0.m.w33, chk_pos s0.m.o33, ck_in (by omega) (by omega) (by omega), lt_is, cl0, s0.pI.m.r33, s0.pI.m.w33, chk_pos s0.pI.m.o33, ck_in (by omega) (by omega) (by omega), lt_is, cl1, s0.pI.pI.m.r33, s0.pI.pI.m.w33, chk_pos s0.pI.pI.m.o33, ck_in (by omega) (by omega) (by omega), lt_is, cl2, s0.pI.pI.pI.m.r33, s0.pI.pI.pI.m.w33, chk_pos s0.pI.pI.pI.m.o33, ck_in (by omega) (by omega) (by omega), lt_is, cl3, e3, bnd_ret]
  by_cases p : okW D.1 (w4 x0 x1 x2 x3)
  · have gw : GW D.1 (w4 x0 x1 x2 x3) := GW_of w (fun c h1 h2 => by have := p c h1 h2; omega)
    obtain ⟨h2, e2, f2, t2⟩ := g_heightOfAll st.2.1.1.1 w gw (arr := 631) (by omega) st.1.og st.1.gw (A.sh (by omega))
    refine OpP.A (taH D.1 (w4 x0 x1 x2 x3)) wd (st.h wd f2 t2) ?_ (fun h1 s1 r1 s0 rm => ?_)
    · unfold f_L_heightFor
      rw [chk_pos s.o1, cls, cl.1 p, e2, bnd_ret, bndX_ret]
    · obtain ⟨h3, rm3, s3, a3, f3, b3, e3⟩ := ref h1 s1 rm s0
      obtain ⟨h4, e4, f4⟩ := g_tableHigh rm3 w gw (arr := 655) (by omega) s3.m.o33 s3.m.w33 (a3.sh (by omega))
      have e9 : f_X9_heightFor_L41 2000 h3 632 (iN 0) = _ := (g_hfL9 w hW s3 rm3 b3 a3 (D.1 0).toNat 0 2000 (by omega) (by omega) (fun c h1 h2 => by omega)).1 p
      exact ⟨h4, by rw [e3, e9, e4, bnd_ret], f3.tr f4.bx⟩
  · refine OpP.F 1 (by omega) wd st ?_ (fun h1 s1 r1 s0 rm => ?_)
    · unfold f_L_heightFor
      rw [chk_pos s.o1, cls, cl.2 p, bndX_thr, if_pos rfl]
    · obtain ⟨h3, rm3, s3, a3, f3, b3, e3⟩ := ref h1 s1 rm s0
      have e9 : f_X9_heightFor_L41 2000 h3 632 (iN 0) = _ := (g_hfL9 w hW s3 rm3 b3 a3 (D.1 0).toNat 0 2000 (by omega) (by omega) (fun c h1 h2 => by omega)).2 p
      exact ⟨h3, by rw [e3, e9], f3⟩
