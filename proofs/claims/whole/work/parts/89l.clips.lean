/-! ===== STAGE B: clips: makeClip, copyTo, paste ===== -/
/-- the reference answers, with all of its state given -/
theorem OpP.G {h h3 : Hp} {D D2 : Dt} {x : Option (Rs Int32)} {y : Hp → Option (Rs Int32)} (v : Int) (wd2 : WD D2) (a : Fnd h h3 D2) (ex : x = ansL h3 (iN v)) (ey : ∀ h1, SL h1 → RI h1 D → SL (putI h1 632 0 (iN 0)) → RI (putI h1 632 0 (iN 0)) D → RM (putI h1 632 0 (iN 0)) 632 D.1 → ∃ h2, y h1 = some (h2, .inr (iN v)) ∧ FZ (fun x j => 632 ≤ x ∧ ¬ (x = 632 ∧ j = 0)) (putI h1 632 0 (iN 0)) h2 ∧ RI h2 D2) : OpP h D x y := by
  refine ⟨0, v, D2, by omega, wd2, by rw [ex]; exact COp.ret a.1 a.2.1 a.2.2.1 (by rw [a.2.2.2.1]; omega) (by rw [a.2.2.2.2]; omega), fun h1 s1 r1 => ?_⟩
  obtain ⟨s0, r0, rm⟩ := ref0 s1 r1
  obtain ⟨h2, e2, f2, a2⟩ := ey h1 s1 r1 s0 r0 rm
  exact ⟨h2, v, e2, fun _ => rfl, by rw [f2.2 _ _ (fun z => z.2 ⟨rfl, rfl⟩)]; exact rd_eq, FZ.r0.tr (f2.mo (fun x j z => z.1)), a2⟩
theorem SL.cp {h : Hp} (s : SL h) {c : Int} (hc : 0 ≤ c ∧ c ≤ 1) : qR h 576 (iN c).toNatClampNeg = 577 + 27 * c.toNat ∧ okr h (577 + 27 * c.toNat) 2 ∧ qR h (577 + 27 * c.toNat) 3 = 578 + 27 * c.toNat ∧ qR h (577 + 27 * c.toNat) 4 = 579 + 27 * c.toNat ∧ okr h (578 + 27 * c.toNat) 22 ∧ qW h (578 + 27 * c.toNat) = 3 ∧ okr h (579 + 27 * c.toNat) 27 ∧ qW h (579 + 27 * c.toNat) = 3 ∧ ∀ p : Nat, p < 3 → qR h (579 + 27 * c.toNat) p = 580 + 27 * c.toNat + 8 * p ∧ LC h (580 + 27 * c.toNat + 8 * p) := by
  rw [iN_cl (by omega) (by omega)]
  exact s.2.2.2.2.2.1.2.2 c.toNat (by omega)
theorem SL.o9 {h : Hp} (s : SL h) : okr h 576 26 := s.2.2.2.2.2.1.1
theorem SL.w9 {h : Hp} (s : SL h) : qW h 576 = 2 := s.2.2.2.2.2.1.2.1
/-- a clip's address -/
theorem SL.ca {h : Hp} (s : SL h) {c : Int} (hc : 0 ≤ c ∧ c ≤ 1) : qR h (qR h 1 9) (iN c).toNatClampNeg = 577 + 27 * c.toNat := by
  rw [s.t9]
  exact (s.cp hc).1
theorem SL.cc {h : Hp} (s : SL h) {c : Int} (hc : 0 ≤ c ∧ c ≤ 1) {α : Type} {k : Option α} : chk (okr h (qR h 1 9) 26) (chk (vp_in (iN c) (qW h (qR h 1 9))) (chk (okr h (qR h (qR h 1 9) (iN c).toNatClampNeg) 2) k)) = k := by
  rw [s.ca hc, s.t9, chk_pos s.o9, s.w9, ck_in (by omega) (by omega) (by omega), chk_pos (s.cp hc).2.1]
/-- clip c made anew -/
def mcR (R : Rst) (c kd sz : Int) : Rst := (rH R, rV R, rB R, rL R, rE R, up (rK R) c kd, up (rZ R) c sz, fun q => if 3 * c ≤ q ∧ q < 3 * c + 3 then false else rF R q, rC R)
theorem WR_mc {R : Rst} (w : WR R) {c kd sz : Int} (hc : 0 ≤ c ∧ c ≤ 1) (hk : 0 ≤ kd ∧ kd ≤ 5) (hs : 0 ≤ sz ∧ sz ≤ 3) : WR (mcR R c kd sz) := by
  obtain ⟨w1, w2, w3, w4, w5, w6⟩ := w
  refine ⟨w1, w2, w3, w4, fun d h1 h2 => ?_, fun p h1 h2 h3 => w6 p h1 h2 ?_⟩
  · show (-1 ≤ up (rK R) c kd d ∧ up (rK R) c kd d ≤ 5) ∧ (0 ≤ up (rZ R) c sz d ∧ up (rZ R) c sz d ≤ 3) ∧ (up (rK R) c kd d = -1 → up (rZ R) c sz d = 0)
    by_cases e : d = c
    · rw [e, up_eq, up_eq]
      omega
    · rw [up_ne e, up_ne e]
      exact w5 d h1 h2
  · have h4 : (if 3 * c ≤ p ∧ p < 3 * c + 3 then false else rF R p) = true := h3
    by_cases e : 3 * c ≤ p ∧ p < 3 * c + 3
    · rw [if_pos e] at h4
      cases h4
    · rw [if_neg e] at h4
      exact h4
theorem g_rmkL {a : Nat} : ∀ (d k : Nat) (h : Hp) (n : Nat), k + d = 3 → d < n → okr h a 2 → qR h a 3 = a + 1 → okr h (a + 1) 22 → qW h (a + 1) = 3 → AR h (a + 1) k (fun _ => 0) →
    ∃ h2, f_X2_remake_L17 n h a (iN k) = some (h2, .inr ()) ∧ FZ (pA (a + 1)) h h2 ∧ AR h2 (a + 1) 3 (fun _ => 0) := by
  intro d
  induction d with
  | zero =>
    intro k h n hk hn o r3 o1 w1 A
    obtain ⟨n, rfl⟩ : ∃ z, n = z + 1 := ⟨n - 1, by omega⟩
    refine ⟨h, ?_, FZ.rf, by rw [show (3 : Int) = k by omega]; exact A⟩
    show f_X2_remake_B17 (f_X2_remake_L17 n) h a (iN k) = _
    unfold f_X2_remake_B17
    rw [if_pos (yleN (by omega) (by omega) (by omega))]
  | succ d ih =>
    intro k h n hk hn o r3 o1 w1 A
    obtain ⟨n, rfl⟩ : ∃ z, n = z + 1 := ⟨n - 1, by omega⟩
    obtain ⟨h4, e4, f4, a4⟩ := ih (k + 1) (putI h (a + 1) (k : Int).toNat (iN 0)) n (by omega) (by omega) o r3 o1 w1 (A.sn (by omega))
    refine ⟨h4, ?_, FZ.pa.tr f4, a4⟩
    show f_X2_remake_B17 (f_X2_remake_L17 n) h a (iN k) = _
    unfold f_X2_remake_B17
    rw [if_neg (nleN (by omega) (by omega) (by omega)), chk_pos o, r3, chk_pos o1, w1, ck_in (by omega) (by omega) (by omega), lt_is, iN_cl (by omega) (by omega), iN_add]
    exact e4
theorem bI {a b : Bool} (e : a = b) : (if a = true then (1 : Int) else 0) = if b = true then 1 else 0 := by rw [e]
/-- a clip of the class's heap, where the others are as they were -/
theorem CR.cl {h h2 : Hp} {R R2 : Rst} {c : Int} (hc : 0 ≤ c ∧ c ≤ 1) (cr : CR h R) (w : WR R) (f : FZ (fun x _ => 577 + 27 * c.toNat ≤ x ∧ x ≤ 577 + 27 * c.toNat + 26) h h2) (e0 : rH R2 = rH R ∧ rV R2 = rV R ∧ rB R2 = rB R ∧ rL R2 = rL R ∧ rE R2 = rE R) (e1 : ∀ d : Nat, d < 2 → d ≠ c.toNat → rK R2 d = rK R d ∧ rZ R2 d = rZ R d ∧ ∀ p, 0 ≤ p → p < 3 → rF R2 (3 * d + p) = rF R (3 * d + p) ∧ ∀ k, 0 ≤ k → k < 31 → clB R2 (3 * d + p) k = clB R (3 * d + p) k) (e2 : CPc h2 (577 + 27 * c.toNat) (rK R2 c) (rZ R2 c) (fun p => rF R2 (3 * c + p)) (fun p => clB R2 (3 * c + p))) : CR h2 R2 := by
  obtain ⟨c0, c1, ⟨c2, c3, c4⟩, c5⟩ := cr
  obtain ⟨i1, i2, i3, i4, i5⟩ := e0
  unfold CR
  rw [i1, i2, i3, i4, i5]
  refine ⟨(f.2 _ _ (by omega)).trans c0, fun z => (c1 z).fz (w.1 z).1.2.2.2.2.2 f (fun x j x1 x2 => by omega), ⟨(f.2 _ _ (by omega)).trans c2, (f.2 _ _ (by omega)).trans c3, c4.fz f (fun j => by omega)⟩, fun d hd => ?_⟩
  by_cases e : d = c.toNat
  · subst e
    rw [Int.toNat_of_nonneg hc.1]
    exact e2
  · obtain ⟨d0, d1, d2, d3, d4⟩ := (c5 d hd).fz f (fun x j x1 x2 => by omega)
    obtain ⟨k1, k2, k3⟩ := e1 d hd e
    rw [k1, k2]
    refine ⟨d0, d1, d2, d3.cg (fun p p1 p2 => bI (k3 p p1 p2).1.symm), fun p p1 p2 p3 => ?_⟩
    have p4 : rF R (3 * d + p) = true := by rw [← (k3 p p1 p2).1]; exact p3
    exact (d4 p p1 p2 p4).cgb (w.2.2.2.2.2 (3 * d + p) (by omega) (by omega) p4) (k3 p p1 p2).2
theorem Fnd.cl {h h2 : Hp} {D : Dt} {R2 : Rst} (wd : WD D) (s : SL h) (c : CI h D) {k : Int} (hk : 0 ≤ k ∧ k ≤ 1) (f : FZ (fun x _ => 577 + 27 * k.toNat ≤ x ∧ x ≤ 577 + 27 * k.toNat + 26) h h2) (cr : CR h2 R2) : Fnd h h2 (D.1, R2) := ⟨s.ly f.1, ⟨c.1.fz wd.1.1.2.2.2.2.2 f (fun x j x1 x2 z => by omega), cr⟩, fun x j z => f.2 x j (by omega), f.qc.1, f.qc.2⟩
theorem g_mcL9 {R : Rst} {c sz : Int} (hc : 0 ≤ c ∧ c ≤ 1) : ∀ (d k : Nat) (h : Hp) (n : Nat), k + d = 3 → d < n → SL h → AR h 640 6 (fun q => if 3 * c ≤ q ∧ q < 3 * c + k then 0 else if rF R q = true then 1 else 0) →
    ∃ h2, f_X9_makeClip_L59 n h 632 (iN c) (iN sz) (iN k) = some (h2, .inr (iN sz)) ∧ FZ (pA 640) h h2 ∧ AR h2 640 6 (fun q => if (if 3 * c ≤ q ∧ q < 3 * c + 3 then false else rF R q) = true then 1 else 0) := by
  intro d
  induction d with
  | zero =>
    intro k h n hk hn s A
    obtain ⟨n, rfl⟩ : ∃ z, n = z + 1 := ⟨n - 1, by omega⟩
    refine ⟨h, ?_, FZ.rf, A.cg (fun q q1 q2 => ?_)⟩
    · show f_X9_makeClip_B59 (f_X9_makeClip_L59 n) h 632 (iN c) (iN sz) (iN k) = _
      unfold f_X9_makeClip_B59
      rw [if_pos (yleN (by omega) (by omega) (by omega))]
    · rw [show (k : Int) = 3 by omega]
      by_cases e : 3 * c ≤ q ∧ q < 3 * c + 3
      · rw [if_pos e, if_pos e]; rfl
      · rw [if_neg e, if_neg e]
  | succ d ih =>
    intro k h n hk hn s A
    obtain ⟨n, rfl⟩ : ∃ z, n = z + 1 := ⟨n - 1, by omega⟩
    obtain ⟨h4, e4, f4, a4⟩ := ih (k + 1) (putI h 640 (3 * c + (k : Int)).toNat (iN 0)) n (by omega) (by omega) s.pI ((A.put (k := 3 * c + (k : Int)) (by omega)).cg (fun j h1 h2 => by
      unfold up
      dsimp only
      by_cases e : j = 3 * c + (k : Int)
      · rw [if_pos e, if_pos (by omega)]
      · rw [if_neg e]
        by_cases e2 : 3 * c ≤ j ∧ j < 3 * c + (k : Int)
        · rw [if_pos e2, if_pos (by omega)]
        · rw [if_neg e2, if_neg (show ¬ (3 * c ≤ j ∧ j < 3 * c + ((k + 1 : Nat) : Int)) by omega)]))
    refine ⟨h4, ?_, (FZ.pI (P := pA 640) rfl).tr f4, a4⟩
    show f_X9_makeClip_B59 (f_X9_makeClip_L59 n) h 632 (iN c) (iN sz) (iN k) = _
    unfold f_X9_makeClip_B59
    rw [if_neg (nleN (by omega) (by omega) (by omega)), chk_pos s.m.1, s.m.r11, chk_pos s.m.o11, s.m.w11, iN_mul, iN_add, ck_in (by omega) (by omega) (by omega), lt_is, iN_cl (by omega) (by omega), iN_add]
    exact e4
theorem g_isClip {h : Hp} {c : Int} (hc : InR c) : f_X9_isClip h (iN c) = some (h, .inr (bN (0 ≤ c ∧ c ≤ 1))) := by
  unfold f_X9_isClip
  rw [g_in hc ⟨(by omega), (by omega)⟩ ⟨(by omega), (by omega)⟩, bnd_ret, ck_b]
theorem o_makeClip {h : Hp} {D : Dt} (wd : WD D) (s : SL h) (c : CI h D) {x y u : Int} (hx : InR x) (hy : InR y) (hu : InR u) : OpP h D (f_L_makeClip h 1 (iN x) (iN y) (iN u) 656) (fun h1 => f_X9_makeClip h1 632 (iN x) (iN y) (iN u)) := by
  by_cases q1 : 0 ≤ x ∧ x ≤ 1
  · by_cases q2 : 0 ≤ y ∧ y ≤ 5
    · by_cases q3 : 0 ≤ u ∧ u ≤ 3
      · have hp := s.cp q1
        obtain ⟨h2, e2, f2, a2⟩ := g_rmkL (a := 577 + 27 * x.toNat) 3 0 (putI (putI (putI h (577 + 27 * x.toNat) 0 (iN 1)) (577 + 27 * x.toNat) 1 (iN y)) (577 + 27 * x.toNat) 2 (iN u)) 2000 (by omega) (by omega) hp.2.1 (by rw [show 577 + 27 * x.toNat + 1 = 578 + 27 * x.toNat by omega]; exact hp.2.2.1) (by rw [show 577 + 27 * x.toNat + 1 = 578 + 27 * x.toNat by omega]; exact hp.2.2.2.2.1) (by rw [show 577 + 27 * x.toNat + 1 = 578 + 27 * x.toNat by omega]; exact hp.2.2.2.2.2.1) (fun k h1 h2 => by omega)
        have ff : FZ (fun z _ => 577 + 27 * x.toNat ≤ z ∧ z ≤ 577 + 27 * x.toNat + 26) h h2 := (((FZ.pI (by omega)).tr (FZ.pI (by omega))).tr (FZ.pI (by omega))).tr (f2.mo (fun z j y => by unfold pA at y; omega))
        have rd : ∀ j, qI h2 (577 + 27 * x.toNat) j = qI (putI (putI (putI h (577 + 27 * x.toNat) 0 (iN 1)) (577 + 27 * x.toNat) 1 (iN y)) (577 + 27 * x.toNat) 2 (iN u)) (577 + 27 * x.toNat) j := fun j => f2.2 _ _ (fun y => by unfold pA at y; omega)
        have fl : ∀ p, 0 ≤ p → p < 3 → rF (mcR D.2 x y u) (3 * x + p) = false := fun p p1 p2 => if_pos (by omega)
        have cr : CR h2 (mcR D.2 x y u) := by
          refine c.2.cl q1 wd.2 ff ⟨rfl, rfl, rfl, rfl, rfl⟩ (fun d hd hne => ⟨up_ne (by omega), up_ne (by omega), fun p p1 p2 => ⟨if_neg (by omega), fun k _ _ => rfl⟩⟩) ?_
          refine ⟨?_, fun _ => ?_, ?_, a2.cg (fun p p1 p2 => (if_neg (show ¬ rF (mcR D.2 x y u) (3 * x + p) = true by rw [fl p p1 p2]; decide)).symm), fun p p1 p2 p3 => absurd p3 (show ¬ rF (mcR D.2 x y u) (3 * x + p) = true by rw [fl p p1 p2]; decide)⟩
          · rw [rd, rd_nk (by decide), rd_nk (by decide), rd_eq]
            exact (if_pos (show ¬ rK (mcR D.2 x y u) x = -1 by show ¬ up (rK D.2) x y x = -1; rw [up_eq]; omega)).symm
          · rw [rd, rd_nk (by decide), rd_eq]
            show _ = iN (up (rK D.2) x y x)
            rw [up_eq]
          · rw [rd, rd_eq]
            show _ = iN (up (rZ D.2) x u x)
            rw [up_eq]
        have wr := WR_mc wd.2 q1 q2 q3
        refine OpP.G u (D2 := (D.1, mcR D.2 x y u)) ⟨wd.1, wr⟩ (Fnd.cl wd s c q1 ff cr) ?_ (fun h1 s1 r1 s0 r0 rm => ?_)
        · unfold f_L_makeClip f_X8_makeClip
          rw [chk_pos s.o1, g_isW hx ⟨(by omega), (by omega)⟩ ⟨(by omega), (by omega)⟩, bnd_ret, g_rqI, if_pos q1, bnd_ret, g_isW hy ⟨(by omega), (by omega)⟩ ⟨(by omega), (by omega)⟩, bnd_ret, g_rqA, if_pos q2, bnd_ret, g_isW hu ⟨(by omega), (by omega)⟩ ⟨(by omega), (by omega)⟩, bnd_ret, g_rqA, if_pos q3, bnd_ret, chk_pos s.o1, s.cc q1, s.ca q1]
          unfold f_X2_remake
          rw [chk_pos hp.2.1, lt_is, lt_is, lt_is]
          have e2' : f_X2_remake_L17 2000 (putI (putI (putI h (577 + 27 * x.toNat) 0 (iN 1)) (577 + 27 * x.toNat) 1 (iN y)) (577 + 27 * x.toNat) 2 (iN u)) (577 + 27 * x.toNat) (iN 0) = some (h2, .inr ()) := e2
          rw [e2', bnd_ret, bndX_ret]
        · have r8 := r0.2.2.2.2.1
          obtain ⟨h6, e6, f6, a6⟩ := g_mcL9 (R := D.2) (sz := u) q1 3 0 (putI (putI (putI h1 632 0 (iN 0)) 637 x.toNat (iN y)) 638 x.toNat (iN u)) 2000 (by omega) (by omega) s0.pI.pI ((r0.2.2.2.2.2.2.2.ne (by omega)).ne (by omega) |>.cg (fun q y1 y2 => by rw [if_neg (show ¬ (3 * x ≤ q ∧ q < 3 * x + ((0 : Nat) : Int)) by omega)]))
          have ff : FZ (fun z j => 632 ≤ z ∧ ¬ (z = 632 ∧ j = 0)) (putI h1 632 0 (iN 0)) h6 := ((FZ.pI (by omega)).tr (FZ.pI (by omega))).tr (f6.mo (fun z j y => by unfold pA at y; omega))
          have gg : FZ (fun z j => z = 637 ∨ z = 638 ∨ z = 640) (putI h1 632 0 (iN 0)) h6 := ((FZ.pI (by omega)).tr (FZ.pI (by omega))).tr (f6.mo (fun z j y => by unfold pA at y; omega))
          refine ⟨h6, ?_, ff, r0.1.fz gg (fun j => by omega), ⟨?_, ?_, ?_, ?_, ?_, ?_, a6⟩⟩
          · unfold f_X9_makeClip
            rw [chk_pos s1.m.1, lt_is, g_isClip hx, bnd_ret, if_neg (fun z => bN0.mp z q1), g_in hy ⟨(by omega), (by omega)⟩ ⟨(by omega), (by omega)⟩, bnd_ret, if_neg (fun z => bN0.mp z q2), g_in hu ⟨(by omega), (by omega)⟩ ⟨(by omega), (by omega)⟩, bnd_ret, if_neg (fun z => bN0.mp z q3), chk_pos s0.m.1, s0.m.r8, chk_pos s0.m.o8, s0.m.w8, ck_in (by omega) (by omega) (by omega), lt_is, iN_cl (z := x) (by omega) (by omega), s0.pI.m.r9, chk_pos s0.pI.m.o9, s0.pI.m.w9, ck_in (by omega) (by omega) (by omega), lt_is]
            exact e6
          · exact (gg.2 _ _ (by omega)).trans r0.2.1
          · exact fun z => (r0.2.2.1 z).fz gg (fun j => by omega)
          · exact ⟨(gg.2 _ _ (by omega)).trans r0.2.2.2.1.1, (gg.2 _ _ (by omega)).trans r0.2.2.2.1.2.1, r0.2.2.2.1.2.2.fz gg (fun j => by omega)⟩
          · exact ((r0.2.2.2.2.1.put (k := x) q1.1).ne (by omega)).fz f6 (fun j => by unfold pA; omega)
          · exact ((r0.2.2.2.2.2.1.ne (by omega)).put (k := x) q1.1).fz f6 (fun j => by unfold pA; omega)
          · exact r0.2.2.2.2.2.2.1.fz gg (fun j => by omega)
      · refine OpP.f0 2 (by omega) wd s c ?_ (fun h1 s1 r1 s0 rm => ?_)
        · unfold f_L_makeClip f_X8_makeClip
          rw [chk_pos s.o1, g_isW hx ⟨(by omega), (by omega)⟩ ⟨(by omega), (by omega)⟩, bnd_ret, g_rqI, if_pos q1, bnd_ret, g_isW hy ⟨(by omega), (by omega)⟩ ⟨(by omega), (by omega)⟩, bnd_ret, g_rqA, if_pos q2, bnd_ret, g_isW hu ⟨(by omega), (by omega)⟩ ⟨(by omega), (by omega)⟩, bnd_ret, g_rqA, if_neg q3, bnd_thr, bndX_thr, if_neg (by decide), if_pos rfl]
        · unfold f_X9_makeClip f_X9_makeClip_L36
          rw [chk_pos s1.m.1, lt_is, g_isClip hx, bnd_ret, if_neg (fun z => bN0.mp z q1), g_in hy ⟨(by omega), (by omega)⟩ ⟨(by omega), (by omega)⟩, bnd_ret, if_neg (fun z => bN0.mp z q2), g_in hu ⟨(by omega), (by omega)⟩ ⟨(by omega), (by omega)⟩, bnd_ret, if_pos (bN0.mpr q3), chk_pos s0.m.1, g_fails s0, bnd_ret]
    · refine OpP.f0 2 (by omega) wd s c ?_ (fun h1 s1 r1 s0 rm => ?_)
      · unfold f_L_makeClip f_X8_makeClip
        rw [chk_pos s.o1, g_isW hx ⟨(by omega), (by omega)⟩ ⟨(by omega), (by omega)⟩, bnd_ret, g_rqI, if_pos q1, bnd_ret, g_isW hy ⟨(by omega), (by omega)⟩ ⟨(by omega), (by omega)⟩, bnd_ret, g_rqA, if_neg q2, bnd_thr, bndX_thr, if_neg (by decide), if_pos rfl]
      · unfold f_X9_makeClip f_X9_makeClip_L36
        rw [chk_pos s1.m.1, lt_is, g_isClip hx, bnd_ret, if_neg (fun z => bN0.mp z q1), g_in hy ⟨(by omega), (by omega)⟩ ⟨(by omega), (by omega)⟩, bnd_ret, if_pos (bN0.mpr q2), chk_pos s0.m.1, g_fails s0, bnd_ret]
  · refine OpP.f0 1 (by omega) wd s c ?_ (fun h1 s1 r1 s0 rm => ?_)
    · unfold f_L_makeClip f_X8_makeClip
      rw [chk_pos s.o1, g_isW hx ⟨(by omega), (by omega)⟩ ⟨(by omega), (by omega)⟩, bnd_ret, g_rqI, if_neg q1, bnd_thr, bndX_thr, if_pos rfl]
    · unfold f_X9_makeClip
      rw [chk_pos s1.m.1, lt_is, g_isClip hx, bnd_ret, if_pos (bN0.mpr q1), chk_pos s0.m.1, g_fails s0, bnd_ret]
