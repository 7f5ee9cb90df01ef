/-! ===== STAGE B: copyTo, paste ===== -/
abbrev accP (k kd : Int) : Prop := k = kd ∨ kd = if k ≤ 3 then 0 else 4
theorem g_accepts {h : Hp} {a : Nat} {k kd : Int} (o : okr h a 2) (e : qI h a 1 = iN kd) (hk : 0 ≤ k ∧ k ≤ 5) (hd : 0 ≤ kd ∧ kd ≤ 5) : f_X2_accepts h a (iN k) = some (h, .inr (bN (accP k kd))) := by
  unfold f_X2_accepts f_X2_accepts_L24
  rw [chk_pos o, e, g_isTK ⟨(by omega), (by omega)⟩, bnd_ret]
  by_cases p : k = kd
  · rw [if_pos (by rw [p]), bN_y (Or.inl p)]
  · rw [if_neg (neN p (by omega) (by omega) (by omega) (by omega))]
    by_cases q : k ≤ 3
    · rw [if_neg (fun z => bN0.mp z q)]
      by_cases z : kd = 0
      · rw [if_pos (by rw [z]), bN_y (Or.inr (by rw [if_pos q]; exact z))]
      · rw [if_neg (neN z (by omega) (by omega) (by omega) (by omega)), bN_n (fun y => by unfold accP at y; rw [if_pos q] at y; omega)]
    · rw [if_pos (bN0.mpr q)]
      by_cases z : kd = 4
      · rw [if_pos (by rw [z]), bN_y (Or.inr (by rw [if_neg q]; exact z))]
      · rw [if_neg (neN z (by omega) (by omega) (by omega) (by omega)), bN_n (fun y => by unfold accP at y; rw [if_neg q] at y; omega)]
theorem g_isUnder {h : Hp} {k kd : Int} (hk : 0 ≤ k ∧ k ≤ 5) (hd : 0 ≤ kd ∧ kd ≤ 5) : f_X9_isUnder h (iN k) (iN kd) = some (h, .inr (bN (accP k kd))) := by
  unfold f_X9_isUnder f_X9_isUnder_L14
  by_cases p : k = kd
  · rw [if_pos (by rw [p]), bN_y (Or.inl p)]
  · rw [if_neg (neN p (by omega) (by omega) (by omega) (by omega))]
    by_cases z : kd = 0
    · rw [if_pos ((iN_eq0 (by omega) (by omega)).mpr z)]
      by_cases q : k ≤ 3
      · rw [if_pos (yltN (by omega) (by omega) (by omega)), bN_y (Or.inr (by rw [if_pos q]; exact z))]
      · rw [if_neg (nltN (by omega) (by omega) (by omega)), if_neg (neN (by omega) (by omega) (by omega) (by omega) (by omega)), bN_n (fun y => by unfold accP at y; rw [if_neg q] at y; omega)]
    · rw [if_neg (eN0 z (by omega) (by omega))]
      by_cases y : kd = 4
      · rw [if_pos (by rw [y])]
        by_cases q : k = 5
        · rw [if_pos (by rw [q]), bN_y (Or.inr (by rw [if_neg (by omega)]; exact y))]
        · rw [if_neg (neN q (by omega) (by omega) (by omega) (by omega)), bN_n (fun x => by unfold accP at x; split at x <;> omega)]
      · rw [if_neg (neN y (by omega) (by omega) (by omega) (by omega)), bN_n (fun x => by unfold accP at x; split at x <;> omega)]
/-- a content is copied into place p of clip c -/
def cpR (R : Rst) (P : Int) (b : Int → Int) : Rst := (rH R, rV R, rB R, rL R, rE R, rK R, rZ R, fun q => if q = P then true else rF R q, fun j => if 31 * P ≤ j ∧ j < 31 * P + 31 then b (j - 31 * P) else rC R j)
theorem cpR_eq {R : Rst} {P k : Int} {b : Int → Int} (hk : 0 ≤ k ∧ k < 31) : clB (cpR R P b) P k = b k := by
  show (if 31 * P ≤ 31 * P + k ∧ 31 * P + k < 31 * P + 31 then b (31 * P + k - 31 * P) else rC R (31 * P + k)) = b k
  rw [if_pos (by omega), show 31 * P + k - 31 * P = k by omega]
theorem cpR_ne {R : Rst} {P q k : Int} {b : Int → Int} (hq : q ≠ P) (hk : 0 ≤ k ∧ k < 31) : clB (cpR R P b) q k = clB R q k := by
  show (if 31 * P ≤ 31 * q + k ∧ 31 * q + k < 31 * P + 31 then b (31 * q + k - 31 * P) else rC R (31 * q + k)) = rC R (31 * q + k)
  rw [if_neg (by omega)]
theorem WR_cp {R : Rst} (w : WR R) {P : Int} {b : Int → Int} (wb : WB b) : WR (cpR R P b) := by
  obtain ⟨w1, w2, w3, w4, w5, w6⟩ := w
  refine ⟨w1, w2, w3, w4, w5, fun p h1 h2 h3 => ?_⟩
  by_cases e : p = P
  · rw [e]
    exact wb.cg (fun k k1 k2 => cpR_eq ⟨k1, k2⟩)
  · have h4 : (if p = P then true else rF R p) = true := h3
    rw [if_neg e] at h4
    exact (w6 p h1 h2 h4).cg (fun k k1 k2 => cpR_ne e ⟨k1, k2⟩)
theorem g_ctL {m : Int → Int} {R : Rst} {c p i : Int} (hc : 0 ≤ c ∧ c ≤ 1) (hp : 0 ≤ p ∧ p ≤ 2) (hi : 0 ≤ i ∧ i < 16) : ∀ (d k : Nat) (h : Hp) (n : Nat), k + d = 31 → d < n → RM h 632 m → AR h 640 6 (fun q => if rF R q = true then 1 else 0) → AR h 639 186 (fun j => if 31 * (3 * c + p) ≤ j ∧ j < 31 * (3 * c + p) + k then blk m i (j - 31 * (3 * c + p)) else rC R j) →
    ∃ h2, f_X9_copyTo_L91 n h 632 (iN c) (iN p) (iN i) (iN k) = some (h2, .inr (iN (blk m i 3))) ∧ FZ (fun x _ => x = 639 ∨ x = 640) h h2 ∧ AR h2 639 186 (rC (cpR R (3 * c + p) (blk m i))) ∧ AR h2 640 6 (fun q => if rF (cpR R (3 * c + p) (blk m i)) q = true then 1 else 0) := by
  intro d
  induction d with
  | zero =>
    intro k h n hk hn rm F A
    obtain ⟨n, rfl⟩ : ∃ z, n = z + 1 := ⟨n - 1, by omega⟩
    have r5 : RM (putI h 640 (3 * c + p).toNat (iN 1)) 632 m := rm.fz (FZ.pI (P := fun x _ => x = 640) rfl) (fun j => by omega)
    refine ⟨putI h 640 (3 * c + p).toNat (iN 1), ?_, FZ.pI (Or.inr rfl), (A.ne (by omega)).cg (fun j j1 j2 => by rw [show (k : Int) = 31 by omega]; rfl), (F.put (k := 3 * c + p) (by omega)).cg (fun q q1 q2 => ?_)⟩
    · show f_X9_copyTo_B91 (f_X9_copyTo_L91 n) h 632 (iN c) (iN p) (iN i) (iN k) = _
      unfold f_X9_copyTo_B91
      rw [if_pos (yleN (by omega) (by omega) (by omega)), chk_pos rm.1.1, rm.1.r11, chk_pos rm.1.o11, rm.1.w11, iN_mul, iN_add, ck_in (by omega) (by omega) (by omega), lt_is, iN_cl (by omega) (by omega), g_ofA r5 hi (by omega), bnd_ret]
    · unfold up
      dsimp only
      show _ = if (if q = 3 * c + p then true else rF R q) = true then 1 else 0
      by_cases e : q = 3 * c + p
      · rw [if_pos e, if_pos e, if_pos rfl]
      · rw [if_neg e, if_neg e]
  | succ d ih =>
    intro k h n hk hn rm F A
    obtain ⟨n, rfl⟩ : ∃ z, n = z + 1 := ⟨n - 1, by omega⟩
    have f1 : FZ (fun x _ => x = 639) h (putI h 639 (31 * (3 * c + p) + (k : Int)).toNat (iN (blk m i k))) := FZ.pI rfl
    obtain ⟨h4, e4, f4, a4, b4⟩ := ih (k + 1) (putI h 639 (31 * (3 * c + p) + (k : Int)).toNat (iN (blk m i k))) n (by omega) (by omega) (rm.fz f1 (fun j => by omega)) (F.ne (by omega)) ((A.put (k := 31 * (3 * c + p) + (k : Int)) (by omega)).cg (fun j h1 h2 => by
      unfold up
      dsimp only
      by_cases e : j = 31 * (3 * c + p) + (k : Int)
      · rw [if_pos e, if_pos (by omega), show j - 31 * (3 * c + p) = k by omega]
      · rw [if_neg e]
        by_cases e2 : 31 * (3 * c + p) ≤ j ∧ j < 31 * (3 * c + p) + (k : Int)
        · rw [if_pos e2, if_pos (by omega)]
        · rw [if_neg e2, if_neg (by omega)]))
    refine ⟨h4, ?_, (f1.mo (fun x j z => Or.inl z)).tr f4, a4, b4⟩
    show f_X9_copyTo_B91 (f_X9_copyTo_L91 n) h 632 (iN c) (iN p) (iN i) (iN k) = _
    unfold f_X9_copyTo_B91
    rw [if_neg (nleN (by omega) (by omega) (by omega)), chk_pos rm.1.1, rm.1.r10, chk_pos rm.1.o10, g_ofA rm hi (by omega), bnd_ret, chk_pos rm.1.o10, rm.1.w10, iN_mul, iN_add, iN_mul, iN_add, ck_in (by omega) (by omega) (by omega), lt_is, iN_cl (by omega) (by omega), iN_add]
    exact e4
/-- both fail with k, with the reference's state at hand -/
theorem OpP.G' {h : Hp} {D : Dt} {x : Option (Rs Int32)} {y : Hp → Option (Rs Int32)} (k : Int) (hk : 1 ≤ k ∧ k ≤ 4) (wd : WD D) (s : SL h) (c : CI h D) (ex : x = some (bump h, .inr (iN k))) (ey : ∀ h1, SL h1 → RI h1 D → SL (putI h1 632 0 (iN 0)) → RI (putI h1 632 0 (iN 0)) D → RM (putI h1 632 0 (iN 0)) 632 D.1 → y h1 = some (putI (putI h1 632 0 (iN 0)) 632 0 (iN k), .inr (iN 0))) : OpP h D x y := OpP.f0 k hk wd s c ex (fun h1 s1 r1 s0 rm => ey h1 s1 r1 s0 (ref0 s1 r1).2.1 rm)
theorem o_copyTo {h : Hp} {D : Dt} (wd : WD D) (s : SL h) (c : CI h D) {x y u : Int} (hx : InR x) (hy : InR y) (hu : InR u) : OpP h D (f_L_copyTo h 1 (iN x) (iN y) (iN u) 656) (fun h1 => f_X9_copyTo h1 632 (iN x) (iN y) (iN u)) := by
  have w := wd.1
  have t := c.1.1
  have h5 := w.1.2.2.2.2.2
  by_cases q1 : 0 ≤ x ∧ x ≤ 1
  · by_cases q2 : 0 ≤ u ∧ u ≤ D.1 5 - 1
    · have hu3 : 0 ≤ u ∧ u < D.1 5 := by omega
      have hu2 : 0 ≤ u ∧ u < 16 := by omega
      have wb := (w.2.2.1 u hu3.1 hu3.2).2
      have cc := t.cc hu3.1 hu3.2
      have hp := s.cp q1
      have cp : CPc h (577 + 27 * x.toNat) (rK D.2 x) (rZ D.2 x) (fun p => rF D.2 (3 * x + p)) (fun p => clB D.2 (3 * x + p)) := by
        have := c.2.2.2.2 x.toNat (by omega)
        rw [Int.toNat_of_nonneg q1.1] at this
        exact this
      have wk := wd.2.2.2.2.2.1 x q1.1 (by omega)
      have bk := wb.1
      by_cases q3 : rK D.2 x ≠ -1
      · by_cases q4 : 0 ≤ y ∧ y ≤ rZ D.2 x - 1
        · by_cases q5 : accP (blk D.1 u 3) (rK D.2 x)
          · have wr := WR_cp (P := 3 * x + y) wd.2 wb
            obtain ⟨pr, pl⟩ := hp.2.2.2.2.2.2.2.2 y.toNat (by omega)
            have lb := cA_149 t hu2
            obtain ⟨h2, e2, f2, c2⟩ := g_copyC (q := 580 + 27 * x.toNat + 8 * y.toNat) (qo := cA h 2 u + 1) (by omega) wb pl (t.1.cl hu2) cc.2
            have ff : FZ (fun z _ => 577 + 27 * x.toNat ≤ z ∧ z ≤ 577 + 27 * x.toNat + 26) h (putI h2 (578 + 27 * x.toNat) y.toNat (iN 1)) := (f2.mo (fun z j y => by unfold pK at y; omega)).tr (FZ.pI (by omega))
            have s2 := s.ly f2.1
            have hp2 := s2.cp q1
            have fq : ∀ q, rF (cpR D.2 (3 * x + y) (blk D.1 u)) q = if q = 3 * x + y then true else rF D.2 q := fun q => rfl
            have cr : CR (putI h2 (578 + 27 * x.toNat) y.toNat (iN 1)) (cpR D.2 (3 * x + y) (blk D.1 u)) := by
              refine c.2.cl q1 wd.2 ff ⟨rfl, rfl, rfl, rfl, rfl⟩ (fun d hd hne => ⟨rfl, rfl, fun p p1 p2 => ⟨if_neg (by omega), fun k k1 k2 => cpR_ne (by omega) ⟨k1, k2⟩⟩⟩) ?_
              have rd : ∀ j, qI (putI h2 (578 + 27 * x.toNat) y.toNat (iN 1)) (577 + 27 * x.toNat) j = qI h (577 + 27 * x.toNat) j := fun j => by rw [rd_ne (by omega)]; exact f2.2 _ _ (fun y => by unfold pK at y; omega)
              refine ⟨(rd 0).trans cp.1, fun z => (rd 1).trans (cp.2.1 z), (rd 2).trans cp.2.2.1, ?_, fun p p1 p2 p3 => ?_⟩
              · rw [show 577 + 27 * x.toNat + 1 = 578 + 27 * x.toNat by omega]
                have A0 : AR h (578 + 27 * x.toNat) 3 (fun p => if rF D.2 (3 * x + p) = true then 1 else 0) := by
                  rw [show 578 + 27 * x.toNat = 577 + 27 * x.toNat + 1 by omega]
                  exact cp.2.2.2.1
                refine ((A0.fz f2 (fun j y => by unfold pK at y; omega)).put (k := y) q4.1).cg (fun p p1 p2 => ?_)
                unfold up
                dsimp only
                show _ = if (if 3 * x + p = 3 * x + y then true else rF D.2 (3 * x + p)) = true then 1 else 0
                by_cases e : p = y
                · rw [if_pos e, if_pos (show 3 * x + p = 3 * x + y by omega), if_pos rfl]
                · rw [if_neg e, if_neg (show ¬ 3 * x + p = 3 * x + y by omega)]
              · have c3 : ∀ {q} {bb}, HC h2 q bb → (q + 7 < 578 + 27 * x.toNat ∨ 578 + 27 * x.toNat < q) → HC (putI h2 (578 + 27 * x.toNat) y.toNat (iN 1)) q bb := fun z zz => z.cg (fun x j x1 x2 _ => rd_ne (by omega))
                by_cases e : p = y
                · subst e
                  have hh : HC h2 (577 + 27 * x.toNat + 3 + 8 * p.toNat) (blk D.1 u) := by rw [show 577 + 27 * x.toNat + 3 + 8 * p.toNat = 580 + 27 * x.toNat + 8 * p.toNat by omega]; exact c2
                  exact (c3 hh (by omega)).cgb wb (fun k k1 k2 => cpR_eq ⟨k1, k2⟩)
                · have p4 : rF D.2 (3 * x + p) = true := by
                    have p5 : (if 3 * x + p = 3 * x + y then true else rF D.2 (3 * x + p)) = true := p3
                    rw [if_neg (show ¬ 3 * x + p = 3 * x + y by omega)] at p5
                    exact p5
                  have hh := (cp.2.2.2.2 p p1 p2 p4).fz f2 (fun z j z1 z2 _ y => by unfold pK at y; omega)
                  exact (c3 hh (by omega)).cgb (wd.2.2.2.2.2.2 (3 * x + p) (by omega) (by omega) p4) (fun k k1 k2 => cpR_ne (by omega) ⟨k1, k2⟩)
            refine OpP.G (blk D.1 u 3) (D2 := (D.1, cpR D.2 (3 * x + y) (blk D.1 u))) ⟨wd.1, wr⟩ (Fnd.cl wd s c q1 ff cr) ?_ (fun h1 s1 r1 s0 r0 rm => ?_)
            · have lk : LC (putI h2 (578 + 27 * x.toNat) y.toNat (iN 1)) (cA h 2 u + 1) := ((t.1.cl hu2).ly f2.1).ly Ly.pI
              have ek : qI (putI h2 (578 + 27 * x.toNat) y.toNat (iN 1)) (cA h 2 u + 1) 0 = iN (blk D.1 u 3) := by
                rw [rd_ne (by omega), f2.2 _ _ (fun y => by unfold pK at y; omega)]
                exact cc.2.1.1
              unfold f_L_copyTo f_X8_copyTo
              rw [chk_pos s.o1, g_isW hx ⟨(by omega), (by omega)⟩ ⟨(by omega), (by omega)⟩, bnd_ret, g_rqI, if_pos q1, bnd_ret, chk_pos s.o1, g_rqCell w s t hu, if_pos q2, bnd_ret, chk_pos s.o1, s.cc q1, s.ca q1, s.t0, chk_pos t.1.o, t.1.r8, chk_pos t.1.o3, t.1.w3, ck_in (by omega) (by omega) (by omega), cA_eq (by omega) (by omega), chk_pos (t.1.co hu2), t.1.cr hu2, chk_pos (t.1.cl hu2).1, cp.1, g_rqS, if_pos q3, bnd_ret, chk_pos hp.2.1, cp.2.2.1, iN_sub, g_isW hy ⟨(by omega), (by omega)⟩ ⟨(by omega), (by omega)⟩, bnd_ret, g_rqE, if_pos q4, bnd_ret, chk_pos (t.1.cl hu2).1, chk_pos hp.2.1, cc.2.1.1, g_accepts hp.2.1 (cp.2.1 q3) bk (by omega), bnd_ret, g_rqA, if_pos q5, bnd_ret, chk_pos hp.2.1, hp.2.2.2.1, chk_pos hp.2.2.2.2.2.2.1, hp.2.2.2.2.2.2.2.1, ck_in (by omega) (by omega) (by omega), iN_cl (z := y) (by omega) (by omega), pr, chk_pos pl.1, e2, bnd_ret, chk_pos hp2.2.1, hp2.2.2.1, chk_pos hp2.2.2.2.2.1, hp2.2.2.2.2.2.1, ck_in (by omega) (by omega) (by omega), lt_is, chk_pos lk.1, bndX_ret, ek]
            · obtain ⟨h6, e6, f6, a6, b6⟩ := g_ctL (R := D.2) (c := x) (p := y) (i := u) q1 (by omega) hu2 31 0 (putI h1 632 0 (iN 0)) 2000 (by omega) (by omega) rm r0.2.2.2.2.2.2.2 (r0.2.2.2.2.2.2.1.cg (fun j j1 j2 => by rw [if_neg (by omega)]))
              refine ⟨h6, ?_, f6.mo (fun z j y => by omega), r0.1.fz f6 (fun j => by omega), ⟨(f6.2 _ _ (by omega)).trans r0.2.1, fun z => (r0.2.2.1 z).fz f6 (fun j => by omega), ⟨(f6.2 _ _ (by omega)).trans r0.2.2.2.1.1, (f6.2 _ _ (by omega)).trans r0.2.2.2.1.2.1, r0.2.2.2.1.2.2.fz f6 (fun j => by omega)⟩, r0.2.2.2.2.1.fz f6 (fun j => by omega), r0.2.2.2.2.2.1.fz f6 (fun j => by omega), a6, b6⟩⟩
              unfold f_X9_copyTo
              rw [chk_pos s1.m.1, lt_is, g_isClip hx, bnd_ret, if_neg (fun z => bN0.mp z q1), chk_pos s0.m.1, g_isCell rm w hu, bnd_ret, if_neg (fun z => bN0.mp z q2), chk_pos s0.m.1, s0.m.r8, chk_pos s0.m.o8, s0.m.w8, ck_in (by omega) (by omega) (by omega), iN_cl (z := x) (by omega) (by omega), r0.2.2.2.2.1 x (by omega) (by omega), if_neg (neN q3 (by omega) (by omega) (by omega) (by omega)), s0.m.r9, chk_pos s0.m.o9, s0.m.w9, ck_in (by omega) (by omega) (by omega), r0.2.2.2.2.2.1 x (by omega) (by omega), iN_sub, g_in hy ⟨(by omega), (by omega)⟩ ⟨(by omega), (by omega)⟩, bnd_ret, if_neg (fun z => bN0.mp z q4), chk_pos s0.m.1, g_ofA rm hu2 (by omega), bnd_ret, chk_pos s0.m.1, s0.m.r8, chk_pos s0.m.o8, s0.m.w8, ck_in (by omega) (by omega) (by omega), r0.2.2.2.2.1 x (by omega) (by omega), g_isUnder bk (by omega), bnd_ret, if_neg (fun z => bN0.mp z q5)]
              exact e6
          · refine OpP.G' 4 (by omega) wd s c ?_ (fun h1 s1 r1 s0 r0 rm => ?_)
            · unfold f_L_copyTo f_X8_copyTo
              rw [chk_pos s.o1, g_isW hx ⟨(by omega), (by omega)⟩ ⟨(by omega), (by omega)⟩, bnd_ret, g_rqI, if_pos q1, bnd_ret, chk_pos s.o1, g_rqCell w s t hu, if_pos q2, bnd_ret, chk_pos s.o1, s.cc q1, s.ca q1, s.t0, chk_pos t.1.o, t.1.r8, chk_pos t.1.o3, t.1.w3, ck_in (by omega) (by omega) (by omega), cA_eq (by omega) (by omega), chk_pos (t.1.co hu2), t.1.cr hu2, chk_pos (t.1.cl hu2).1, cp.1, g_rqS, if_pos q3, bnd_ret, chk_pos hp.2.1, cp.2.2.1, iN_sub, g_isW hy ⟨(by omega), (by omega)⟩ ⟨(by omega), (by omega)⟩, bnd_ret, g_rqE, if_pos q4, bnd_ret, chk_pos (t.1.cl hu2).1, chk_pos hp.2.1, cc.2.1.1, g_accepts hp.2.1 (cp.2.1 q3) bk (by omega), bnd_ret, g_rqA, if_neg q5, bnd_thr, bndX_thr, if_neg (by decide), if_neg (by decide), if_neg (by decide), if_pos rfl]
            · unfold f_X9_copyTo
              rw [chk_pos s1.m.1, lt_is, g_isClip hx, bnd_ret, if_neg (fun z => bN0.mp z q1), chk_pos s0.m.1, g_isCell rm w hu, bnd_ret, if_neg (fun z => bN0.mp z q2), chk_pos s0.m.1, s0.m.r8, chk_pos s0.m.o8, s0.m.w8, ck_in (by omega) (by omega) (by omega), iN_cl (z := x) (by omega) (by omega), r0.2.2.2.2.1 x (by omega) (by omega), if_neg (neN q3 (by omega) (by omega) (by omega) (by omega)), s0.m.r9, chk_pos s0.m.o9, s0.m.w9, ck_in (by omega) (by omega) (by omega), r0.2.2.2.2.2.1 x (by omega) (by omega), iN_sub, g_in hy ⟨(by omega), (by omega)⟩ ⟨(by omega), (by omega)⟩, bnd_ret, if_neg (fun z => bN0.mp z q4), chk_pos s0.m.1, g_ofA rm hu2 (by omega), bnd_ret, chk_pos s0.m.1, s0.m.r8, chk_pos s0.m.o8, s0.m.w8, ck_in (by omega) (by omega) (by omega), r0.2.2.2.2.1 x (by omega) (by omega), g_isUnder bk (by omega), bnd_ret, if_pos (bN0.mpr q5), chk_pos s0.m.1, g_fails s0, bnd_ret]
        · refine OpP.G' 3 (by omega) wd s c ?_ (fun h1 s1 r1 s0 r0 rm => ?_)
          · unfold f_L_copyTo f_X8_copyTo
            rw [chk_pos s.o1, g_isW hx ⟨(by omega), (by omega)⟩ ⟨(by omega), (by omega)⟩, bnd_ret, g_rqI, if_pos q1, bnd_ret, chk_pos s.o1, g_rqCell w s t hu, if_pos q2, bnd_ret, chk_pos s.o1, s.cc q1, s.ca q1, s.t0, chk_pos t.1.o, t.1.r8, chk_pos t.1.o3, t.1.w3, ck_in (by omega) (by omega) (by omega), cA_eq (by omega) (by omega), chk_pos (t.1.co hu2), t.1.cr hu2, chk_pos (t.1.cl hu2).1, cp.1, g_rqS, if_pos q3, bnd_ret, chk_pos hp.2.1, cp.2.2.1, iN_sub, g_isW hy ⟨(by omega), (by omega)⟩ ⟨(by omega), (by omega)⟩, bnd_ret, g_rqE, if_neg q4, bnd_thr, bndX_thr, if_neg (by decide), if_neg (by decide), if_pos rfl]
          · unfold f_X9_copyTo
            rw [chk_pos s1.m.1, lt_is, g_isClip hx, bnd_ret, if_neg (fun z => bN0.mp z q1), chk_pos s0.m.1, g_isCell rm w hu, bnd_ret, if_neg (fun z => bN0.mp z q2), chk_pos s0.m.1, s0.m.r8, chk_pos s0.m.o8, s0.m.w8, ck_in (by omega) (by omega) (by omega), iN_cl (z := x) (by omega) (by omega), r0.2.2.2.2.1 x (by omega) (by omega), if_neg (neN q3 (by omega) (by omega) (by omega) (by omega)), s0.m.r9, chk_pos s0.m.o9, s0.m.w9, ck_in (by omega) (by omega) (by omega), r0.2.2.2.2.2.1 x (by omega) (by omega), iN_sub, g_in hy ⟨(by omega), (by omega)⟩ ⟨(by omega), (by omega)⟩, bnd_ret, if_pos (bN0.mpr q4), chk_pos s0.m.1, g_fails s0, bnd_ret]
      · refine OpP.G' 2 (by omega) wd s c ?_ (fun h1 s1 r1 s0 r0 rm => ?_)
        · unfold f_L_copyTo f_X8_copyTo
          rw [chk_pos s.o1, g_isW hx ⟨(by omega), (by omega)⟩ ⟨(by omega), (by omega)⟩, bnd_ret, g_rqI, if_pos q1, bnd_ret, chk_pos s.o1, g_rqCell w s t hu, if_pos q2, bnd_ret, chk_pos s.o1, s.cc q1, s.ca q1, s.t0, chk_pos t.1.o, t.1.r8, chk_pos t.1.o3, t.1.w3, ck_in (by omega) (by omega) (by omega), cA_eq (by omega) (by omega), chk_pos (t.1.co hu2), t.1.cr hu2, chk_pos (t.1.cl hu2).1, cp.1, g_rqS, if_neg q3, bnd_thr, bndX_thr, if_neg (by decide), if_pos rfl]
        · unfold f_X9_copyTo
          rw [chk_pos s1.m.1, lt_is, g_isClip hx, bnd_ret, if_neg (fun z => bN0.mp z q1), chk_pos s0.m.1, g_isCell rm w hu, bnd_ret, if_neg (fun z => bN0.mp z q2), chk_pos s0.m.1, s0.m.r8, chk_pos s0.m.o8, s0.m.w8, ck_in (by omega) (by omega) (by omega), iN_cl (z := x) (by omega) (by omega), r0.2.2.2.2.1 x (by omega) (by omega), if_pos (by rw [show rK D.2 x = -1 by omega]), g_fails s0, bnd_ret]
    · refine OpP.f0 1 (by omega) wd s c ?_ (fun h1 s1 r1 s0 rm => ?_)
      · unfold f_L_copyTo f_X8_copyTo
        rw [chk_pos s.o1, g_isW hx ⟨(by omega), (by omega)⟩ ⟨(by omega), (by omega)⟩, bnd_ret, g_rqI, if_pos q1, bnd_ret, chk_pos s.o1, g_rqCell w s t hu, if_neg q2, bnd_thr, bndX_thr, if_pos rfl]
      · unfold f_X9_copyTo f_X9_copyTo_L20
        rw [chk_pos s1.m.1, lt_is, g_isClip hx, bnd_ret, if_neg (fun z => bN0.mp z q1), chk_pos s0.m.1, g_isCell rm w hu, bnd_ret, if_pos (bN0.mpr q2), chk_pos s0.m.1, g_fails s0, bnd_ret]
  · refine OpP.f0 1 (by omega) wd s c ?_ (fun h1 s1 r1 s0 rm => ?_)
    · unfold f_L_copyTo f_X8_copyTo
      rw [chk_pos s.o1, g_isW hx ⟨(by omega), (by omega)⟩ ⟨(by omega), (by omega)⟩, bnd_ret, g_rqI, if_neg q1, bnd_thr, bndX_thr, if_pos rfl]
    · unfold f_X9_copyTo f_X9_copyTo_L20
      rw [chk_pos s1.m.1, lt_is, g_isClip hx, bnd_ret, if_pos (bN0.mpr q1), chk_pos s0.m.1, g_fails s0, bnd_ret]
