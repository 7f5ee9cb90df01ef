/-! ===== STAGE B: calls that change the cells: addCell, removeCell ===== -/
theorem WB.cg3 {b b2 : Int → Int} (w : WB b) (e : ∀ k, 3 ≤ k → k < 31 → b2 k = b k) : WB b2 := by
  obtain ⟨w1, w2, w3, w4, w5, w6, w7⟩ := w
  have e3 := e 3 (by omega) (by omega)
  have e4 := e 4 (by omega) (by omega)
  have e5 := e 5 (by omega) (by omega)
  have e6 := e 6 (by omega) (by omega)
  refine ⟨by rw [e3]; exact w1, by rw [e4]; exact w2, by rw [e5]; exact w3, by rw [e6]; exact w4, fun k h1 h2 => ?_, by rw [e3, e4]; exact w6, by rw [e3, e5, e6]; exact w7⟩
  rw [e (7 + k) (by omega) (by omega), e (19 + k) (by omega) (by omega)]
  exact w5 k h1 (by rw [e4] at h2; exact h2)
theorem HC.cg3 {h : Hp} {q : Nat} {b b2 : Int → Int} (c : HC h q b) (w : WB b) (e : ∀ k, 3 ≤ k → k < 31 → b2 k = b k) : HC h q b2 := c.bk (e 3 (by omega) (by omega)) (e 4 (by omega) (by omega)) (e 5 (by omega) (by omega)) (e 6 (by omega) (by omega)) (fun k h1 h2 => by have := w.2.1; exact ⟨e (7 + k) (by omega) (by omega), e (19 + k) (by omega) (by omega)⟩)
/-- a block is put behind the others -/
def plN (m b : Int → Int) (j : Int) : Int := if 10 + 31 * m 5 ≤ j ∧ j < 10 + 31 * m 5 + 31 then b (j - (10 + 31 * m 5)) else if j = 5 then m 5 + 1 else m j
theorem plN_new {m b : Int → Int} {k : Int} (hk : 0 ≤ k ∧ k < 31) : blk (plN m b) (m 5) k = b k := by
  unfold blk plN
  rw [if_pos (by omega), show 10 + 31 * m 5 + k - (10 + 31 * m 5) = k by omega]
theorem plN_old {m b : Int → Int} {i k : Int} (h5 : 0 ≤ m 5) (hi : 0 ≤ i ∧ i < m 5) (hk : 0 ≤ k ∧ k < 31) : blk (plN m b) i k = blk m i k := by
  unfold blk plN
  rw [if_neg (by omega), if_neg (by omega)]
theorem plN_hd {m b : Int → Int} {j : Int} (h5 : 0 ≤ m 5) (hj : j < 10) (hj5 : j ≠ 5) : plN m b j = m j := by
  unfold plN
  rw [if_neg (by omega), if_neg hj5]
theorem plN_5 {m b : Int → Int} (h5 : 0 ≤ m 5) : plN m b 5 = m 5 + 1 := by
  unfold plN
  rw [if_neg (by omega), if_pos rfl]
theorem WF_pl {m b : Int → Int} (w : WF m) (h5 : m 5 < 16) (co : CO m b) (wb : WB b) (dj : ∀ i, 0 ≤ i → i < m 5 → ¬ atP m (b 0) (b 1) (b 2) i) : WF (plN m b) := by
  have h50 := w.1.2.2.2.2.2.1
  have hd : ∀ {j}, j < 10 → j ≠ 5 → plN m b j = m j := fun h1 h2 => plN_hd h50 h1 h2
  refine ⟨by rw [hd (by omega) (by omega), hd (by omega) (by omega), hd (by omega) (by omega), hd (by omega) (by omega), hd (by omega) (by omega), plN_5 h50]; exact ⟨w.1.1, w.1.2.1, w.1.2.2.1, w.1.2.2.2.1, w.1.2.2.2.2.1, (by omega), (by omega)⟩, fun c h1 h2 => by rw [hd (by omega) (by omega)]; exact w.2.1 c h1 h2, fun i h1 h2 => ?_, fun i j h1 h2 h3 h4 => ?_⟩
  · rw [plN_5 h50] at h2
    by_cases e : i = m 5
    · subst e
      refine ⟨?_, wb.cg (fun k k1 k2 => plN_new ⟨k1, k2⟩)⟩
      unfold CO at *
      rw [plN_new (by omega), plN_new (by omega), plN_new (by omega), hd (by omega) (by omega), hd (by omega) (by omega)]
      exact co
    · have w1 := w.2.2.1 i h1 (by omega)
      refine ⟨?_, w1.2.cg (fun k k1 k2 => plN_old h50 (by omega) ⟨k1, k2⟩)⟩
      have w2 := w1.1
      unfold CO at *
      rw [plN_old h50 (by omega) (by omega), plN_old h50 (by omega) (by omega), plN_old h50 (by omega) (by omega), hd (by omega) (by omega), hd (by omega) (by omega)]
      exact w2
  · rw [plN_5 h50] at h3
    by_cases e : j = m 5
    · subst e
      rw [plN_new (by omega), plN_old h50 (by omega) (by omega)] at h4
      rw [plN_new (by omega), plN_new (by omega), plN_old h50 (by omega) (by omega), plN_old h50 (by omega) (by omega)]
      have d := dj i h1 h2
      unfold atP at d
      omega
    · rw [plN_old h50 (by omega) (by omega), plN_old h50 (by omega) (by omega)] at h4
      rw [plN_old h50 (by omega) (by omega), plN_old h50 (by omega) (by omega), plN_old h50 (by omega) (by omega), plN_old h50 (by omega) (by omega)]
      exact w.2.2.2 i j h1 h2 (by omega) h4
def plH (h : Hp) (T : Nat) (m : Int → Int) (r c sp : Int) : Hp := putI (putI (putI (putI h (cA h T (m 5)) 0 (iN r)) (cA h T (m 5)) 1 (iN c)) (cA h T (m 5)) 2 (iN sp)) T 5 (iN (m 5 + 1))
theorem plH_ly {h : Hp} {T : Nat} {m : Int → Int} {r c sp : Int} : Ly h (plH h T m r c sp) := ((Ly.pI.tr Ly.pI).tr Ly.pI).tr Ly.pI
theorem g_place {h : Hp} {T : Nat} {m : Int → Int} (t : TM h T m) (w : WF m) (h5 : m 5 < 16) {r c sp : Int} : f_X7_place h T (iN r) (iN c) (iN sp) = some (plH h T m r c sp, .inr (cA h T (m 5) + 1)) := by
  have h50 := w.1.2.2.2.2.2.1
  obtain ⟨k0, hk0, ek0⟩ := t.1.at (i := m 5) (by omega)
  have e : qI (putI (putI (putI h (cA h T (m 5)) 0 (iN r)) (cA h T (m 5)) 1 (iN c)) (cA h T (m 5)) 2 (iN sp)) T 5 = iN (m 5) := by rw [rd_ne (by omega), rd_ne (by omega), rd_ne (by omega)]; exact t.ns
  have l : LTb (plH h T m r c sp) T := t.1.ly plH_ly
  have ec : cA (plH h T m r c sp) T (m 5) = cA h T (m 5) := cA_ly plH_ly
  have er : qR (plH h T m r c sp) (cA h T (m 5)) 3 = cA h T (m 5) + 1 := by rw [← ec]; exact l.cr (by omega)
  have lc : LC (plH h T m r c sp) (cA h T (m 5) + 1) := by rw [← ec]; exact l.cl (by omega)
  unfold f_X7_place
  rw [chk_pos t.1.o, t.1.r8, chk_pos t.1.o3, t.ns, t.1.w3, ck_in (by omega) (by omega) (by omega), cA_eq (by omega) (by omega), chk_pos (t.1.co (by omega)), lt_is, lt_is, lt_is, lt_is, e, iN_add]
  show chk (okr (plH h T m r c sp) (qR (plH h T m r c sp) (cA h T (m 5)) 3) 4) (some (plH h T m r c sp, Sum.inr (qR (plH h T m r c sp) (cA h T (m 5)) 3))) = _
  rw [er, chk_pos lc.1]
theorem TM_pl {h h2 : Hp} {T : Nat} {m b : Int → Int} (t : TM h T m) (w : WF m) (h5 : m 5 < 16) (wb : WB b) (f : FZ (pK (cA h T (m 5) + 1)) (plH h T m (b 0) (b 1) (b 2)) h2) (c : HC h2 (cA h T (m 5) + 1) b) : TM h2 T (plN m b) := by
  have h50 := w.1.2.2.2.2.2.1
  have hd : ∀ {j}, j < 10 → j ≠ 5 → plN m b j = m j := fun h1 h2 => plN_hd h50 h1 h2
  obtain ⟨k0, hk0, ek0⟩ := t.1.at (i := m 5) (by omega)
  have ly : Ly h h2 := plH_ly.tr f.1
  have rd : ∀ x j, (x < cA h T (m 5) ∨ cA h T (m 5) + 8 < x) → ¬ (x = T ∧ j = 5) → qI h2 x j = qI h x j := fun x j hx hn => by
    rw [f.2 x j (fun z => by unfold pK at z; omega)]
    unfold plH
    rw [qI_pI, if_neg hn, rd_ne (by omega), rd_ne (by omega), rd_ne (by omega)]
  have r5 : qI h2 T 5 = iN (m 5 + 1) := by
    rw [f.2 T 5 (fun z => by unfold pK at z; omega)]
    exact rd_eq
  have rA : qI h2 (cA h T (m 5)) 0 = iN (b 0) ∧ qI h2 (cA h T (m 5)) 1 = iN (b 1) ∧ qI h2 (cA h T (m 5)) 2 = iN (b 2) := by
    rw [f.2 _ 0 (fun z => by unfold pK at z; omega), f.2 _ 1 (fun z => by unfold pK at z; omega), f.2 _ 2 (fun z => by unfold pK at z; omega)]
    unfold plH
    refine ⟨?_, ?_, ?_⟩
    · rw [rd_ne (by omega), rd_nk (by decide), rd_nk (by decide), rd_eq]
    · rw [rd_ne (by omega), rd_nk (by decide), rd_eq]
    · rw [rd_ne (by omega), rd_eq]
  refine ⟨t.1.ly ly, ?_, fun k h1 h2 => by rw [rd _ _ (by omega) (by omega)]; show _ = iN (tyS (plN m b (6 + k))); rw [hd (by omega) (by omega)]; exact t.ty k h1 h2, fun k h1 h2 => by rw [rd _ _ (by omega) (by omega)]; show _ = iN (vaS (plN m b (6 + k))); rw [hd (by omega) (by omega)]; exact t.va k h1 h2, fun k h1 hk => ?_⟩
  · rw [rd T 0 (by omega) (by omega), rd T 1 (by omega) (by omega), rd T 2 (by omega) (by omega), rd T 3 (by omega) (by omega), rd T 4 (by omega) (by omega), r5, hd (by omega) (by omega), hd (by omega) (by omega), hd (by omega) (by omega), hd (by omega) (by omega), hd (by omega) (by omega), plN_5 h50]
    exact ⟨t.wd, t.gp, t.pd, t.cs, t.rs, rfl⟩
  · rw [plN_5 h50] at hk
    rw [cA_ly ly]
    by_cases e : k = m 5
    · subst e
      exact CC.bk (b := b) ⟨rA, c⟩ wb (fun x x1 x2 => plN_new ⟨x1, x2⟩)
    · obtain ⟨k1, hk1, ek1⟩ := t.1.at (i := k) (by omega)
      have hne : k1 ≠ k0 := fun z => e (t.1.inj (i := k) (j := m 5) (by omega) (by omega) (by rw [ek1, ek0, z]))
      exact ((t.cc h1 (by omega)).cg (fun x j x1 x2 _ => rd x j (by omega) (by omega))).bk (w.2.2.1 k h1 (by omega)).2 (fun x x1 x2 => plN_old h50 (by omega) ⟨x1, x2⟩)
/-- a new cell's block -/
def nwB (r c sp kd k : Int) : Int := if k = 0 then r else if k = 1 then c else if k = 2 then sp else if k = 3 then kd else if k = 5 then 1 else if k = 6 then 1 else 0
theorem nwB_wb {r c sp kd : Int} (h : 0 ≤ kd ∧ kd ≤ 5) : WB (nwB r c sp kd) := by
  have e3 : nwB r c sp kd 3 = kd := rfl
  have e4 : nwB r c sp kd 4 = 0 := rfl
  have e5 : nwB r c sp kd 5 = 1 := rfl
  have e6 : nwB r c sp kd 6 = 1 := rfl
  exact ⟨by rw [e3]; exact h, by rw [e4]; omega, by rw [e5]; omega, by rw [e6]; omega, fun k h1 h2 => by rw [e4] at h2; omega, fun _ => e4, fun _ => ⟨e5, e6⟩⟩
theorem RM.up {h : Hp} {m : Int → Int} {k v : Int} (r : RM h 632 m) (hk : 0 ≤ k) : RM (putI h (632 + 1) k.toNat (iN v)) 632 (up m k v) := ⟨r.1.ly Ly.pI, r.2.put hk⟩
theorem g_addsL {m : Int → Int} (h5 : 0 ≤ m 5 ∧ m 5 < 16) {r c sp kd : Int} : ∀ (d k : Nat) (h : Hp) (n : Nat), k + d = 31 → d < n → RM h 632 (fun j => if 10 + 31 * m 5 ≤ j ∧ j < 10 + 31 * m 5 + k then 0 else m j) →
    ∃ h2, f_X9_adds_L21 n h 632 (iN r) (iN c) (iN sp) (iN kd) (iN (m 5)) (iN (10 + 31 * m 5)) (iN k) = some (h2, .inr (iN (m 5))) ∧ FZ (fun x _ => x = 633) h h2 ∧ RM h2 632 (plN m (nwB r c sp kd)) := by
  intro d
  induction d with
  | zero =>
    intro k h n hk hn r0
    obtain ⟨n, rfl⟩ : ∃ z, n = z + 1 := ⟨n - 1, by omega⟩
    obtain rfl : k = 31 := by omega
    have r0 : RM h 632 (fun j => if 10 + 31 * m 5 ≤ j ∧ j < 10 + 31 * m 5 + 31 then 0 else m j) := r0
    have r1 := r0.up (k := 10 + 31 * m 5 + 0) (v := r) (by omega)
    have r2 := r1.up (k := 10 + 31 * m 5 + 1) (v := c) (by omega)
    have r3 := r2.up (k := 10 + 31 * m 5 + 2) (v := sp) (by omega)
    have r4 := r3.up (k := 10 + 31 * m 5 + 3) (v := kd) (by omega)
    have r5 := r4.up (k := 10 + 31 * m 5 + 5) (v := 1) (by omega)
    have r6 := r5.up (k := 10 + 31 * m 5 + 6) (v := 1) (by omega)
    have r7 := r6.up (k := 5) (v := m 5 + 1) (by omega)
    refine ⟨_, ?_, ((((((FZ.pI (P := fun x _ => x = 633) rfl).tr (FZ.pI rfl)).tr (FZ.pI rfl)).tr (FZ.pI rfl)).tr (FZ.pI rfl)).tr (FZ.pI rfl)).tr (FZ.pI rfl), r7.1, r7.2.cg (fun j h1 h2 => ?_)⟩
    · show f_X9_adds_B21 (f_X9_adds_L21 n) h 632 (iN r) (iN c) (iN sp) (iN kd) (iN (m 5)) (iN (10 + 31 * m 5)) (iN ((31 : Nat) : Int)) = _
      unfold f_X9_adds_B21
      rw [if_pos (yleN (by omega) (by omega) (by omega))]
      simp only [iN_add]
      rw [chk_pos r0.1.1, r0.1.r1, chk_pos r0.1.o1, r0.1.w1, ck_in (by omega) (by omega) (by omega), lt_is, iN_cl (z := 10 + 31 * m 5 + 0) (by omega) (by omega),
        r1.1.r1, chk_pos r1.1.o1, r1.1.w1, ck_in (by omega) (by omega) (by omega), lt_is, iN_cl (z := 10 + 31 * m 5 + 1) (by omega) (by omega),
        r2.1.r1, chk_pos r2.1.o1, r2.1.w1, ck_in (by omega) (by omega) (by omega), lt_is, iN_cl (z := 10 + 31 * m 5 + 2) (by omega) (by omega),
        r3.1.r1, chk_pos r3.1.o1, r3.1.w1, ck_in (by omega) (by omega) (by omega), lt_is, iN_cl (z := 10 + 31 * m 5 + 3) (by omega) (by omega),
        r4.1.r1, chk_pos r4.1.o1, r4.1.w1, ck_in (by omega) (by omega) (by omega), lt_is, iN_cl (z := 10 + 31 * m 5 + 5) (by omega) (by omega),
        r5.1.r1, chk_pos r5.1.o1, r5.1.w1, ck_in (by omega) (by omega) (by omega), lt_is, iN_cl (z := 10 + 31 * m 5 + 6) (by omega) (by omega),
        r6.1.r1, chk_pos r6.1.o1, r6.1.w1, ck_in (by omega) (by omega) (by omega), lt_is, g_rd r6 (by omega) (by omega), up_ne (by omega), up_ne (by omega), up_ne (by omega), up_ne (by omega), up_ne (by omega), up_ne (by omega), if_neg (by omega), iN_add, iN_cl (by omega) (by omega)]
    · unfold up plN nwB
      dsimp only
      by_cases e : 10 + 31 * m 5 ≤ j ∧ j < 10 + 31 * m 5 + 31
      · rw [if_neg (by omega), if_pos e, if_pos e]
        repeat' split
        all_goals first | rfl | omega
      · rw [if_neg (show ¬ j = 10 + 31 * m 5 + 6 by omega), if_neg (show ¬ j = 10 + 31 * m 5 + 5 by omega), if_neg (show ¬ j = 10 + 31 * m 5 + 3 by omega), if_neg (show ¬ j = 10 + 31 * m 5 + 2 by omega), if_neg (show ¬ j = 10 + 31 * m 5 + 1 by omega), if_neg (show ¬ j = 10 + 31 * m 5 + 0 by omega), if_neg e, if_neg e]
  | succ d ih =>
    intro k h n hk hn r0
    obtain ⟨n, rfl⟩ : ∃ z, n = z + 1 := ⟨n - 1, by omega⟩
    have r1 := r0.up (k := 10 + 31 * m 5 + k) (v := 0) (by omega)
    obtain ⟨h4, e4, f4, r4⟩ := ih (k + 1) _ n (by omega) (by omega) ⟨r1.1, r1.2.cg (fun j h1 h2 => by
      unfold up
      show (if j = 10 + 31 * m 5 + k then 0 else if 10 + 31 * m 5 ≤ j ∧ j < 10 + 31 * m 5 + k then 0 else m j) = _
      by_cases e : j = 10 + 31 * m 5 + k
      · rw [if_pos e, if_pos (by omega)]
      · rw [if_neg e]
        by_cases e2 : 10 + 31 * m 5 ≤ j ∧ j < 10 + 31 * m 5 + k
        · rw [if_pos e2, if_pos (by omega)]
        · rw [if_neg e2, if_neg (by omega)])⟩
    refine ⟨h4, ?_, (FZ.pI (P := fun x _ => x = 633) rfl).tr f4, r4⟩
    show f_X9_adds_B21 (f_X9_adds_L21 n) h 632 (iN r) (iN c) (iN sp) (iN kd) (iN (m 5)) (iN (10 + 31 * m 5)) (iN k) = _
    unfold f_X9_adds_B21
    rw [if_neg (nleN (by omega) (by omega) (by omega)), chk_pos r0.1.1, r0.1.r1, chk_pos r0.1.o1, r0.1.w1, iN_add (10 + 31 * m 5) k, ck_in (by omega) (by omega) (by omega), lt_is, iN_cl (z := 10 + 31 * m 5 + k) (by omega) (by omega), iN_add k 1]
    exact e4
theorem g_adds {h : Hp} {m : Int → Int} (rm : RM h 632 m) (h5 : 0 ≤ m 5 ∧ m 5 < 16) {r c sp kd : Int} : ∃ h2, f_X9_adds h 632 (iN r) (iN c) (iN sp) (iN kd) = some (h2, .inr (iN (m 5))) ∧ FZ (fun x _ => x = 633) h h2 ∧ RM h2 632 (plN m (nwB r c sp kd)) := by
  obtain ⟨h2, e2, f2, r2⟩ := g_addsL h5 (r := r) (c := c) (sp := sp) (kd := kd) 31 0 h 2000 (by omega) (by omega) ⟨rm.1, rm.2.cg (fun j h1 h2 => by rw [if_neg (by omega)])⟩
  refine ⟨h2, ?_, f2, r2⟩
  unfold f_X9_adds
  rw [chk_pos rm.1.1, rm.1.r1, chk_pos rm.1.o1, rm.1.w1, ck_in (by omega) (by omega) (by omega), g_rd rm (by omega) (by omega), iN_mul, iN_add]
  exact e2
theorem Mid.pl {h h2 : Hp} {D : Dt} {b : Int → Int} (wd : WD D) (s : SL h) (c : CI h D) (h5 : D.1 5 < 16) (wb : WB b) (f : FZ (pK (cA h 2 (D.1 5) + 1)) (plH h 2 D.1 (b 0) (b 1) (b 2)) h2) (ch : HC h2 (cA h 2 (D.1 5) + 1) b) : Mid h h2 D.2 (plN D.1 b) := by
  have h50 := wd.1.1.2.2.2.2.2.1
  have bb := cA_149 c.1.1 (i := D.1 5) (by omega)
  have f0 : FZ (fun x _ => 2 ≤ x ∧ x ≤ 149) h (plH h 2 D.1 (b 0) (b 1) (b 2)) := (((FZ.pI (by omega)).tr (FZ.pI (by omega))).tr (FZ.pI (by omega))).tr (FZ.pI (by omega))
  exact Mid.of wd s c (f0.tr (f.mo (fun x j z => by unfold pK at z; omega))) (TM_pl c.1.1 wd.1 h5 wb f ch)
theorem o_addCell {h : Hp} {D : Dt} (wd : WD D) (s : SL h) (c : CI h D) {x y u v : Int} (hx : InR x) (hy : InR y) (hu : InR u) (hv : InR v) : OpP h D (f_L_addCell h 1 (iN x) (iN y) (iN u) (iN v) 656) (fun h1 => f_X9_addCell h1 632 (iN x) (iN y) (iN u) (iN v)) := by
  have w := wd.1
  have t := c.1.1
  have h0 := w.1.1
  have h4 := w.1.2.2.2.2.1
  have h5 := w.1.2.2.2.2.2
  by_cases q1 : 0 ≤ x ∧ x ≤ D.1 4 - 1
  · by_cases q2 : 0 ≤ y ∧ y ≤ D.1 0 - 1
    · by_cases q3 : 0 ≤ v ∧ v ≤ 5
      · by_cases q4 : 1 ≤ u ∧ u ≤ D.1 0 - y
        · obtain ⟨g, eg, hg⟩ := g_hasRoom w (r := x) (c := y) (s := u) (by omega) (by omega) (by omega) t
          have ref0 : ∀ h1, SL h1 → RM (putI h1 632 0 (iN 0)) 632 D.1 → SL (putI h1 632 0 (iN 0)) → f_X9_addCell h1 632 (iN x) (iN y) (iN u) (iN v) = if g = true then bnd (f_X9_adds (putI h1 632 0 (iN 0)) 632 (iN x) (iN y) (iN u) (iN v)) fun h24 r25 => some (h24, .inr r25) else some (putI (putI h1 632 0 (iN 0)) 632 0 (iN 3), .inr (iN 0)) := by
            intro h1 s1 rm s0
            obtain ⟨g2, eg2, hg2⟩ := g_isFree9 rm w (r := x) (c := y) (s := u) hx (by omega) (by omega)
            unfold f_X9_addCell f_X9_addCell_L81
            rw [chk_pos s1.m.1, lt_is, g_isRow rm w hx, bnd_ret, if_neg (fun z => bN0.mp z q1), chk_pos s0.m.1, g_isColumn rm w hy, bnd_ret, if_neg (fun z => bN0.mp z q2), g_in hv ⟨(by omega), (by omega)⟩ ⟨(by omega), (by omega)⟩, bnd_ret, if_neg (fun z => bN0.mp z q3), if_neg (nltN (by omega) (by omega) (by omega)), chk_pos s0.m.1, s0.m.r1, chk_pos s0.m.o1, s0.m.w1, ck_in (by omega) (by omega) (by omega), g_rd rm (by omega) (by omega), iN_sub, if_pos (yleN (by omega) (by omega) (by omega)), ck_in (by omega) (by omega) (by omega), g_rd rm (by omega) (by omega)]
            by_cases p : D.1 5 = 16
            · rw [if_pos (by rw [p]), if_neg (fun z => by have := (hg.mp z).1; omega), chk_pos s0.m.1, g_fails s0, bnd_ret]
            · rw [if_neg (neN p (by omega) (by omega) (by omega) (by omega)), eg2, bnd_ret]
              by_cases p2 : g2 = true
              · rw [if_neg (fun z => bN0.mp z p2), if_pos (hg.mpr ⟨(by omega), hg2.mp p2⟩), chk_pos s0.m.1]
              · rw [if_pos (bN0.mpr p2), if_neg (fun z => p2 (hg2.mpr (hg.mp z).2)), chk_pos s0.m.1, g_fails s0, bnd_ret]
          by_cases p : g = true
          · obtain ⟨m16, dj⟩ := hg.mp p
            have wb : WB (nwB x y u v) := nwB_wb q3
            have wf : WF (plN D.1 (nwB x y u v)) := WF_pl w m16 ⟨⟨q1.1, show x < D.1 4 by omega⟩, q2.1, q4.1, show y + u ≤ D.1 0 by omega⟩ wb dj
            have ec : cA (plH h 2 D.1 x y u) 2 (D.1 5) = cA h 2 (D.1 5) := cA_ly plH_ly
            have lc : LC (plH h 2 D.1 x y u) (cA h 2 (D.1 5) + 1) := by rw [← ec]; exact (t.1.ly plH_ly).cl (by omega)
            obtain ⟨h2, e2, f2, c2⟩ := g_begin (b := nwB x y u v) lc wb rfl rfl rfl
            have md := Mid.pl (b := nwB x y u v) wd s c m16 wb f2 c2
            obtain ⟨h3, e3, fn, fc⟩ := md.fin wf wd.2
            have t3 : TM h3 2 (plN D.1 (nwB x y u v)) := fn.2.1.1.1
            have e2' : f_X4_begin (plH h 2 D.1 x y u) (cA h 2 (D.1 5) + 1) (iN v) = some (h2, .inr ()) := e2
            refine OpP.M (D.1 5) wf wd fn ?_ (fun h1 s1 r1 s0 rm => ?_)
            · unfold f_L_addCell f_X8_addCell
              rw [chk_pos s.o1, chk_pos s.o1, g_rqRow w s t hx, if_pos q1, bnd_ret, chk_pos s.o1, g_rqCol w s t hy, if_pos q2, bnd_ret, g_isW hv ⟨(by omega), (by omega)⟩ ⟨(by omega), (by omega)⟩, bnd_ret, g_rqA, if_pos q3, bnd_ret, chk_pos s.o1, s.t0, chk_pos t.1.o, t.cs, iN_sub, g_isW hu ⟨(by omega), (by omega)⟩ ⟨(by omega), (by omega)⟩, bnd_ret, g_rqA, if_pos q4, bnd_ret, chk_pos s.o1, s.t0, chk_pos t.1.o, eg, bnd_ret, g_rqS, if_pos p, bnd_ret, chk_pos s.o1, s.t0, chk_pos t.1.o, g_place t w m16, bnd_ret, chk_pos lc.1, e2', bnd_ret, chk_pos md.1.o1, e3, bnd_ret, chk_pos fn.1.o1, fn.1.t0, chk_pos t3.1.o, t3.ns, plN_5 h5.1, iN_sub, bndX_ret, show D.1 5 + 1 - 1 = D.1 5 by omega]
            · obtain ⟨h6, e6, f6, r6⟩ := g_adds rm (r := x) (c := y) (sp := u) (kd := v) (by omega)
              exact ⟨h6, by rw [ref0 h1 s1 rm s0, if_pos p, e6, bnd_ret], f6.mo (fun x j z => Or.inl z), r6.2⟩
          · refine OpP.f0 3 (by omega) wd s c ?_ (fun h1 s1 r1 s0 rm => ?_)
            · unfold f_L_addCell f_X8_addCell
              rw [chk_pos s.o1, chk_pos s.o1, g_rqRow w s t hx, if_pos q1, bnd_ret, chk_pos s.o1, g_rqCol w s t hy, if_pos q2, bnd_ret, g_isW hv ⟨(by omega), (by omega)⟩ ⟨(by omega), (by omega)⟩, bnd_ret, g_rqA, if_pos q3, bnd_ret, chk_pos s.o1, s.t0, chk_pos t.1.o, t.cs, iN_sub, g_isW hu ⟨(by omega), (by omega)⟩ ⟨(by omega), (by omega)⟩, bnd_ret, g_rqA, if_pos q4, bnd_ret, chk_pos s.o1, s.t0, chk_pos t.1.o, eg, bnd_ret, g_rqS, if_neg p, bnd_thr, bndX_thr, if_neg (by decide), if_neg (by decide), if_pos rfl]
            · rw [ref0 h1 s1 rm s0, if_neg p]
        · refine OpP.f0 2 (by omega) wd s c ?_ (fun h1 s1 r1 s0 rm => ?_)
          · unfold f_L_addCell f_X8_addCell
            rw [chk_pos s.o1, chk_pos s.o1, g_rqRow w s t hx, if_pos q1, bnd_ret, chk_pos s.o1, g_rqCol w s t hy, if_pos q2, bnd_ret, g_isW hv ⟨(by omega), (by omega)⟩ ⟨(by omega), (by omega)⟩, bnd_ret, g_rqA, if_pos q3, bnd_ret, chk_pos s.o1, s.t0, chk_pos t.1.o, t.cs, iN_sub, g_isW hu ⟨(by omega), (by omega)⟩ ⟨(by omega), (by omega)⟩, bnd_ret, g_rqA, if_neg q4, bnd_thr, bndX_thr, if_neg (by decide), if_pos rfl]
          · unfold f_X9_addCell f_X9_addCell_L54
            unfold InR at hu
            rw [chk_pos s1.m.1, lt_is, g_isRow rm w hx, bnd_ret, if_neg (fun z => bN0.mp z q1), chk_pos s0.m.1, g_isColumn rm w hy, bnd_ret, if_neg (fun z => bN0.mp z q2), g_in hv ⟨(by omega), (by omega)⟩ ⟨(by omega), (by omega)⟩, bnd_ret, if_neg (fun z => bN0.mp z q3), chk_pos s0.m.1, g_fails s0, bnd_ret]
            by_cases z : u < 1
            · rw [if_pos (yltN (by omega) (by omega) (by omega))]
            · rw [if_neg (nltN (by omega) (by omega) (by omega)), s0.m.r1, chk_pos s0.m.o1, s0.m.w1, ck_in (by omega) (by omega) (by omega), g_rd rm (by omega) (by omega), iN_sub, if_neg (nleN (by omega) (by omega) (by omega)), chk_pos s0.m.1]
      · refine OpP.f0 2 (by omega) wd s c ?_ (fun h1 s1 r1 s0 rm => ?_)
        · unfold f_L_addCell f_X8_addCell
          rw [chk_pos s.o1, chk_pos s.o1, g_rqRow w s t hx, if_pos q1, bnd_ret, chk_pos s.o1, g_rqCol w s t hy, if_pos q2, bnd_ret, g_isW hv ⟨(by omega), (by omega)⟩ ⟨(by omega), (by omega)⟩, bnd_ret, g_rqA, if_neg q3, bnd_thr, bndX_thr, if_neg (by decide), if_pos rfl]
        · unfold f_X9_addCell f_X9_addCell_L54
          rw [chk_pos s1.m.1, lt_is, g_isRow rm w hx, bnd_ret, if_neg (fun z => bN0.mp z q1), chk_pos s0.m.1, g_isColumn rm w hy, bnd_ret, if_neg (fun z => bN0.mp z q2), g_in hv ⟨(by omega), (by omega)⟩ ⟨(by omega), (by omega)⟩, bnd_ret, if_pos (bN0.mpr q3), chk_pos s0.m.1, g_fails s0, bnd_ret]
    · refine OpP.f0 1 (by omega) wd s c ?_ (fun h1 s1 r1 s0 rm => ?_)
      · unfold f_L_addCell f_X8_addCell
        rw [chk_pos s.o1, chk_pos s.o1, g_rqRow w s t hx, if_pos q1, bnd_ret, chk_pos s.o1, g_rqCol w s t hy, if_neg q2, bnd_thr, bndX_thr, if_pos rfl]
      · unfold f_X9_addCell f_X9_addCell_L21
        rw [chk_pos s1.m.1, lt_is, g_isRow rm w hx, bnd_ret, if_neg (fun z => bN0.mp z q1), chk_pos s0.m.1, g_isColumn rm w hy, bnd_ret, if_pos (bN0.mpr q2), chk_pos s0.m.1, g_fails s0, bnd_ret]
  · refine OpP.f0 1 (by omega) wd s c ?_ (fun h1 s1 r1 s0 rm => ?_)
    · unfold f_L_addCell f_X8_addCell
      rw [chk_pos s.o1, chk_pos s.o1, g_rqRow w s t hx, if_neg q1, bnd_thr, bndX_thr, if_pos rfl]
    · unfold f_X9_addCell f_X9_addCell_L21
      rw [chk_pos s1.m.1, lt_is, g_isRow rm w hx, bnd_ret, if_pos (bN0.mpr q1), chk_pos s0.m.1, g_fails s0, bnd_ret]
