/-! ===== STAGE B: the second table: critical, costOfWord ===== -/
theorem stB_min {H : (Int → Int) → Int} {s : BS} {t : Int → Int} : (stB H s t).1 = min s.1 (H t) := by
  unfold stB
  split
  · show H t = _
    omega
  · omega
theorem foB_min {H : (Int → Int) → Int} {L : Int} : ∀ (l : List (Int → Int)) (s u : BS), s.1 = min L u.1 → (foB H s l).1 = min L (foB H u l).1
  | [], s, u, h => h
  | t :: l, s, u, h => by
    have h1 := foB_min (H := H) (L := L) l (stB H s t) (stB H u t) (by rw [stB_min, stB_min, h]; omega)
    exact h1
/-- with a limit: what is lower, or nothing -/
theorem lh_L {m : Int → Int} {L x : Int} (hL : L ≤ 1000000) : lhF m L x = if 0 ≤ lhF m 1000000 x ∧ lhF m 1000000 x < L then lhF m 1000000 x else if (bsC m 1000000 x).1 < 0 then lhF m L x else -1 := by
  have e : (bsC m L x).1 = min L (bsC m 1000000 x).1 := by
    unfold bsC
    split
    · exact foB_min _ _ _ (by show L = min L 1000000; omega)
    · show L = min L 1000000
      omega
  unfold lhF
  rw [e]
  by_cases p : (bsC m 1000000 x).1 < 0
  · by_cases q : (bsC m 1000000 x).1 < 1000000
    · rw [if_pos q, if_neg (show ¬ (0 ≤ (bsC m 1000000 x).1 ∧ (bsC m 1000000 x).1 < L) by omega), if_pos p]
    · omega
  · by_cases q : (bsC m 1000000 x).1 < 1000000
    · rw [if_pos q]
      by_cases r : (bsC m 1000000 x).1 < L
      · rw [if_pos (by omega), if_pos ⟨(by omega), r⟩]
        omega
      · rw [if_neg (show ¬ min L (bsC m 1000000 x).1 < L by omega), if_neg (show ¬ (0 ≤ (bsC m 1000000 x).1 ∧ (bsC m 1000000 x).1 < L) by omega), if_neg p]
    · rw [if_neg q, if_neg (show ¬ min L (bsC m 1000000 x).1 < L by omega), if_neg (show ¬ (0 ≤ (-1 : Int) ∧ (-1 : Int) < L) by omega), if_neg p]
theorem lh_lim {m : Int → Int} (w : WF m) {L x : Int} (hL : L ≤ 1000000) (hx : x ≤ 36) : lhF m L x = if 0 ≤ lhF m 1000000 x ∧ lhF m 1000000 x < L then lhF m 1000000 x else -1 := by
  have h1 := lh_bd w (L := 1000000) hx
  rw [lh_L hL]
  by_cases p : 0 ≤ lhF m 1000000 x ∧ lhF m 1000000 x < L
  · rw [if_pos p, if_pos p]
  · rw [if_neg p, if_neg p, if_neg]
    intro z
    have h2 : lhF m 1000000 x = (bsC m 1000000 x).1 := by
      unfold lhF
      rw [if_pos (by omega)]
    omega
theorem Stq.t {h h1 h2 : Hp} {D : Dt} (a : Stq h h1 D) (wd : WD D) (f : FZ (fun x _ => 210 ≤ x ∧ x ≤ 417) h1 h2) : Stq h h2 D := a.tr ⟨a.1.ly f.1, ⟨a.2.1.1.fz wd.1.1.2.2.2.2.2 f (fun x j z1 z2 z3 => by omega), a.2.1.2.fz wd.2 f (fun x j z1 z3 => by omega)⟩, fun x j z => f.2 x j (by omega), f.qc.1, f.qc.2⟩
/-- another heap's numbers over this heap's layout -/
def mixH (h h2 : Hp) : Hp := (qN h, qT h, qW h, qI h2, qL h, qR h, qC h, qS h)
theorem mix_fz {P : Nat → Nat → Prop} {h h2 : Hp} (e : ∀ x j, ¬ P x j → qI h2 x j = qI h x j) : FZ P h (mixH h h2) := ⟨⟨rfl, rfl, rfl, rfl, rfl, rfl, rfl⟩, e⟩
theorem KM.mix {h h2 : Hp} {C : Nat} {m : Int → Int} (k : KM (mixH h h2) C m) : KM h2 C m := k
theorem SM.mix {h h2 : Hp} {S : Nat} {m : Int → Int} {L : Int} (k : SM (mixH h h2) S m L) : SM h2 S m L := k
theorem Stq.k {h h1 h2 : Hp} {D : Dt} (a : Stq h h1 D) (wd : WD D) (p : Lr 213 h1 h2) (l210 : LTb h2 210) (e : ∀ x j, (x < 210 ∨ 418 ≤ x) → qI h2 x j = qI h1 x j) : Stq h h2 D := by
  have s2 : SL h2 := a.1.lr p (Or.inr rfl) (a.1.2.1.1.lr p (by omega)) l210
  have f : FZ (fun x _ => 210 ≤ x ∧ x ≤ 417) h1 (mixH h1 h2) := mix_fz (fun x j z => e x j (by omega))
  have tm : TM h2 2 D.1 := a.2.1.1.1.lr wd.1.1.2.2.2.2.2 s2.2.1.1 (fun j => p.2.2.2.2.2.2 _ _ (by decide)) (fun x j x1 x2 => e x j (by omega))
  exact a.tr ⟨s2, ⟨⟨tm, (a.2.1.1.2.1.fz f (fun x j x1 x2 z => by omega)).mix, (a.2.1.1.2.2.fz f (fun x j x1 x2 z => by omega)).mix⟩, a.2.1.2.lr wd.2 s2 p (by decide) (fun x j z => e x j (by omega))⟩, fun x j z => e x j (by omega), p.2.2.2.2.1, p.2.2.2.2.2.1⟩
/-- the second table's least height below a limit -/
theorem g_below {h : Hp} {n : Int → Int} {L : Int} (w : WF n) (s : SL h) (tn : TM h 210 n) (hL : -10 ≤ L ∧ L ≤ 2000000) : ∃ h2, f_X8_heightOfTrialBelow h 1 (iN L) = some (h2, .inr (iN (lhF n L (n 1)))) ∧ FZ (fun x _ => 210 ≤ x ∧ x ≤ 417) h h2 := by
  have hm := w.1.2.2.2.2.2
  have h1 := w.1.2.1
  obtain ⟨h3, e3, f3, k3⟩ := g_measure w s.2.2.1.2 tn
  have s3 := s.ly f3.1
  have t3 := tn.c hm (by decide) f3
  obtain ⟨h4, e4, f4, m4⟩ := g_restart w (L := L) s3.2.2.2.1.2 s3.2.2.1.2 t3 k3
  have s4 := s3.ly f4.1
  have t4 := t3.fz hm f4 (fun x j z1 z2 z3 => by omega)
  obtain ⟨h5, e5, f5, t5, m5, a5⟩ := g_leastHeight w (L := L) (x := n 1) hL (by omega) s4.2.2.2.1.2 t4 m4
  refine ⟨h5, ?_, ((f3.mo (fun x j z => by unfold pC at z; omega)).tr (f4.mo (fun x j z => by omega))).tr (f5.mo (fun x j z => by unfold pS pH at z; omega))⟩
  unfold f_X8_heightOfTrialBelow
  rw [chk_pos s.o1, s.t4, chk_pos s.2.2.1.2.o, e3, bnd_ret, chk_pos s3.o1, s3.t5, chk_pos s3.2.2.2.1.2.o, e4, bnd_ret, chk_pos s4.o1, s4.t5, chk_pos s4.2.2.2.1.2.o, s4.t3, chk_pos t4.1.o, t4.wd, e5, bnd_ret]
/-- the cell without which the table is the lowest, so far -/
def crF (m : Int → Int) : Nat → Int × Int
  | 0 => (lhF m 1000000 (m 1), -1)
  | k + 1 => if 0 ≤ lhF (rmN m k) 1000000 (m 1) ∧ lhF (rmN m k) 1000000 (m 1) < (crF m k).1 then (lhF (rmN m k) 1000000 (m 1), (k : Int)) else crF m k
theorem crF_bd {m : Int → Int} (w : WF m) (h0 : 0 ≤ lhF m 1000000 (m 1)) : ∀ k : Nat, (k : Int) ≤ m 5 → (0 ≤ (crF m k).1 ∧ (crF m k).1 ≤ 182) ∧ -1 ≤ (crF m k).2 ∧ (crF m k).2 < 16
  | 0, _ => by
    have := lh_bd w (L := 1000000) (x := m 1) w.1.2.1.2
    rw [crF]
    exact ⟨⟨h0, this.2.1⟩, by show (-1 : Int) ≤ -1; omega, by show (-1 : Int) < 16; omega⟩
  | k + 1, hk => by
    have h16 := w.1.2.2.2.2.2
    have h1 := crF_bd w h0 k (by omega)
    have w2 := WF_rm w (i := (k : Int)) (by omega)
    have h2 := lh_bd w2 (L := 1000000) (x := m 1) w.1.2.1.2
    rw [crF]
    split
    · show (0 ≤ lhF (rmN m k) 1000000 (m 1) ∧ lhF (rmN m k) 1000000 (m 1) ≤ 182) ∧ -1 ≤ (k : Int) ∧ (k : Int) < 16
      omega
    · exact h1
theorem g_crL {D : Dt} (wd : WD D) (h0 : 0 ≤ lhF D.1 1000000 (D.1 1)) : ∀ (d k : Nat) (h : Hp) (n : Nat), (k : Int) + d = D.1 5 → d < n → SL h → CI h D →
    ∃ h2, f_X8_critical_L31 n h 1 (iN (crF D.1 k).1) (iN (crF D.1 k).2) (iN k) = (if 0 ≤ (crF D.1 (D.1 5).toNat).2 then some (h2, .inr (iN (crF D.1 (D.1 5).toNat).2)) else some (bump h2, .inl 5)) ∧ Stq h h2 D := by
  have w := wd.1
  have h16 := w.1.2.2.2.2.2
  have h1b := w.1.2.1
  intro d
  induction d with
  | zero =>
    intro k h n hk hn s c
    obtain ⟨n, rfl⟩ : ∃ z, n = z + 1 := ⟨n - 1, by omega⟩
    have cb := crF_bd w h0 k (by omega)
    refine ⟨h, ?_, Stq.rf s c⟩
    show f_X8_critical_B31 (f_X8_critical_L31 n) h 1 (iN (crF D.1 k).1) (iN (crF D.1 k).2) (iN k) = _
    unfold f_X8_critical_B31 f_X8_critical_L93
    rw [chk_pos s.o1, s.t0, chk_pos c.1.1.1.o, c.1.1.ns, if_pos (yleN (by omega) (by omega) (by omega)), show (D.1 5).toNat = k by omega]
    by_cases p : 0 ≤ (crF D.1 k).2
    · rw [if_neg (fun z => by have := (iN_lt0 (by omega) (by omega)).mp z; omega), g_rqE1, bnd_ret, if_pos p]
    · rw [if_pos ((iN_lt0 (by omega) (by omega)).mpr (by omega)), g_rqE0, bnd_thr, if_neg p]
  | succ d ih =>
    intro k h n hk hn s c
    obtain ⟨n, rfl⟩ : ∃ z, n = z + 1 := ⟨n - 1, by omega⟩
    have cb := crF_bd w h0 k (by omega)
    have t := c.1.1
    obtain ⟨h2, e2, f2, t2⟩ := g_copyT (T := 210) w (Or.inr (by omega)) s.2.1.2.1 t
    have st2 := (Stq.rf s c).t wd (f2.mo (fun x j z => by omega))
    obtain ⟨h3, e3, l3, i3, t3⟩ := g_takeOut w t2 (i := (k : Int)) (by omega)
    have st3 := st2.k wd l3 t3.1 (fun x j z => i3 x j (by omega))
    have wr := WF_rm w (i := (k : Int)) (by omega)
    obtain ⟨h4, e4, f4⟩ := g_below (L := (crF D.1 k).1) wr st3.1 t3 (by omega)
    have st4 := st3.t wd f4
    obtain ⟨h6, e6, st6⟩ := ih (k + 1) h4 n (by omega) (by omega) st4.1 st4.2.1
    refine ⟨h6, ?_, st4.tr st6⟩
    have e1 : rmN D.1 k 1 = D.1 1 := rmN_hd (by omega) (by omega) (by omega)
    rw [e1, lh_lim wr (by omega) h1b.2] at e4
    have lb := lh_bd wr (L := 1000000) (x := D.1 1) h1b.2
    rw [crF, show ((k + 1 : Nat) : Int) = (k : Int) + 1 by omega] at e6
    show f_X8_critical_B31 (f_X8_critical_L31 n) h 1 (iN (crF D.1 k).1) (iN (crF D.1 k).2) (iN k) = _
    unfold f_X8_critical_B31 f_X8_critical_L78
    rw [chk_pos s.o1, s.t0, chk_pos t.1.o, t.ns, if_neg (nleN (by omega) (by omega) (by omega)), s.t3, chk_pos s.2.1.2.1.o, e2, bnd_ret, chk_pos st2.1.o1, st2.1.t3, chk_pos t2.1.o, e3, bnd_ret, chk_pos st3.1.o1, e4, bnd_ret, iN_add]
    by_cases p : 0 ≤ lhF (rmN D.1 k) 1000000 (D.1 1) ∧ lhF (rmN D.1 k) 1000000 (D.1 1) < (crF D.1 k).1
    · rw [if_pos p] at e6
      rw [if_pos p, if_neg (fun z => by have := (iN_lt0 (by omega) (by omega)).mp z; omega)]
      exact e6
    · rw [if_neg p] at e6
      rw [if_neg p, if_pos ((iN_lt0 (by omega) (by omega)).mpr (by omega))]
      exact e6
theorem g_kpL {m : Int → Int} : ∀ (d k : Nat) (h : Hp) (n : Nat), k + d = 506 → d < n → RM h 632 m → AR h 635 k m →
    ∃ h2, f_X9_keeps_L2 n h 632 (iN k) = some (h2, .inr ()) ∧ FZ (fun x _ => x = 635) h h2 ∧ AR h2 635 506 m := by
  intro d
  induction d with
  | zero =>
    intro k h n hk hn r A
    obtain ⟨n, rfl⟩ : ∃ z, n = z + 1 := ⟨n - 1, by omega⟩
    refine ⟨h, ?_, FZ.rf, (show AR h 635 506 m by rw [show (506 : Int) = k by omega]; exact A)⟩
    show f_X9_keeps_B2 (f_X9_keeps_L2 n) h 632 (iN k) = _
    unfold f_X9_keeps_B2
    rw [if_pos (yleN (by omega) (by omega) (by omega))]
  | succ d ih =>
    intro k h n hk hn r A
    obtain ⟨n, rfl⟩ : ∃ z, n = z + 1 := ⟨n - 1, by omega⟩
    obtain ⟨h4, e4, f4, a4⟩ := ih (k + 1) (putI h 635 (k : Int).toNat (iN (m k))) n (by omega) (by omega) ⟨r.1.ly Ly.pI, r.2.ne (by omega)⟩ (A.sn (by omega))
    refine ⟨h4, ?_, (FZ.pI (P := fun x _ => x = 635) rfl).tr f4, a4⟩
    show f_X9_keeps_B2 (f_X9_keeps_L2 n) h 632 (iN k) = _
    unfold f_X9_keeps_B2
    rw [if_neg (nleN (by omega) (by omega) (by omega)), chk_pos r.1.1, r.1.r3, chk_pos r.1.o3, r.1.r1, chk_pos r.1.o1, r.1.w1, ck_in (by omega) (by omega) (by omega), r.1.w3, ck_in (by omega) (by omega) (by omega), lt_is, g_rd r (by omega) (by omega), iN_cl (by omega) (by omega), iN_add]
    exact e4
theorem g_keeps {h : Hp} {m : Int → Int} (r : RM h 632 m) : ∃ h2, f_X9_keeps h 632 = some (h2, .inr ()) ∧ FZ (fun x _ => x = 635) h h2 ∧ AR h2 635 506 m := g_kpL 506 0 h 2000 (by omega) (by omega) r (fun k h1 h2 => by omega)
theorem g_gbL {m p : Int → Int} : ∀ (d k : Nat) (h : Hp) (n : Nat), k + d = 506 → d < n → AR h 635 506 m → RM h 632 (fun j => if j < k then m j else p j) →
    ∃ h2, f_X9_goesBack_L2 n h 632 (iN k) = some (h2, .inr ()) ∧ FZ (fun x _ => x = 633) h h2 ∧ RM h2 632 m := by
  intro d
  induction d with
  | zero =>
    intro k h n hk hn A r
    obtain ⟨n, rfl⟩ : ∃ z, n = z + 1 := ⟨n - 1, by omega⟩
    refine ⟨h, ?_, FZ.rf, r.1, r.2.cg (fun j h1 h2 => if_pos (by omega))⟩
    show f_X9_goesBack_B2 (f_X9_goesBack_L2 n) h 632 (iN k) = _
    unfold f_X9_goesBack_B2
    rw [if_pos (yleN (by omega) (by omega) (by omega))]
  | succ d ih =>
    intro k h n hk hn A r
    obtain ⟨n, rfl⟩ : ∃ z, n = z + 1 := ⟨n - 1, by omega⟩
    have r1 := r.up (k := (k : Int)) (v := m k) (by omega)
    obtain ⟨h4, e4, f4, r4⟩ := ih (k + 1) _ n (by omega) (by omega) (A.ne (by omega)) ⟨r1.1, r1.2.cg (fun j h1 h2 => by
      unfold up
      dsimp only
      by_cases e : j = k
      · rw [if_pos e, if_pos (by omega), e]
      · rw [if_neg e]
        by_cases e2 : j < k
        · rw [if_pos e2, if_pos (by omega)]
        · rw [if_neg e2, if_neg (by omega)])⟩
    refine ⟨h4, ?_, (FZ.pI (P := fun x _ => x = 633) rfl).tr f4, r4⟩
    show f_X9_goesBack_B2 (f_X9_goesBack_L2 n) h 632 (iN k) = _
    unfold f_X9_goesBack_B2
    rw [if_neg (nleN (by omega) (by omega) (by omega)), chk_pos r.1.1, r.1.r1, chk_pos r.1.o1, r.1.r3, chk_pos r.1.o3, r.1.w3, ck_in (by omega) (by omega) (by omega), r.1.w1, ck_in (by omega) (by omega) (by omega), lt_is, iN_cl (by omega) (by omega), show qI h (632 + 3) (k : Int).toNat = iN (m k) from A k (by omega) (by omega), iN_add]
    exact e4
theorem g_goesBack {h : Hp} {m p : Int → Int} (A : AR h 635 506 m) (r : RM h 632 p) : ∃ h2, f_X9_goesBack h 632 = some (h2, .inr ()) ∧ FZ (fun x _ => x = 633) h h2 ∧ RM h2 632 m := g_gbL (p := p) 506 0 h 2000 (by omega) (by omega) A ⟨r.1, r.2.cg (fun j h1 h2 => by rw [if_neg (by omega)])⟩
/-- scratch, the table and its keep -/
def pZ (x j : Nat) : Prop := x = 633 ∨ x = 635 ∨ pX 632 x j
theorem RI.z {h h2 : Hp} {D : Dt} (r : RI h D) (f : FZ pZ h h2) (A : AR h2 633 506 D.1) : RI h2 D := ⟨A, r.2.fz f.2 (fun x j z z2 => by unfold pZ pX at z2; omega)⟩
theorem OpP.A2 {h h' : Hp} {D : Dt} {x : Option (Rs Int32)} {y : Hp → Option (Rs Int32)} (v : Int) (wd : WD D) (a : Stq h h' D) (ex : x = ansL h' (iN v)) (ey : ∀ h1, SL h1 → RI h1 D → SL (putI h1 632 0 (iN 0)) → RM (putI h1 632 0 (iN 0)) 632 D.1 → ∃ h2, y h1 = some (h2, .inr (iN v)) ∧ FZ pZ (putI h1 632 0 (iN 0)) h2 ∧ AR h2 633 506 D.1) : OpP h D x y := by
  refine ⟨0, v, D, by omega, wd, by rw [ex]; exact COp.ret a.1 a.2.1 a.2.2.1 (by rw [a.2.2.2.1]; omega) (by rw [a.2.2.2.2]; omega), fun h1 s1 r1 => ?_⟩
  obtain ⟨s0, r0, rm⟩ := ref0 s1 r1
  obtain ⟨h2, e2, f2, a2⟩ := ey h1 s1 r1 s0 rm
  exact ⟨h2, v, e2, fun _ => rfl, by rw [f2.2 _ _ (fun z => by unfold pZ pX at z; omega)]; exact rd_eq, FZ.r0.tr (f2.mo (fun x j z => by unfold pZ pX at z; omega)), r0.z f2 a2⟩
theorem OpP.F2 {h h' : Hp} {D : Dt} {x : Option (Rs Int32)} {y : Hp → Option (Rs Int32)} (k : Int) (hk : 1 ≤ k ∧ k ≤ 4) (wd : WD D) (a : Stq h h' D) (ex : x = some (bump h', .inr (iN k))) (ey : ∀ h1, SL h1 → RI h1 D → SL (putI h1 632 0 (iN 0)) → RM (putI h1 632 0 (iN 0)) 632 D.1 → ∃ h2, y h1 = some (putI h2 632 0 (iN k), .inr (iN 0)) ∧ FZ pZ (putI h1 632 0 (iN 0)) h2 ∧ AR h2 633 506 D.1) : OpP h D x y := by
  refine ⟨k, 0, D, by omega, wd, by rw [ex]; exact COp.thr (by omega) a.1 a.2.1 a.2.2.1 (by rw [a.2.2.2.1]; omega) (by rw [a.2.2.2.2]; omega), fun h1 s1 r1 => ?_⟩
  obtain ⟨s0, r0, rm⟩ := ref0 s1 r1
  obtain ⟨h2, e2, f2, a2⟩ := ey h1 s1 r1 s0 rm
  exact ⟨_, 0, e2, fun z => absurd z (by omega), rd_eq, (FZ.r0.tr (f2.mo (fun x j z => by unfold pZ pX at z; omega))).tr (FZ.pI (by omega)), (r0.z f2 a2).t⟩
theorem FZ.xz {h h2 : Hp} (f : FZ (pX 632) h h2) : FZ pZ h h2 := f.mo (fun x j z => Or.inr (Or.inr z))
theorem g_crL9 {m : Int → Int} (w : WF m) (h0 : 0 ≤ lhF m 1000000 (m 1)) : ∀ (d k : Nat) (h : Hp) (n : Nat), (k : Int) + d = m 5 → d < n → SL h → RM h 632 m → AR h 635 506 m →
    ∃ h2, f_X9_critical_L31 n h 632 (iN (crF m k).1) (iN (crF m k).2) (iN k) = (if 0 ≤ (crF m (m 5).toNat).2 then some (h2, .inr (iN (crF m (m 5).toNat).2)) else some (putI h2 632 0 (iN 2), .inr (iN 0))) ∧ FZ pZ h h2 ∧ AR h2 633 506 m := by
  have h16 := w.1.2.2.2.2.2
  have h1b := w.1.2.1
  intro d
  induction d with
  | zero =>
    intro k h n hk hn s r A
    obtain ⟨n, rfl⟩ : ∃ z, n = z + 1 := ⟨n - 1, by omega⟩
    have cb := crF_bd w h0 k (by omega)
    refine ⟨h, ?_, FZ.rf, r.2⟩
    show f_X9_critical_B31 (f_X9_critical_L31 n) h 632 (iN (crF m k).1) (iN (crF m k).2) (iN k) = _
    unfold f_X9_critical_B31
    rw [chk_pos r.1.1, r.1.r3, chk_pos r.1.o3, r.1.w3, ck_in (by omega) (by omega) (by omega), iN_cl (by omega) (by omega), show qI h (632 + 3) (5 : Int).toNat = iN (m 5) from A 5 (by omega) (by omega), if_pos (yleN (by omega) (by omega) (by omega)), show (m 5).toNat = k by omega]
    by_cases p : 0 ≤ (crF m k).2
    · rw [if_neg (neN (by omega) (by omega) (by omega) (by omega) (by omega)), if_pos p]
    · rw [if_pos (by rw [show (crF m k).2 = -1 by omega]), g_fails s, bnd_ret, if_neg p]
  | succ d ih =>
    intro k h n hk hn s r A
    obtain ⟨n, rfl⟩ : ∃ z, n = z + 1 := ⟨n - 1, by omega⟩
    have cb := crF_bd w h0 k (by omega)
    have wr := WF_rm w (i := (k : Int)) (by omega)
    have lb := lh_bd wr (L := 1000000) (x := m 1) h1b.2
    have e1 : rmN m k 1 = m 1 := rmN_hd (by omega) (by omega) (by omega)
    obtain ⟨h2, e2, f2, r2⟩ := g_removes w r (i := (k : Int)) (by omega)
    have s2 := s.ly f2.1
    obtain ⟨h3, e3, f3, t3, a3⟩ := g_isBest wr r2
    have s3 := s2.ly f3.1
    rw [e1] at e3 a3
    obtain ⟨h4, e4, f4, r4⟩ := g_goesBack (m := m) (p := rmN m k) (h := h3) ((A.fz f2 (fun j => by omega)).fz f3 (fun j z => by unfold pX at z; omega)) (r2.x f3)
    have s4 := s3.ly f4.1
    have A4 : AR h4 635 506 m := ((A.fz f2 (fun j => by omega)).fz f3 (fun j z => by unfold pX at z; omega)).fz f4 (fun j => by omega)
    obtain ⟨h6, e6, f6, a6⟩ := ih (k + 1) h4 n (by omega) (by omega) s4 r4 A4
    refine ⟨h6, ?_, (((f2.mo (fun x j z => Or.inl z)).tr f3.xz).tr (f4.mo (fun x j z => Or.inl z))).tr f6, a6⟩
    rw [crF, show ((k + 1 : Nat) : Int) = (k : Int) + 1 by omega] at e6
    show f_X9_critical_B31 (f_X9_critical_L31 n) h 632 (iN (crF m k).1) (iN (crF m k).2) (iN k) = _
    unfold f_X9_critical_B31 f_X9_critical_L65 f_X9_critical_L66 f_X9_critical_L78 f_X9_critical_L92
    rw [chk_pos r.1.1, r.1.r3, chk_pos r.1.o3, r.1.w3, ck_in (by omega) (by omega) (by omega), iN_cl (by omega) (by omega), show qI h (632 + 3) (5 : Int).toNat = iN (m 5) from A 5 (by omega) (by omega), if_neg (nleN (by omega) (by omega) (by omega)), e2, bnd_ret, chk_pos r2.1.1, e3, bnd_ret, chk_pos s3.m.1, chk_pos s3.m.1, e4, bnd_ret, iN_add]
    by_cases p : 0 ≤ lhF (rmN m k) 1000000 (m 1)
    · have a3 := a3 p
      rw [if_neg (fun z => bN0.mp z p), a3.1]
      by_cases q : lhF (rmN m k) 1000000 (m 1) < (crF m k).1
      · rw [if_pos ⟨p, q⟩] at e6
        rw [if_neg (nleN (by omega) (by omega) (by omega)), if_neg (by decide), if_neg (by decide), chk_pos s3.m.1, chk_pos s3.m.1, chk_pos s3.m.1, bnd_ret]
        exact e6
      · rw [if_neg (fun z => q z.2)] at e6
        rw [if_pos (yleN (by omega) (by omega) (by omega)), if_pos (by decide), if_pos (by decide), chk_pos s3.m.1]
        exact e6
    · rw [if_neg (fun z => p z.1)] at e6
      rw [if_pos (bN0.mpr p), if_pos (by decide), if_pos (by decide)]
      exact e6
theorem o_critical {h : Hp} {D : Dt} (wd : WD D) (s : SL h) (c : CI h D) : OpP h D (f_L_critical h 1 656) (fun h1 => f_X9_critical h1 632) := by
  have w := wd.1
  have t := c.1.1
  have h1b := w.1.2.1
  have h16 := w.1.2.2.2.2.2
  have lb := lh_bd w (L := 1000000) (x := D.1 1) h1b.2
  obtain ⟨h2, e2, st⟩ := g_leastS wd s c (x := D.1 1) (by omega)
  by_cases p : 0 ≤ lhF D.1 1000000 (D.1 1)
  · obtain ⟨h3, e3, st3⟩ := g_crL wd p (D.1 5).toNat 0 h2 2000 (by omega) (by omega) st.1 st.2.1
    have e3' : f_X8_critical_L31 2000 h2 1 (iN (lhF D.1 1000000 (D.1 1))) (iN (-1)) (iN 0) = _ := e3
    have cls : f_X8_critical h 1 = (if 0 ≤ (crF D.1 (D.1 5).toNat).2 then some (h3, .inr (iN (crF D.1 (D.1 5).toNat).2)) else some (bump h3, .inl 5)) := by
      unfold f_X8_critical f_X8_critical_L24
      rw [chk_pos s.o1, s.t2, chk_pos s.u.o, s.t0, chk_pos t.1.o, t.wd, e2, bnd_ret, if_neg (fun z => by have := (iN_lt0 (by omega) (by omega)).mp z; omega), g_rqS1, bnd_ret, e3']
    have ref : ∀ h1, SL h1 → RM (putI h1 632 0 (iN 0)) 632 D.1 → SL (putI h1 632 0 (iN 0)) → ∃ h2, f_X9_critical h1 632 = (if 0 ≤ (crF D.1 (D.1 5).toNat).2 then some (h2, .inr (iN (crF D.1 (D.1 5).toNat).2)) else some (putI h2 632 0 (iN 2), .inr (iN 0))) ∧ FZ pZ (putI h1 632 0 (iN 0)) h2 ∧ AR h2 633 506 D.1 := by
      intro h1 s1 rm s0
      obtain ⟨h4, e4, f4, t4, a4⟩ := g_isBest w rm
      have s4 := s0.ly f4.1
      obtain ⟨h5, e5, f5, a5⟩ := g_keeps (rm.x f4)
      have s5 := s4.ly f5.1
      obtain ⟨h6, e6, f6, a6⟩ := g_crL9 w p (D.1 5).toNat 0 h5 2000 (by omega) (by omega) s5 ((rm.x f4).fz f5 (fun j => by omega)) a5
      have e6' : f_X9_critical_L31 2000 h5 632 (iN (lhF D.1 1000000 (D.1 1))) (iN (-1)) (iN 0) = _ := e6
      refine ⟨h6, ?_, (f4.xz.tr (f5.mo (fun x j z => Or.inr (Or.inl z)))).tr f6, a6⟩
      unfold f_X9_critical
      rw [chk_pos s1.m.1, lt_is, e4, bnd_ret, if_neg (fun z => bN0.mp z p), chk_pos s4.m.1, e5, bnd_ret, (a4 p).1, e6']
    by_cases q : 0 ≤ (crF D.1 (D.1 5).toNat).2
    · rw [if_pos q] at cls
      refine OpP.A2 (crF D.1 (D.1 5).toNat).2 wd (st.tr st3) ?_ (fun h1 s1 r1 s0 rm => ?_)
      · unfold f_L_critical
        rw [chk_pos s.o1, cls, bndX_ret]
      · obtain ⟨h8, e8, f8, a8⟩ := ref h1 s1 rm s0
        exact ⟨h8, by rw [e8, if_pos q], f8, a8⟩
    · rw [if_neg q] at cls
      refine OpP.F2 2 (by omega) wd (st.tr st3) ?_ (fun h1 s1 r1 s0 rm => ?_)
      · unfold f_L_critical
        rw [chk_pos s.o1, cls, bndX_thr, if_neg (by decide), if_pos rfl]
      · obtain ⟨h8, e8, f8, a8⟩ := ref h1 s1 rm s0
        exact ⟨h8, by rw [e8, if_neg q], f8, a8⟩
  · refine OpP.F 1 (by omega) wd st ?_ (fun h1 s1 r1 s0 rm => ?_)
    · unfold f_L_critical f_X8_critical f_X8_critical_L24
      rw [chk_pos s.o1, chk_pos s.o1, s.t2, chk_pos s.u.o, s.t0, chk_pos t.1.o, t.wd, e2, bnd_ret, if_pos ((iN_lt0 (by omega) (by omega)).mpr (by omega)), g_rqS0, bnd_thr, bndX_thr, if_pos rfl]
    · obtain ⟨h4, e4, f4, t4, a4⟩ := g_isBest w rm
      refine ⟨h4, ?_, f4⟩
      unfold f_X9_critical
      rw [chk_pos s1.m.1, lt_is, e4, bnd_ret, if_pos (bN0.mpr p), chk_pos (s0.ly f4.1).m.1, g_fails (s0.ly f4.1), bnd_ret]
