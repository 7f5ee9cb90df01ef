/-! ===== STAGE B: the reference's first measures; guesses ===== -/
theorem up_up {f : Int → Int} {k a b : Int} (c : Int) : up (up f k a) k b c = up f k b c := by
  unfold up
  by_cases h : c = k
  · rw [if_pos h, if_pos h]
  · rw [if_neg h, if_neg h, if_neg h]
theorem g_mc28 {M : Nat} {m L H : Int → Int} (w : WF m) {K : Hp → Nat → Int32 → Option (Rs Unit)} {c : Int} (hc : 0 ≤ c ∧ c < m 0) : ∀ (d k : Nat) (h : Hp) (n : Nat), (k : Int) + d = m 5 → d < n → RM h M m → AR h (M + 12) (m 0) (up L c (msL m c k)) → AR h (M + 13) (m 0) (up H c (msH m 0 c k)) →
    ∃ h2, f_X9_measuresColumns_L28 K n h M (iN c) (iN k) = K h2 M (iN (c + 1)) ∧ FZ (pV M) h h2 ∧ AR h2 (M + 12) (m 0) (up L c ((mIni m).1 c)) ∧ AR h2 (M + 13) (m 0) (up H c ((mIni m).2 c)) := by
  have hm := w.1.2.2.2.2.2
  have h0 := w.1.1
  have sp := (w.2.1 c hc.1 (by omega))
  have ty := sp.ty
  have sb := sp.bd
  have cc : (iN c).toNatClampNeg = c.toNat := iN_cl (by omega) (by omega)
  have i00 : iN 0 = 0 := rfl
  have i10 : ¬ iN 1 = 0 := by decide
  intro d
  induction d with
  | zero =>
    intro k h n hk hn r A1 A2
    obtain ⟨n, rfl⟩ : ∃ z, n = z + 1 := ⟨n - 1, by omega⟩
    have ek : (m 5).toNat = k := by omega
    have lb := msL_bd w (c := c) k (by omega)
    have hb := msH_bd w (s := 0) (c := c) (by omega) k (by omega)
    have r1 := A1 c hc.1 hc.2
    have r2 := A2 c hc.1 hc.2
    rw [up_eq] at r1 r2
    have e1 : (mIni m).1 c = msL m c k := by unfold mIni; rw [ek]
    have nx : ∀ v, v = (mIni m).2 c → ∃ h2, f_X9_measuresColumns_L188 K h M (iN c) (iN v) (iN c) (M + 13) = K h2 M (iN (c + 1)) ∧ FZ (pV M) h h2 ∧ AR h2 (M + 12) (m 0) (up L c ((mIni m).1 c)) ∧ AR h2 (M + 13) (m 0) (up H c ((mIni m).2 c)) := by
      intro v hv
      refine ⟨putI h (M + 13) c.toNat (iN v), ?_, FZ.pI (Or.inr (by omega)), ?_, ?_⟩
      · unfold f_X9_measuresColumns_L188
        rw [chk_pos r.1.o22, r.1.w22, ck_in (by omega) (by omega) (by omega), cc, lt_is, iN_add]
      · rw [e1]; exact A1.ne (by omega)
      · exact (A2.put (k := c) (v := v) hc.1).cg (fun x _ _ => by rw [up_up, hv])
    show ∃ h2, f_X9_measuresColumns_B28 K (f_X9_measuresColumns_L28 K n) h M (iN c) (iN k) = _ ∧ _
    unfold f_X9_measuresColumns_B28
    rw [chk_pos r.1.1, r.1.r1, chk_pos r.1.o1, r.1.w1, ck_in (by omega) (by omega) (by omega), g_rd r (by omega) (by omega), if_pos (yleN (by omega) (by omega) (by omega)), r.1.r22, chk_pos r.1.o22, g_isFixed9 r w (by omega), bnd_ret]
    by_cases hf : tyS (m (6 + c)) = 1
    · rw [if_neg (fun z => bN0.mp z hf), chk_pos r.1.1, r.1.r21, chk_pos r.1.o21, r.1.w21, ck_in (by omega) (by omega) (by omega), cc, r1, r.1.r1, chk_pos r.1.o1, iN_add, r.1.w1, ck_in (by omega) (by omega) (by omega), g_rd r (by omega) (by omega), iN_sub, g_greater ⟨by omega, by omega⟩ ⟨by omega, by omega⟩, bnd_ret]
      refine nx _ ?_
      unfold mIni
      dsimp only
      rw [if_pos hf, ek, Int.max_comm]
      omega
    · rw [if_pos (bN0.mpr hf), chk_pos r.1.1, r.1.r22, chk_pos r.1.o22, r.1.w22, ck_in (by omega) (by omega) (by omega), r.1.r21, chk_pos r.1.o21, r.1.w21, ck_in (by omega) (by omega) (by omega), cc, r1, r2, g_greater ⟨by omega, by omega⟩ ⟨by omega, by omega⟩, bnd_ret]
      refine nx _ ?_
      unfold mIni
      dsimp only
      rw [if_neg hf, ek]
  | succ d ih =>
    intro k h n hk hn r A1 A2
    obtain ⟨n, rfl⟩ : ∃ z, n = z + 1 := ⟨n - 1, by omega⟩
    have hki : 0 ≤ (k : Int) ∧ (k : Int) < m 5 := by omega
    have hk2 : 0 ≤ (k : Int) ∧ (k : Int) < 16 := by omega
    have co := (w.2.2.1 k hki.1 hki.2).1
    have wb := (w.2.2.1 k hki.1 hki.2).2
    have mb := mC_bd w hki
    unfold CO at co
    have lb := msL_bd w (c := c) k (by omega)
    have hb := msH_bd w (s := 0) (c := c) (by omega) k (by omega)
    have r1 := A1 c hc.1 hc.2
    have r2 := A2 c hc.1 hc.2
    rw [up_eq] at r1 r2
    show ∃ h2, f_X9_measuresColumns_B28 K (f_X9_measuresColumns_L28 K n) h M (iN c) (iN k) = _ ∧ _
    unfold f_X9_measuresColumns_B28 f_X9_measuresColumns_L62
    rw [chk_pos r.1.1, r.1.r1, chk_pos r.1.o1, r.1.w1, ck_in (by omega) (by omega) (by omega), g_rd r (by omega) (by omega), if_neg (nleN (by omega) (by omega) (by omega)), g_ofA r hk2 (by omega), bnd_ret]
    have fin : ∀ h4, RM h4 M m → FZ (pV M) h h4 → ∀ vL vH, vL = msL m c (k + 1) → vH = msH m 0 c (k + 1) → AR h4 (M + 12) (m 0) (up L c vL) → AR h4 (M + 13) (m 0) (up H c (msH m 0 c k)) → ∃ h2, f_X9_measuresColumns_L129 K (f_X9_measuresColumns_L28 K n) h4 M (iN c) (iN k) (iN vH) (iN c) (M + 13) = K h2 M (iN (c + 1)) ∧ FZ (pV M) h h2 ∧ AR h2 (M + 12) (m 0) (up L c ((mIni m).1 c)) ∧ AR h2 (M + 13) (m 0) (up H c ((mIni m).2 c)) := by
      intro h4 r4 f4 vL vH hL hH B1 B2
      have fa : FZ (pA (M + 13)) h4 (putI h4 (M + 13) c.toNat (iN vH)) := FZ.pa
      obtain ⟨h2, e2, f2, a2, b2⟩ := ih (k + 1) _ n (by omega) (by omega) (r4.a fa (by omega)) (by rw [← hL]; exact B1.ne (by omega)) ((B2.put (k := c) (v := vH) hc.1).cg (fun x _ _ => by rw [up_up, hH]))
      refine ⟨h2, ?_, (f4.tr (fa.v (by omega) (by omega))).tr f2, a2, b2⟩
      unfold f_X9_measuresColumns_L129
      rw [chk_pos r4.1.o22, r4.1.w22, ck_in (by omega) (by omega) (by omega), cc, lt_is, iN_add]
      exact e2
    have no : ¬ (blk m k 2 = 1 ∧ blk m k 1 = c) → ∃ h2, f_X9_measuresColumns_L63 K (f_X9_measuresColumns_L28 K n) h M (iN c) (iN k) (iN 0) = K h2 M (iN (c + 1)) ∧ FZ (pV M) h h2 ∧ AR h2 (M + 12) (m 0) (up L c ((mIni m).1 c)) ∧ AR h2 (M + 13) (m 0) (up H c ((mIni m).2 c)) := by
      intro hn0
      have fa : FZ (pA (M + 12)) h (putI h (M + 12) c.toNat (iN (msL m c k))) := FZ.pa
      have r3 := r.a fa (by omega)
      unfold f_X9_measuresColumns_L63 f_X9_measuresColumns_L96
      rw [chk_pos r.1.1, r.1.r21, chk_pos r.1.o21, if_pos i00, r.1.w21, ck_in (by omega) (by omega) (by omega), cc, r1, chk_pos r.1.o21, ck_in (by omega) (by omega) (by omega), lt_is, chk_pos r3.1.1, r3.1.r22, chk_pos r3.1.o22, if_pos i00, r3.1.w22, ck_in (by omega) (by omega) (by omega), rd_ne (by omega), r2]
      exact fin _ r3 (fa.v (by omega) (by omega)) (msL m c k) (msH m 0 c k) (by rw [msL, if_neg hn0]) (by rw [msH, if_neg hn0]) ((A1.put (k := c) (v := msL m c k) hc.1).cg (fun x _ _ => up_up x)) (A2.ne (by omega))
    by_cases hs1 : blk m k 2 = 1
    · rw [if_pos (by rw [hs1]), chk_pos r.1.1, g_ofA r hk2 (by omega), bnd_ret]
      by_cases hcc : blk m k 1 = c
      · rw [if_pos (by rw [hcc])]
        obtain ⟨h3, e3, f3⟩ := g_leastOf r hk2 wb
        have r3 := r.b f3
        have fa : FZ (pA (M + 12)) h3 (putI h3 (M + 12) c.toNat (iN (max (msL m c k) (mnC m k)))) := FZ.pa
        have r4 := r3.a fa (by omega)
        obtain ⟨h5, e5, f5⟩ := g_mostOf r4 hk2 wb
        have r5 := r4.b f5
        have f35 : FZ (pV M) h h5 := (f3.bv.tr (fa.v (by omega) (by omega))).tr f5.bv
        have r2' : qI (putI h3 (M + 12) c.toNat (iN (max (msL m c k) (mnC m k)))) (M + 13) c.toNat = iN (msH m 0 c k) := by
          rw [rd_ne (by omega), f3.2 _ _ (by unfold pB; omega)]; exact r2
        have A13 := A1.fz f3 (fun j z => by unfold pB at z; omega)
        have A23 := A2.fz f3 (fun j z => by unfold pB at z; omega)
        unfold f_X9_measuresColumns_L63 f_X9_measuresColumns_L96
        rw [chk_pos r.1.1, r.1.r21, chk_pos r.1.o21, if_neg i10, r.1.w21, ck_in (by omega) (by omega) (by omega), e3, bnd_ret, cc, r1, g_greater ⟨by omega, by omega⟩ ⟨by omega, by omega⟩, bnd_ret, chk_pos r3.1.o21, r3.1.w21, ck_in (by omega) (by omega) (by omega), lt_is, chk_pos r4.1.1, r4.1.r22, chk_pos r4.1.o22, if_neg i10, r4.1.w22, ck_in (by omega) (by omega) (by omega), e5, bnd_ret, r2', g_greater ⟨by omega, by omega⟩ ⟨by omega, by omega⟩, bnd_ret]
        refine fin h5 r5 f35 (max (msL m c k) (mnC m k)) (max (msH m 0 c k) (mxC m k)) (by rw [msL, if_pos ⟨hs1, hcc⟩]) (by rw [msH, if_pos ⟨hs1, hcc⟩]) ?_ ?_
        · exact ((A13.put (k := c) (v := max (msL m c k) (mnC m k)) hc.1).cg (fun x _ _ => up_up x)).fz f5 (fun j z => by unfold pB at z; omega)
        · exact (A23.ne (a := M + 12) (by omega)).fz f5 (fun j z => by unfold pB at z; omega)
      · rw [if_neg (neN hcc (by omega) (by omega) (by omega) (by omega))]
        exact no (fun z => hcc z.2)
    · rw [if_neg (neN hs1 (by omega) (by omega) (by omega) (by omega))]
      exact no (fun z => hs1 z.1)
theorem g_mc2 {M : Nat} {m V U : Int → Int} (w : WF m) : ∀ (d k : Nat) (h : Hp) (n : Nat), (k : Int) + d = m 0 → d < n → RM h M m → AR h (M + 12) (m 0) (fun c => if c < k then (mIni m).1 c else V c) → AR h (M + 13) (m 0) (fun c => if c < k then (mIni m).2 c else U c) →
    ∃ h2, f_X9_measuresColumns_L2 n h M (iN k) = some (h2, .inr ()) ∧ FZ (pV M) h h2 ∧ AR h2 (M + 12) (m 0) (msW m).1 ∧ AR h2 (M + 13) (m 0) (msW m).2 ∧ AR h2 (M + 14) (m 0) (pcF m) := by
  have hm := w.1.2.2.2.2.2
  have h0 := w.1.1
  intro d
  induction d with
  | zero =>
    intro k h n hk hn r A1 A2
    obtain ⟨n, rfl⟩ : ∃ z, n = z + 1 := ⟨n - 1, by omega⟩
    obtain ⟨h2, e2, f2, a2⟩ := g_mc197 w (m 0 - 1).toNat 0 h 2000 (by omega) (by omega) r (by rw [mG]; exact A1.cg (fun c z1 z2 => by rw [if_pos (by omega)])) (by rw [mG]; exact A2.cg (fun c z1 z2 => by rw [if_pos (by omega)]))
    refine ⟨h2, ?_, f2, a2⟩
    show f_X9_measuresColumns_B2 (f_X9_measuresColumns_L2 n) h M (iN k) = _
    unfold f_X9_measuresColumns_B2
    rw [chk_pos r.1.1, r.1.r1, chk_pos r.1.o1, r.1.w1, ck_in (by omega) (by omega) (by omega), g_rd r (by omega) (by omega), if_pos (yleN (by omega) (by omega) (by omega))]
    exact e2
  | succ d ih =>
    intro k h n hk hn r A1 A2
    obtain ⟨n, rfl⟩ : ∃ z, n = z + 1 := ⟨n - 1, by omega⟩
    have kc : (iN (k : Int)).toNatClampNeg = (k : Int).toNat := iN_cl (by omega) (by omega)
    have fa : FZ (pA (M + 12)) h (putI h (M + 12) (k : Int).toNat (iN 1)) := FZ.pa
    have r1 := r.a fa (by omega)
    have fb : FZ (pA (M + 13)) (putI h (M + 12) (k : Int).toNat (iN 1)) (putI (putI h (M + 12) (k : Int).toNat (iN 1)) (M + 13) (k : Int).toNat (iN 0)) := FZ.pa
    have r2 := r1.a fb (by omega)
    obtain ⟨h3, e3, f3, a3, b3⟩ := g_mc28 w (K := f_X9_measuresColumns_L2 n) (c := k) (by omega) (m 5).toNat 0 _ 2000 (by omega) (by omega) r2 (by rw [msL]; exact (A1.put (k := k) (v := 1) (by omega)).ne (by omega)) (by rw [msH]; exact (A2.ne (a := M + 12) (by omega)).put (k := k) (v := 0) (by omega))
    rw [show ((0 : Nat) : Int) = 0 from rfl] at e3
    have st : ∀ (X Y : Int → Int) (c : Int), up (fun c => if c < k then X c else Y c) k (X k) c = if c < ((k + 1 : Nat) : Int) then X c else Y c := fun X Y c => by
      unfold up
      by_cases hc2 : c = k
      · rw [if_pos hc2, if_pos (by omega), hc2]
      · rw [if_neg hc2]
        dsimp only
        by_cases hc : c < k
        · rw [if_pos hc, if_pos (by omega)]
        · rw [if_neg hc, if_neg (by omega)]
    have f03 : FZ (pV M) h h3 := ((fa.v (by omega) (by omega)).tr (fb.v (by omega) (by omega))).tr f3
    obtain ⟨h2, e2, f2, a2⟩ := ih (k + 1) h3 n (by omega) (by omega) (r.v f03) (a3.cg (fun c z1 z2 => st _ _ c)) (b3.cg (fun c z1 z2 => st _ _ c))
    refine ⟨h2, ?_, f03.tr f2, a2⟩
    show f_X9_measuresColumns_B2 (f_X9_measuresColumns_L2 n) h M (iN k) = _
    unfold f_X9_measuresColumns_B2
    rw [chk_pos r.1.1, r.1.r1, chk_pos r.1.o1, r.1.w1, ck_in (by omega) (by omega) (by omega), g_rd r (by omega) (by omega), if_neg (nleN (by omega) (by omega) (by omega)), r.1.r21, chk_pos r.1.o21, r.1.w21, ck_in (by omega) (by omega) (by omega), kc, lt_is, r1.1.r22, chk_pos r1.1.o22, r1.1.w22, ck_in (by omega) (by omega) (by omega), lt_is]
    exact e3.trans e2
theorem g_measures {h : Hp} {M : Nat} {m : Int → Int} (w : WF m) (r : RM h M m) : ∃ h2, f_X9_measuresColumns h M = some (h2, .inr ()) ∧ FZ (pV M) h h2 ∧ AR h2 (M + 12) (m 0) (msW m).1 ∧ AR h2 (M + 13) (m 0) (msW m).2 ∧ AR h2 (M + 14) (m 0) (pcF m) := by
  have h0 := w.1.1
  obtain ⟨V, A1⟩ := AR.any h (M + 12) (m 0)
  obtain ⟨U, A2⟩ := AR.any h (M + 13) (m 0)
  exact g_mc2 w (V := V) (U := U) (m 0).toNat 0 h 2000 (by omega) (by omega) r (A1.cg (fun c z1 z2 => by rw [if_neg (by omega)])) (A2.cg (fun c z1 z2 => by rw [if_neg (by omega)]))
