/-! ===== STAGE B: the class measures its columns ===== -/
theorem AR.any (h : Hp) (a : Nat) (n : Int) : ∃ V, AR h a n V := ⟨fun c => (qI h a c.toNat).toInt, fun _ _ _ => (iN_of _).symm⟩
theorem FZ.c2 {C a b : Nat} {h h2 : Hp} (f : FZ (fun x _ => x = a ∨ x = b) h h2) (h1 : C ≤ a ∧ a ≤ C + 11) (h3 : C ≤ b ∧ b ≤ C + 11) : FZ (pC C) h h2 := f.mo (fun x j z => by unfold pC; omega)
theorem g_ms130 {C T : Nat} {m lo hi : Int → Int} (w : WF m) (hb : ∀ c, 0 ≤ c → c < m 0 → (0 ≤ lo c ∧ lo c ≤ 1000000) ∧ 0 ≤ hi c ∧ hi c ≤ 1000000) : ∀ (d k : Nat) (h : Hp) (n : Nat), (k : Int) + d = m 0 → d < n → LK h C T → TM h T m → AR h (C + 1) (m 0) lo → AR h (C + 2) (m 0) (fun c => if c < k ∧ tyS (m (6 + c)) = 1 then vaS (m (6 + c)) else hi c) →
    ∃ h2, f_X3_measureSingleCells_L130 n h C (iN k) = some (h2, .inr ()) ∧ FZ (pA (C + 2)) h h2 ∧ AR h2 (C + 2) (m 0) (fun c => max (if tyS (m (6 + c)) = 1 then vaS (m (6 + c)) else hi c) (lo c)) := by
  have hm := w.1.2.2.2.2.2
  have h0 := w.1.1
  intro d
  induction d with
  | zero =>
    intro k h n hk hn l t A1 A2
    obtain ⟨n, rfl⟩ : ∃ z, n = z + 1 := ⟨n - 1, by omega⟩
    obtain ⟨h2, e2, f2, a2⟩ := g_raise ⟨h0, hm⟩ (lo := lo) (hi := fun c => if tyS (m (6 + c)) = 1 then vaS (m (6 + c)) else hi c) (fun c z1 z2 => by
      have := hb c z1 z2
      have := (w.2.1 c z1 (by omega)).ty
      split <;> omega) l t A1 (A2.cg (fun c z1 z2 => by
        by_cases h1 : tyS (m (6 + c)) = 1
        · rw [if_pos ⟨by omega, h1⟩, if_pos h1]
        · rw [if_neg (fun z => h1 z.2), if_neg h1]))
    refine ⟨h2, ?_, f2, a2⟩
    show f_X3_measureSingleCells_B130 (f_X3_measureSingleCells_L130 n) h C (iN k) = _
    unfold f_X3_measureSingleCells_B130
    rw [chk_pos l.o, l.r0, chk_pos t.1.o, t.cs, if_pos (yleN (by omega) (by omega) (by omega)), e2, bnd_ret]
  | succ d ih =>
    intro k h n hk hn l t A1 A2
    obtain ⟨n, rfl⟩ : ∃ z, n = z + 1 := ⟨n - 1, by omega⟩
    have ct := l.ct
    have ty := (w.2.1 k (by omega) (by omega)).ty
    show ∃ h2, f_X3_measureSingleCells_B130 (f_X3_measureSingleCells_L130 n) h C (iN k) = _ ∧ _
    unfold f_X3_measureSingleCells_B130 f_X3_measureSingleCells_L169
    rw [chk_pos l.o, l.r0, chk_pos t.1.o, t.cs, if_neg (nleN (by omega) (by omega) (by omega)), t.1.r6, chk_pos t.1.o1, t.1.w1, ck_in (by omega) (by omega) (by omega), iN_cl (by omega) (by omega), t.ty k (by omega) (by omega), iN_add]
    dsimp only
    by_cases h1 : tyS (m (6 + k)) = 1
    · have fa : FZ (pA (C + 2)) h (putI h (C + 2) (k : Int).toNat (iN (vaS (m (6 + k))))) := FZ.pa
      obtain ⟨h2, e2, f2, a2⟩ := ih (k + 1) _ n (by omega) (by omega) (l.ly fa.1) (t.c hm ct (fa.c (by omega) (by omega))) (A1.ne (by omega)) ((A2.put (k := k) (v := vaS (m (6 + k))) (by omega)).cg (fun c z1 z2 => by
        unfold up
        by_cases hc2 : c = k
        · rw [if_pos hc2, hc2, if_pos ⟨by omega, h1⟩]
        · rw [if_neg hc2]
          dsimp only
          by_cases hc : c < k ∧ tyS (m (6 + c)) = 1
          · rw [if_pos hc, if_pos ⟨by omega, hc.2⟩]
          · rw [if_neg hc, if_neg (fun z => hc ⟨by omega, z.2⟩)]))
      refine ⟨h2, ?_, fa.tr f2, a2⟩
      rw [if_pos (by rw [h1]), l.r2, chk_pos l.o2, t.1.r7, chk_pos t.1.o2, t.1.w2, ck_in (by omega) (by omega) (by omega), l.w2, ck_in (by omega) (by omega) (by omega), t.va k (by omega) (by omega), lt_is]
      exact e2
    · obtain ⟨h2, e2, f2, a2⟩ := ih (k + 1) h n (by omega) (by omega) l t A1 (A2.cg (fun c z1 z2 => by
        by_cases hc : c < k ∧ tyS (m (6 + c)) = 1
        · rw [if_pos hc, if_pos ⟨by omega, hc.2⟩]
        · rw [if_neg hc, if_neg (fun z => by
            by_cases hc2 : c = k
            · rw [hc2] at z; exact h1 z.2
            · exact hc ⟨by omega, z.2⟩)]))
      refine ⟨h2, ?_, f2, a2⟩
      rw [if_neg (neN h1 (by omega) (by omega) (by omega) (by omega))]
      exact e2
theorem g_ms35 {C T : Nat} {m : Int → Int} (w : WF m) : ∀ (d k : Nat) (h : Hp) (n : Nat), (k : Int) + d = m 5 → d < n → LK h C T → TM h T m → AR h (C + 1) (m 0) (fun c => msL m c k) → AR h (C + 2) (m 0) (fun c => msH m 1 c k) →
    ∃ h2, f_X3_measureSingleCells_L35 n h C (iN k) = some (h2, .inr ()) ∧ FZ (fun x _ => x = C + 1 ∨ x = C + 2) h h2 ∧ AR h2 (C + 1) (m 0) (mIni m).1 ∧ AR h2 (C + 2) (m 0) (mIni m).2 := by
  have hm := w.1.2.2.2.2.2
  have h0 := w.1.1
  intro d
  induction d with
  | zero =>
    intro k h n hk hn l t A1 A2
    obtain ⟨n, rfl⟩ : ∃ z, n = z + 1 := ⟨n - 1, by omega⟩
    have ek : (m 5).toNat = k := by omega
    obtain ⟨h2, e2, f2, a2⟩ := g_ms130 w (lo := fun c => msL m c k) (hi := fun c => msH m 1 c k) (fun c z1 z2 => by
      have := msL_bd w (c := c) k (by omega)
      have := msH_bd w (s := 1) (c := c) (by omega) k (by omega)
      omega) (m 0).toNat 0 h 2000 (by omega) (by omega) l t A1 (A2.cg (fun c z1 z2 => by rw [if_neg (fun z => by omega)]))
    refine ⟨h2, ?_, f2.mo (fun x j z => Or.inr z), ?_, ?_⟩
    · show f_X3_measureSingleCells_B35 (f_X3_measureSingleCells_L35 n) h C (iN k) = _
      unfold f_X3_measureSingleCells_B35
      rw [chk_pos l.o, l.r0, chk_pos t.1.o, t.ns, if_pos (yleN (by omega) (by omega) (by omega))]
      exact e2
    · refine (A1.fz f2 (fun j z => by unfold pA at z; omega)).cg (fun c z1 z2 => ?_)
      unfold mIni
      dsimp only
      rw [ek]
    · refine a2.cg (fun c z1 z2 => ?_)
      unfold mIni
      dsimp only
      rw [ek, msH_1]
      have := msL_bd w (c := c) k (by omega)
      split <;> omega
  | succ d ih =>
    intro k h n hk hn l t A1 A2
    obtain ⟨n, rfl⟩ : ∃ z, n = z + 1 := ⟨n - 1, by omega⟩
    have ct := l.ct
    have hki : 0 ≤ (k : Int) ∧ (k : Int) < m 5 := by omega
    have cc := t.cc hki.1 hki.2
    have co := (w.2.2.1 k hki.1 hki.2).1
    have mb := mC_bd w hki
    unfold CO at co
    show ∃ h2, f_X3_measureSingleCells_B35 (f_X3_measureSingleCells_L35 n) h C (iN k) = _ ∧ _
    unfold f_X3_measureSingleCells_B35 f_X3_measureSingleCells_L122
    rw [chk_pos l.o, l.r0, chk_pos t.1.o, t.ns, if_neg (nleN (by omega) (by omega) (by omega)), t.1.r8, chk_pos t.1.o3, t.1.w3, ck_in (by omega) (by omega) (by omega), cA_eq (by omega) (by omega), chk_pos (t.1.co (by omega)), cc.1.2.2, cc.1.2.1, iN_add]
    by_cases h1 : blk m k 2 = 1
    · have lb := msL_bd w (c := blk m k 1) k (by omega)
      have hb := msH_bd w (s := 1) (c := blk m k 1) (by omega) k (by omega)
      generalize hh4 : putI h (C + 1) (blk m k 1).toNat (iN (max (msL m (blk m k 1) k) (mnC m k))) = h4
      have fa : FZ (pA (C + 1)) h h4 := by rw [← hh4]; exact FZ.pa
      have l4 := l.ly fa.1
      have t4 := t.c hm ct (fa.c (by omega) (by omega))
      have A14 : AR h4 (C + 1) (m 0) (fun c => msL m c (k + 1)) := by
        rw [← hh4]
        refine (A1.put (k := blk m k 1) (v := max (msL m (blk m k 1) k) (mnC m k)) (by omega)).cg (fun c z1 z2 => ?_)
        unfold up
        rw [msL]
        by_cases hc : c = blk m k 1
        · rw [if_pos hc, if_pos ⟨h1, hc.symm⟩, hc]
        · rw [if_neg hc, if_neg (fun z => hc z.2.symm)]
      have A24 : AR h4 (C + 2) (m 0) (fun c => msH m 1 c k) := A2.fz fa (fun j z => by unfold pA at z; omega)
      have rd1 : qI h (C + 1) (blk m k 1).toNat = iN (msL m (blk m k 1) k) := A1 (blk m k 1) (by omega) (by omega)
      have rd2 : qI h4 (C + 2) (blk m k 1).toNat = iN (msH m 1 (blk m k 1) k) := A24 (blk m k 1) (by omega) (by omega)
      have ec : cA h4 T k = cA h T k := cA_ly fa.1
      have cc4 := t4.cc hki.1 hki.2
      rw [ec] at cc4
      have mx4 := g_maximumOf t4 w hki
      rw [ec] at mx4
      have co4 := t4.1.co (i := k) (by omega)
      rw [ec] at co4
      have fb : FZ (pA (C + 2)) h4 (putI h4 (C + 2) (blk m k 1).toNat (iN (max (msH m 1 (blk m k 1) k) (mxC m k)))) := FZ.pa
      obtain ⟨h2, e2, f2, a2, b2⟩ := ih (k + 1) _ n (by omega) (by omega) (l4.ly fb.1) (t4.c hm ct (fb.c (by omega) (by omega))) (A14.ne (by omega)) ((A24.put (k := blk m k 1) (v := max (msH m 1 (blk m k 1) k) (mxC m k)) (by omega)).cg (fun c z1 z2 => by
        unfold up
        rw [msH]
        by_cases hc : c = blk m k 1
        · rw [if_pos hc, if_pos ⟨h1, hc.symm⟩, hc]
        · rw [if_neg hc, if_neg (fun z => hc z.2.symm)]))
      refine ⟨h2, ?_, ((fa.mo (fun x j z => Or.inl z)).tr (fb.mo (fun x j z => Or.inr z))).tr f2, a2, b2⟩
      rw [if_pos (by rw [h1]), l.r1, chk_pos l.o1, l.w1, ck_in (by omega) (by omega) (by omega), g_minimumOf t w hki, bnd_ret, chk_pos l.o1, l.w1, ck_in (by omega) (by omega) (by omega), iN_cl (by omega) (by omega), rd1, g_jmax ⟨by omega, by omega⟩ ⟨by omega, by omega⟩, lt_is, hh4]
      rw [chk_pos l4.o, l4.r2, chk_pos l4.o2, chk_pos co4, cc4.1.2.1, l4.w2, ck_in (by omega) (by omega) (by omega), l4.r0, chk_pos t4.1.o, mx4, bnd_ret, chk_pos l4.o2, l4.w2, ck_in (by omega) (by omega) (by omega), iN_cl (by omega) (by omega), rd2, g_jmax ⟨by omega, by omega⟩ ⟨by omega, by omega⟩, lt_is]
      exact e2
    · obtain ⟨h2, e2, f2, a2, b2⟩ := ih (k + 1) h n (by omega) (by omega) l t (A1.cg (fun c z1 z2 => by rw [msL, if_neg (fun z => h1 z.1)])) (A2.cg (fun c z1 z2 => by rw [msH, if_neg (fun z => h1 z.1)]))
      refine ⟨h2, ?_, f2, a2, b2⟩
      rw [if_neg (neN h1 (by omega) (by omega) (by omega) (by omega))]
      exact e2
theorem g_ms2 {C T : Nat} {m : Int → Int} (w : WF m) : ∀ (d k : Nat) (h : Hp) (n : Nat) (V U : Int → Int), (k : Int) + d = m 0 → d < n → LK h C T → TM h T m → AR h (C + 1) (m 0) (fun c => if c < k then 1 else V c) → AR h (C + 2) (m 0) (fun c => if c < k then 1 else U c) →
    ∃ h2, f_X3_measureSingleCells_L2 n h C (iN k) = some (h2, .inr ()) ∧ FZ (fun x _ => x = C + 1 ∨ x = C + 2) h h2 ∧ AR h2 (C + 1) (m 0) (mIni m).1 ∧ AR h2 (C + 2) (m 0) (mIni m).2 := by
  have hm := w.1.2.2.2.2.2
  have h0 := w.1.1
  intro d
  induction d with
  | zero =>
    intro k h n V U hk hn l t A1 A2
    obtain ⟨n, rfl⟩ : ∃ z, n = z + 1 := ⟨n - 1, by omega⟩
    obtain ⟨h2, e2, f2, a2, b2⟩ := g_ms35 w (m 5).toNat 0 h 2000 (by omega) (by omega) l t (A1.cg (fun c z1 z2 => by rw [if_pos (by omega), msL])) (A2.cg (fun c z1 z2 => by rw [if_pos (by omega), msH]))
    refine ⟨h2, ?_, f2, a2, b2⟩
    show f_X3_measureSingleCells_B2 (f_X3_measureSingleCells_L2 n) h C (iN k) = _
    unfold f_X3_measureSingleCells_B2
    rw [chk_pos l.o, l.r0, chk_pos t.1.o, t.cs, if_pos (yleN (by omega) (by omega) (by omega))]
    exact e2
  | succ d ih =>
    intro k h n V U hk hn l t A1 A2
    obtain ⟨n, rfl⟩ : ∃ z, n = z + 1 := ⟨n - 1, by omega⟩
    have ct := l.ct
    generalize hh4 : putI h (C + 1) (k : Int).toNat (iN 1) = h4
    have fa : FZ (pA (C + 1)) h h4 := by rw [← hh4]; exact FZ.pa
    have l4 := l.ly fa.1
    have t4 := t.c hm ct (fa.c (by omega) (by omega))
    have st : ∀ (F : Int → Int) (c : Int), up (fun c => if c < k then 1 else F c) k 1 c = if c < ((k + 1 : Nat) : Int) then 1 else F c := fun F c => by
      unfold up
      by_cases hc2 : c = k
      · rw [if_pos hc2, if_pos (by omega)]
      · rw [if_neg hc2]
        dsimp only
        by_cases hc : c < k
        · rw [if_pos hc, if_pos (by omega)]
        · rw [if_neg hc, if_neg (by omega)]
    have A14 : AR h4 (C + 1) (m 0) (fun c => if c < ((k + 1 : Nat) : Int) then 1 else V c) := by
      rw [← hh4]
      exact (A1.put (k := k) (v := 1) (by omega)).cg (fun c z1 z2 => st V c)
    have A24 : AR h4 (C + 2) (m 0) (fun c => if c < k then 1 else U c) := A2.fz fa (fun j z => by unfold pA at z; omega)
    have fb : FZ (pA (C + 2)) h4 (putI h4 (C + 2) (k : Int).toNat (iN 1)) := FZ.pa
    obtain ⟨h2, e2, f2, a2, b2⟩ := ih (k + 1) _ n V U (by omega) (by omega) (l4.ly fb.1) (t4.c hm ct (fb.c (by omega) (by omega))) (A14.ne (by omega)) ((A24.put (k := k) (v := 1) (by omega)).cg (fun c z1 z2 => st U c))
    refine ⟨h2, ?_, ((fa.mo (fun x j z => Or.inl z)).tr (fb.mo (fun x j z => Or.inr z))).tr f2, a2, b2⟩
    show f_X3_measureSingleCells_B2 (f_X3_measureSingleCells_L2 n) h C (iN k) = _
    unfold f_X3_measureSingleCells_B2
    rw [chk_pos l.o, l.r0, chk_pos t.1.o, t.cs, if_neg (nleN (by omega) (by omega) (by omega)), l.r1, chk_pos l.o1, l.w1, ck_in (by omega) (by omega) (by omega), iN_cl (by omega) (by omega), lt_is, hh4, l4.r2, chk_pos l4.o2, l4.w2, ck_in (by omega) (by omega) (by omega), lt_is, iN_add]
    exact e2
theorem g_measureSingle {h : Hp} {C T : Nat} {m : Int → Int} (w : WF m) (l : LK h C T) (t : TM h T m) : ∃ h2, f_X3_measureSingleCells h C = some (h2, .inr ()) ∧ FZ (fun x _ => x = C + 1 ∨ x = C + 2) h h2 ∧ AR h2 (C + 1) (m 0) (mIni m).1 ∧ AR h2 (C + 2) (m 0) (mIni m).2 := by
  have h0 := w.1.1
  obtain ⟨V, A1⟩ := AR.any h (C + 1) (m 0)
  obtain ⟨U, A2⟩ := AR.any h (C + 2) (m 0)
  exact g_ms2 w (m 0).toNat 0 h 2000 V U (by omega) (by omega) l t (A1.cg (fun c z1 z2 => by rw [if_neg (by omega)])) (A2.cg (fun c z1 z2 => by rw [if_neg (by omega)]))
theorem g_mspan {C T : Nat} {m : Int → Int} (w : WF m) {s B : Int} (hs : 2 ≤ s ∧ s ≤ 4) {p : P2} (jb : JB m B p) (hB : B ≤ 150000) : ∀ (d k : Nat) (h : Hp) (n : Nat), (k : Int) + d = m 5 → d < n → LK h C T → TM h T m → AR h (C + 1) (m 0) (mF m s p k).1 → AR h (C + 2) (m 0) (mF m s p k).2 →
    ∃ h2, f_X3_measureCellsOfSpan_L2 n h C (iN s) (iN k) = some (h2, .inr ()) ∧ FZ (pC C) h h2 ∧ AR h2 (C + 1) (m 0) (mF m s p (m 5).toNat).1 ∧ AR h2 (C + 2) (m 0) (mF m s p (m 5).toNat).2 := by
  have hm := w.1.2.2.2.2.2
  have h0 := w.1.1
  intro d
  induction d with
  | zero =>
    intro k h n hk hn l t A1 A2
    obtain ⟨n, rfl⟩ : ∃ z, n = z + 1 := ⟨n - 1, by omega⟩
    have ek : (m 5).toNat = k := by omega
    refine ⟨h, ?_, FZ.rf, by rw [ek]; exact A1, by rw [ek]; exact A2⟩
    show f_X3_measureCellsOfSpan_B2 (f_X3_measureCellsOfSpan_L2 n) h C (iN s) (iN k) = _
    unfold f_X3_measureCellsOfSpan_B2
    rw [chk_pos l.o, l.r0, chk_pos t.1.o, t.ns, if_pos (yleN (by omega) (by omega) (by omega))]
  | succ d ih =>
    intro k h n hk hn l t A1 A2
    obtain ⟨n, rfl⟩ : ∃ z, n = z + 1 := ⟨n - 1, by omega⟩
    have ct := l.ct
    have hki : 0 ≤ (k : Int) ∧ (k : Int) < m 5 := by omega
    have cc := t.cc hki.1 hki.2
    have co := (w.2.2.1 k hki.1 hki.2).1
    have mb := mC_bd w hki
    unfold CO at co
    show ∃ h2, f_X3_measureCellsOfSpan_B2 (f_X3_measureCellsOfSpan_L2 n) h C (iN s) (iN k) = _ ∧ _
    unfold f_X3_measureCellsOfSpan_B2 f_X3_measureCellsOfSpan_L69
    rw [chk_pos l.o, l.r0, chk_pos t.1.o, t.ns, if_neg (nleN (by omega) (by omega) (by omega)), t.1.r8, chk_pos t.1.o3, t.1.w3, ck_in (by omega) (by omega) (by omega), cA_eq (by omega) (by omega), chk_pos (t.1.co (by omega)), cc.1.2.2, iN_add]
    by_cases h1 : blk m k 2 = s
    · have jk := mF_bd w (s := s) jb hB k (by omega)
      have hBk : B + 2100 * (k : Int) ≤ 190000 := by omega
      have eF : mF m s p (k + 1) = stp m k (mF m s p k) := by rw [mF, if_pos h1]
      generalize mF m s p k = q at jk A1 A2 eF
      have b1 := stLo_bd w hki jk hBk
      have b2 := stMi_bd w hki jk hBk
      obtain ⟨V, A11⟩ := AR.any h (C + 11) (m 0)
      have wc1 := wC_nn w hki (W := q.1) (fun c z1 z2 => by have := jk c z1 z2; omega)
      have wc2 := wC_le w (B := 190000) hki (W := q.1) (fun c z1 z2 => by have := jk c z1 z2; omega) (by omega)
      obtain ⟨h3, V3, e3, f3, a3, v3⟩ := g_widen w (wanted := mnC m k) hki l t A2 A11 (Or.inl rfl) A1 l.o1 l.w1 (by omega) (fun c z1 z2 => by have := jk c z1 z2; omega) (SW_lo w hki jk hBk) (by omega)
      have a3' : AR h3 (C + 1) (m 0) (stLo m k q.1 q.2) := a3
      have l3 := l.ly f3.1
      have t3 := t.c hm ct (f3.c2 (by omega) (by omega))
      have A23 : AR h3 (C + 2) (m 0) q.2 := A2.fz f3 (fun j z => by omega)
      obtain ⟨h5, e5, f5, a5⟩ := g_raise ⟨h0, hm⟩ (fun c z1 z2 => by have := b1 c z1 z2; have := jk c z1 z2; omega) l3 t3 a3' A23
      have a5' : AR h5 (C + 2) (m 0) (stMi m k q.1 q.2) := a5
      have l5 := l3.ly f5.1
      have t5 := t3.c hm ct (f5.c (by omega) (by omega))
      have v5 : AR h5 (C + 11) (m 0) V3 := v3.fz f5 (fun j z => by unfold pA at z; omega)
      have a15 : AR h5 (C + 1) (m 0) (stLo m k q.1 q.2) := a3'.fz f5 (fun j z => by unfold pA at z; omega)
      have wd1 := wC_nn w hki (W := stMi m k q.1 q.2) (fun c z1 z2 => by have := b2 c z1 z2; omega)
      have wd2 := wC_le w (B := 190164) hki (W := stMi m k q.1 q.2) (fun c z1 z2 => by have := b2 c z1 z2; omega) (by omega)
      obtain ⟨h6, V6, e6, f6, a6, v6⟩ := g_widen w (wanted := mxC m k) hki l5 t5 a5' v5 (Or.inr rfl) a5' l5.o2 l5.w2 (by omega) (fun c z1 z2 => by have := b2 c z1 z2; omega) (SW_hi w hki jk hBk) (by omega)
      have a6' : AR h6 (C + 2) (m 0) (stHi m k q.1 q.2) := a6
      have fz : FZ (pC C) h h6 := ((f3.c2 (by omega) (by omega)).tr (f5.c (by omega) (by omega))).tr (f6.c2 (by omega) (by omega))
      have a16 : AR h6 (C + 1) (m 0) (stLo m k q.1 q.2) := a15.fz f6 (fun j z => by omega)
      obtain ⟨h2, e2, f2, a2, b2⟩ := ih (k + 1) h6 n (by omega) (by omega) (l.ly fz.1) (t.c hm ct fz) (by rw [eF]; exact a16) (by rw [eF]; exact a6')
      refine ⟨h2, ?_, fz.tr f2, a2, b2⟩
      have ec3 : cA h3 T k = cA h T k := cA_ly f3.1
      have ec5 : cA h5 T k = cA h T k := (cA_ly f5.1).trans ec3
      have mx5 := g_maximumOf t5 w hki
      rw [ec5] at mx5 e6
      rw [if_pos (by rw [h1]), g_minimumOf t w hki, bnd_ret, chk_pos l.o, l.r1, chk_pos l.o1, e3, bnd_ret, chk_pos l3.o, e5, bnd_ret, chk_pos l5.o, l5.r0, chk_pos t5.1.o, mx5, bnd_ret, chk_pos l5.o, l5.r2, chk_pos l5.o2, e6, bnd_ret]
      exact e2
    · obtain ⟨h2, e2, f2, a2, b2⟩ := ih (k + 1) h n (by omega) (by omega) l t (by rw [mF, if_neg h1]; exact A1) (by rw [mF, if_neg h1]; exact A2)
      refine ⟨h2, ?_, f2, a2, b2⟩
      rw [if_neg (neN h1 (by omega) (by omega) (by omega) (by omega))]
      exact e2
