/-! ===== STAGE B: calls of both sides: cellAt, lineCount, lineLength, cellHeight, nextStep ===== -/
theorem o_cellAt {h : Hp} {D : Dt} (wd : WD D) (s : SL h) (c : CI h D) {x y : Int} (hx : InR x) (hy : InR y) : OpP h D (f_L_cellAt h 1 (iN x) (iN y) 656) (fun h1 => f_X9_cellAt h1 632 (iN x) (iN y)) := by
  have w := wd.1
  have t := c.1.1
  have h0 := w.1.1
  have h4 := w.1.2.2.2.2.1
  by_cases q : 0 ≤ x ∧ x ≤ D.1 4 - 1
  · by_cases p : 0 ≤ y ∧ y ≤ D.1 0 - 1
    · obtain ⟨z, e, hz⟩ := g_occupant w (r := x) (c := y) (by omega) (by omega) t
      refine OpP.a0 z wd s c ?_ (fun h1 s1 r1 s0 rm => ⟨_, ?_, FZ.rf⟩)
      · unfold f_L_cellAt f_X8_cellAt
        rw [chk_pos s.o1, chk_pos s.o1, g_rqRow w s t hx, if_pos q, bnd_ret, chk_pos s.o1, g_rqCol w s t hy, if_pos p, bnd_ret, chk_pos s.o1, s.t0, chk_pos t.1.o, e, bnd_ret, bndX_ret]
      · obtain ⟨z2, e2, hz2⟩ := g_atPlace rm w (r := x) (c := y) hx (by omega)
        have ez : z2 = z := by
          rcases hz with ⟨hz, hn⟩ | ⟨hz, hn⟩
          · rcases hz2 with ⟨hz2, hn2⟩ | ⟨hz2, hn2⟩
            · rw [hz, hz2]
            · exact absurd hn2 (hn z2 hz2.1 hz2.2)
          · rcases hz2 with ⟨hz2, hn2⟩ | ⟨hz2, hn2⟩
            · exact absurd hn (hn2 z hz.1 hz.2)
            · exact atP_uq w hz2 hz hn2 hn
        unfold f_X9_cellAt
        rw [chk_pos s1.m.1, lt_is, g_isRow rm w hx, bnd_ret, if_neg (fun z => bN0.mp z q), chk_pos s0.m.1, g_isColumn rm w hy, bnd_ret, if_neg (fun z => bN0.mp z p), chk_pos s0.m.1, e2, bnd_ret, ez]
    · refine OpP.f0 1 (by omega) wd s c ?_ (fun h1 s1 r1 s0 rm => ?_)
      · unfold f_L_cellAt f_X8_cellAt
        rw [chk_pos s.o1, chk_pos s.o1, g_rqRow w s t hx, if_pos q, bnd_ret, chk_pos s.o1, g_rqCol w s t hy, if_neg p, bnd_thr, bndX_thr, if_pos rfl]
      · unfold f_X9_cellAt f_X9_cellAt_L30
        rw [chk_pos s1.m.1, lt_is, g_isRow rm w hx, bnd_ret, if_neg (fun z => bN0.mp z q), chk_pos s0.m.1, g_isColumn rm w hy, bnd_ret, if_pos (bN0.mpr p), chk_pos s0.m.1, g_fails s0, bnd_ret]
  · refine OpP.f0 1 (by omega) wd s c ?_ (fun h1 s1 r1 s0 rm => ?_)
    · unfold f_L_cellAt f_X8_cellAt
      rw [chk_pos s.o1, chk_pos s.o1, g_rqRow w s t hx, if_neg q, bnd_thr, bndX_thr, if_pos rfl]
    · unfold f_X9_cellAt f_X9_cellAt_L30
      rw [chk_pos s1.m.1, lt_is, g_isRow rm w hx, bnd_ret, if_pos (bN0.mpr q), chk_pos s0.m.1, g_fails s0, bnd_ret]
theorem lnB_len {b : Int → Int} (w : WB b) (x : Int) : (lnB b x).length ≤ 12 := by
  have h1 := S_brk_len (x - indOf (b 3)) (psB b) [] 0 false
  have h2 := (psB_ok w).2.1
  simp only [List.length_nil] at h1
  unfold lnB
  omega
/-- the lines of a cell's text, on both sides -/
theorem c_lines {h : Hp} {m : Int → Int} (w : WF m) (s : SL h) (t : TM h 2 m) {i x : Int} (hi : 0 ≤ i ∧ i < m 5) (hx : -50000 ≤ x ∧ x ≤ 50000) : ∃ h2, f_X4_breakLines h (cA h 2 i + 1) (iN x) = some (h2, .inr (iN (lnB (blk m i) x).length)) ∧ FZ (pH 2) h h2 ∧ TM h2 2 m ∧ HL h2 (cA h 2 i + 1) (lnB (blk m i) x) := by
  have hm := w.1.2.2.2.2.2
  have wb := (w.2.2.1 i hi.1 hi.2).2
  obtain ⟨h2, e2, f2, c2, l2⟩ := g_brkC (t.1.cl (by omega)) (t.cc hi.1 hi.2).2 wb hx
  obtain ⟨t2, f3⟩ := t.hw hm hi f2 c2
  exact ⟨h2, e2, f3, t2, l2⟩
theorem o_lineCount {h : Hp} {D : Dt} (wd : WD D) (s : SL h) (c : CI h D) {x y : Int} (hx : InR x) (hy : InR y) : OpP h D (f_L_lineCount h 1 (iN x) (iN y) 656) (fun h1 => f_X9_lineCount h1 632 (iN x) (iN y)) := by
  have w := wd.1
  have t := c.1.1
  have h5 := w.1.2.2.2.2.2
  by_cases q : 0 ≤ x ∧ x ≤ D.1 5 - 1
  · have hx3 : 0 ≤ x ∧ x < D.1 5 := by omega
    have hx2 : 0 ≤ x ∧ x < 16 := by omega
    have wb := (w.2.2.1 x hx3.1 hx3.2).2
    have mb := mnB_bd wb
    by_cases q3 : blk D.1 x 3 ≤ 3
    · by_cases p : mnB (blk D.1 x) ≤ y ∧ y ≤ 99
      · obtain ⟨h2, e2, f2, t2, l2⟩ := c_lines w s t hx3 (x := y) (by omega)
        have s2 := s.ly f2.1
        refine OpP.a (lnB (blk D.1 x) y).length wd s2 (c.h wd f2 t2) f2.h632 (by rw [f2.qc.1]; omega) (by rw [f2.qc.2]; omega) ?_ (fun h1 s1 r1 s0 rm => ?_)
        · unfold f_L_lineCount f_X8_lineCount
          rw [chk_pos s.o1, chk_pos s.o1, g_textOf w s t hx, if_pos q, if_pos q3, bnd_ret, chk_pos (t.1.cl hx2).1, g_minC (t.1.cl hx2) (t.cc hx3.1 hx3.2).2 wb, bnd_ret, g_isW hy ⟨by omega, by omega⟩ ⟨by omega, by omega⟩, bnd_ret, g_rqA, if_pos p, bnd_ret, chk_pos (t.1.cl hx2).1, e2, bnd_ret, bndX_ret]
        · obtain ⟨h3, e3, f3⟩ := g_leastContent rm hx2 wb
          have s3 := s0.ly f3.1
          have rm3 := rm.fz f3 (fun j z => by unfold pB at z; omega)
          obtain ⟨h4, e4, f4, n4, a4⟩ := g_breaksLines rm3 hx2 wb (x := y) (by omega)
          refine ⟨h4, ?_, (f3.tr f4).bx⟩
          unfold f_X9_lineCount
          rw [chk_pos s1.m.1, lt_is, g_isCell rm w hx, bnd_ret, if_neg (fun z => bN0.mp z q), chk_pos s0.m.1, g_isText9 rm hx2 wb, bnd_ret, if_neg (fun z => bN0.mp z q3), chk_pos s0.m.1, e3, bnd_ret, g_in hy ⟨by omega, by omega⟩ ⟨by omega, by omega⟩, bnd_ret, if_neg (fun z => bN0.mp z p), chk_pos s3.m.1, e4, bnd_ret, chk_pos (s3.ly f4.1).m.1, n4]
      · refine OpP.f 3 (by omega) wd s c (fun _ _ _ => rfl) (Nat.le_refl _) (Nat.le_refl _) ?_ (fun h1 s1 r1 s0 rm => ?_)
        · unfold f_L_lineCount f_X8_lineCount
          rw [chk_pos s.o1, chk_pos s.o1, g_textOf w s t hx, if_pos q, if_pos q3, bnd_ret, chk_pos (t.1.cl hx2).1, g_minC (t.1.cl hx2) (t.cc hx3.1 hx3.2).2 wb, bnd_ret, g_isW hy ⟨by omega, by omega⟩ ⟨by omega, by omega⟩, bnd_ret, g_rqA, if_neg p, bnd_thr, bndX_thr, if_neg (by decide), if_neg (by decide), if_pos rfl]
        · obtain ⟨h3, e3, f3⟩ := g_leastContent rm hx2 wb
          have s3 := s0.ly f3.1
          refine ⟨h3, ?_, f3.bx⟩
          unfold f_X9_lineCount
          rw [chk_pos s1.m.1, lt_is, g_isCell rm w hx, bnd_ret, if_neg (fun z => bN0.mp z q), chk_pos s0.m.1, g_isText9 rm hx2 wb, bnd_ret, if_neg (fun z => bN0.mp z q3), chk_pos s0.m.1, e3, bnd_ret, g_in hy ⟨by omega, by omega⟩ ⟨by omega, by omega⟩, bnd_ret, if_pos (bN0.mpr p), chk_pos s3.m.1, g_fails s3, bnd_ret]
    · refine OpP.f0 2 (by omega) wd s c ?_ (fun h1 s1 r1 s0 rm => ?_)
      · unfold f_L_lineCount f_X8_lineCount
        rw [chk_pos s.o1, chk_pos s.o1, g_textOf w s t hx, if_pos q, if_neg q3, bnd_thr, bndX_thr, if_neg (by decide), if_pos rfl]
      · unfold f_X9_lineCount
        rw [chk_pos s1.m.1, lt_is, g_isCell rm w hx, bnd_ret, if_neg (fun z => bN0.mp z q), chk_pos s0.m.1, g_isText9 rm hx2 wb, bnd_ret, if_pos (bN0.mpr q3), chk_pos s0.m.1, g_fails s0, bnd_ret]
  · refine OpP.f0 1 (by omega) wd s c ?_ (fun h1 s1 r1 s0 rm => ?_)
    · unfold f_L_lineCount f_X8_lineCount
      rw [chk_pos s.o1, chk_pos s.o1, g_textOf w s t hx, if_neg q, bnd_thr, bndX_thr, if_pos rfl]
    · unfold f_X9_lineCount
      rw [chk_pos s1.m.1, lt_is, g_isCell rm w hx, bnd_ret, if_pos (bN0.mpr q), chk_pos s0.m.1, g_fails s0, bnd_ret]
theorem o_lineLength {h : Hp} {D : Dt} (wd : WD D) (s : SL h) (c : CI h D) {x y u : Int} (hx : InR x) (hy : InR y) (hu : InR u) : OpP h D (f_L_lineLength h 1 (iN x) (iN y) (iN u) 656) (fun h1 => f_X9_lineLength h1 632 (iN x) (iN y) (iN u)) := by
  have w := wd.1
  have t := c.1.1
  have h5 := w.1.2.2.2.2.2
  by_cases q : 0 ≤ x ∧ x ≤ D.1 5 - 1
  · have hx3 : 0 ≤ x ∧ x < D.1 5 := by omega
    have hx2 : 0 ≤ x ∧ x < 16 := by omega
    have wb := (w.2.2.1 x hx3.1 hx3.2).2
    have mb := mnB_bd wb
    by_cases q3 : blk D.1 x 3 ≤ 3
    · by_cases p : mnB (blk D.1 x) ≤ y ∧ y ≤ 99
      · obtain ⟨h2, e2, f2, t2, l2⟩ := c_lines w s t hx3 (x := y) (by omega)
        have s2 := s.ly f2.1
        have ln := lnB_len wb y
        have ref : ∀ h1, SL h1 → RI h1 D → SL (putI h1 632 0 (iN 0)) → RM (putI h1 632 0 (iN 0)) 632 D.1 → ∃ h4, f_X9_lineLength h1 632 (iN x) (iN y) (iN u) = (if 0 ≤ u ∧ u ≤ ((lnB (blk D.1 x) y).length : Int) - 1 then some (h4, .inr (qI h4 643 u.toNat)) else some (putI h4 632 0 (iN 4), .inr (iN 0))) ∧ FZ (pX 632) (putI h1 632 0 (iN 0)) h4 ∧ ∀ (k : Nat) (z : Int), (lnB (blk D.1 x) y)[k]? = some z → qI h4 643 k = iN z := by
          intro h1 s1 r1 s0 rm
          obtain ⟨h3, e3, f3⟩ := g_leastContent rm hx2 wb
          have s3 := s0.ly f3.1
          have rm3 := rm.fz f3 (fun j z => by unfold pB at z; omega)
          obtain ⟨h4, e4, f4, n4, a4⟩ := g_breaksLines rm3 hx2 wb (x := y) (by omega)
          have s4 := s3.ly f4.1
          refine ⟨h4, ?_, (f3.tr f4).bx, a4⟩
          unfold f_X9_lineLength
          rw [chk_pos s1.m.1, lt_is, g_isCell rm w hx, bnd_ret, if_neg (fun z => bN0.mp z q), chk_pos s0.m.1, g_isText9 rm hx2 wb, bnd_ret, if_neg (fun z => bN0.mp z q3), chk_pos s0.m.1, e3, bnd_ret, g_in hy ⟨by omega, by omega⟩ ⟨by omega, by omega⟩, bnd_ret, if_neg (fun z => bN0.mp z p), chk_pos s3.m.1, e4, bnd_ret, chk_pos s4.m.1, n4, iN_sub, g_in hu ⟨by omega, by omega⟩ ⟨by omega, by omega⟩, bnd_ret]
          by_cases pu : 0 ≤ u ∧ u ≤ ((lnB (blk D.1 x) y).length : Int) - 1
          · rw [if_neg (fun z => bN0.mp z pu), if_pos pu, chk_pos s4.m.1, s4.m.r19, chk_pos s4.m.o19, s4.m.w19, ck_in (by omega) (by omega) (by omega), iN_cl (by omega) (by omega)]
          · rw [if_pos (bN0.mpr pu), if_neg pu, chk_pos s4.m.1, g_fails s4, bnd_ret]
        by_cases pu : 0 ≤ u ∧ u ≤ ((lnB (blk D.1 x) y).length : Int) - 1
        · obtain ⟨z, hz⟩ : ∃ z, (lnB (blk D.1 x) y)[u.toNat]? = some z := ⟨_, List.getElem?_eq_getElem (by omega)⟩
          have l3 := t2.1.cl hx2
          have ca : cA h2 2 x = cA h 2 x := cA_ly f2.1
          rw [ca] at l3
          refine OpP.a z wd s2 (c.h wd f2 t2) f2.h632 (by rw [f2.qc.1]; omega) (by rw [f2.qc.2]; omega) ?_ (fun h1 s1 r1 s0 rm => ?_)
          · unfold f_L_lineLength f_X8_lineLength
            rw [chk_pos s.o1, chk_pos s.o1, g_textOf w s t hx, if_pos q, if_pos q3, bnd_ret, chk_pos (t.1.cl hx2).1, g_minC (t.1.cl hx2) (t.cc hx3.1 hx3.2).2 wb, bnd_ret, g_isW hy ⟨by omega, by omega⟩ ⟨by omega, by omega⟩, bnd_ret, g_rqA, if_pos p, bnd_ret, chk_pos (t.1.cl hx2).1, e2, bnd_ret, iN_sub, g_isW hu ⟨by omega, by omega⟩ ⟨by omega, by omega⟩, bnd_ret, g_rqE, if_pos pu, bnd_ret, chk_pos l3.1, l3.2.1.2.2.2.2.2.1, chk_pos l3.2.2.1.2.2.2.2.2.1, l3.2.2.2.2.2.2.2.2.1, ck_in (by omega) (by omega) (by omega), iN_cl (by omega) (by omega), bndX_ret, l2 _ _ hz]
          · obtain ⟨h4, e4, f4, a4⟩ := ref h1 s1 r1 s0 rm
            exact ⟨h4, by rw [e4, if_pos pu, a4 _ _ hz], f4⟩
        · refine OpP.f 4 (by omega) wd s2 (c.h wd f2 t2) f2.h632 (by rw [f2.qc.1]; omega) (by rw [f2.qc.2]; omega) ?_ (fun h1 s1 r1 s0 rm => ?_)
          · unfold f_L_lineLength f_X8_lineLength
            rw [chk_pos s.o1, chk_pos s.o1, g_textOf w s t hx, if_pos q, if_pos q3, bnd_ret, chk_pos (t.1.cl hx2).1, g_minC (t.1.cl hx2) (t.cc hx3.1 hx3.2).2 wb, bnd_ret, g_isW hy ⟨by omega, by omega⟩ ⟨by omega, by omega⟩, bnd_ret, g_rqA, if_pos p, bnd_ret, chk_pos (t.1.cl hx2).1, e2, bnd_ret, iN_sub, g_isW hu ⟨by omega, by omega⟩ ⟨by omega, by omega⟩, bnd_ret, g_rqE, if_neg pu, bnd_thr, bndX_thr, if_neg (by decide), if_neg (by decide), if_neg (by decide), if_pos rfl]
          · obtain ⟨h4, e4, f4, a4⟩ := ref h1 s1 r1 s0 rm
            exact ⟨h4, by rw [e4, if_neg pu], f4⟩
      · refine OpP.f 3 (by omega) wd s c (fun _ _ _ => rfl) (Nat.le_refl _) (Nat.le_refl _) ?_ (fun h1 s1 r1 s0 rm => ?_)
        · unfold f_L_lineLength f_X8_lineLength
          rw [chk_pos s.o1, chk_pos s.o1, g_textOf w s t hx, if_pos q, if_pos q3, bnd_ret, chk_pos (t.1.cl hx2).1, g_minC (t.1.cl hx2) (t.cc hx3.1 hx3.2).2 wb, bnd_ret, g_isW hy ⟨by omega, by omega⟩ ⟨by omega, by omega⟩, bnd_ret, g_rqA, if_neg p, bnd_thr, bndX_thr, if_neg (by decide), if_neg (by decide), if_pos rfl]
        · obtain ⟨h3, e3, f3⟩ := g_leastContent rm hx2 wb
          have s3 := s0.ly f3.1
          refine ⟨h3, ?_, f3.bx⟩
          unfold f_X9_lineLength
          rw [chk_pos s1.m.1, lt_is, g_isCell rm w hx, bnd_ret, if_neg (fun z => bN0.mp z q), chk_pos s0.m.1, g_isText9 rm hx2 wb, bnd_ret, if_neg (fun z => bN0.mp z q3), chk_pos s0.m.1, e3, bnd_ret, g_in hy ⟨by omega, by omega⟩ ⟨by omega, by omega⟩, bnd_ret, if_pos (bN0.mpr p), chk_pos s3.m.1, g_fails s3, bnd_ret]
    · refine OpP.f0 2 (by omega) wd s c ?_ (fun h1 s1 r1 s0 rm => ?_)
      · unfold f_L_lineLength f_X8_lineLength
        rw [chk_pos s.o1, chk_pos s.o1, g_textOf w s t hx, if_pos q, if_neg q3, bnd_thr, bndX_thr, if_neg (by decide), if_pos rfl]
      · unfold f_X9_lineLength
        rw [chk_pos s1.m.1, lt_is, g_isCell rm w hx, bnd_ret, if_neg (fun z => bN0.mp z q), chk_pos s0.m.1, g_isText9 rm hx2 wb, bnd_ret, if_pos (bN0.mpr q3), chk_pos s0.m.1, g_fails s0, bnd_ret]
  · refine OpP.f0 1 (by omega) wd s c ?_ (fun h1 s1 r1 s0 rm => ?_)
    · unfold f_L_lineLength f_X8_lineLength
      rw [chk_pos s.o1, chk_pos s.o1, g_textOf w s t hx, if_neg q, bnd_thr, bndX_thr, if_pos rfl]
    · unfold f_X9_lineLength
      rw [chk_pos s1.m.1, lt_is, g_isCell rm w hx, bnd_ret, if_pos (bN0.mpr q), chk_pos s0.m.1, g_fails s0, bnd_ret]
theorem o_cellHeight {h : Hp} {D : Dt} (wd : WD D) (s : SL h) (c : CI h D) {x y : Int} (hx : InR x) (hy : InR y) : OpP h D (f_L_cellHeight h 1 (iN x) (iN y) 656) (fun h1 => f_X9_cellHeight h1 632 (iN x) (iN y)) := by
  have w := wd.1
  have t := c.1.1
  have h5 := w.1.2.2.2.2.2
  have h3 := w.1.2.2.2.1
  by_cases q : 0 ≤ x ∧ x ≤ D.1 5 - 1
  · have hx3 : 0 ≤ x ∧ x < D.1 5 := by omega
    have hx2 : 0 ≤ x ∧ x < 16 := by omega
    have wb := (w.2.2.1 x hx3.1 hx3.2).2
    have mb := mnB_bd wb
    have mc : mnC D.1 x = mnB (blk D.1 x) + 2 * D.1 3 := rfl
    by_cases p : mnC D.1 x ≤ y ∧ y ≤ 99
    · obtain ⟨h2, e2, f2, t2⟩ := g_heightWithin t w hx3 (x := y) (by omega) (by omega)
      have s2 := s.ly f2.1
      refine OpP.a (hC D.1 x y) wd s2 (c.h wd f2 t2) f2.h632 (by rw [f2.qc.1]; omega) (by rw [f2.qc.2]; omega) ?_ (fun h1 s1 r1 s0 rm => ?_)
      · unfold f_L_cellHeight f_X8_cellHeight
        rw [chk_pos s.o1, chk_pos s.o1, g_rqCell w s t hx, if_pos q, bnd_ret, chk_pos s.o1, s.t0, chk_pos t.1.o, t.1.r8, chk_pos t.1.o3, t.1.w3, ck_in (by omega) (by omega) (by omega), cA_eq (by omega) (by omega), chk_pos (t.1.co hx2), g_minimumOf t w hx3, bnd_ret, g_isW hy ⟨by omega, by omega⟩ ⟨by omega, by omega⟩, bnd_ret, g_rqA, if_pos p, bnd_ret, chk_pos s.o1, s.t0, chk_pos t.1.o, e2, bnd_ret, bndX_ret]
      · obtain ⟨h3, e3, f3⟩ := g_leastOf rm hx2 wb
        have s3 := s0.ly f3.1
        have rm3 := rm.fz f3 (fun j z => by unfold pB at z; omega)
        obtain ⟨h4, e4, f4⟩ := g_heightOf rm3 hx2 wb w.1.2.2.2.1 (x := y) (by omega) (by omega)
        refine ⟨h4, ?_, (f3.tr f4).bx⟩
        unfold f_X9_cellHeight
        rw [chk_pos s1.m.1, lt_is, g_isCell rm w hx, bnd_ret, if_neg (fun z => bN0.mp z q), chk_pos s0.m.1, e3, bnd_ret, g_in hy ⟨by omega, by omega⟩ ⟨by omega, by omega⟩, bnd_ret, if_neg (fun z => bN0.mp z p), chk_pos s3.m.1, e4, bnd_ret]
    · refine OpP.f 2 (by omega) wd s c (fun _ _ _ => rfl) (Nat.le_refl _) (Nat.le_refl _) ?_ (fun h1 s1 r1 s0 rm => ?_)
      · unfold f_L_cellHeight f_X8_cellHeight
        rw [chk_pos s.o1, chk_pos s.o1, g_rqCell w s t hx, if_pos q, bnd_ret, chk_pos s.o1, s.t0, chk_pos t.1.o, t.1.r8, chk_pos t.1.o3, t.1.w3, ck_in (by omega) (by omega) (by omega), cA_eq (by omega) (by omega), chk_pos (t.1.co hx2), g_minimumOf t w hx3, bnd_ret, g_isW hy ⟨by omega, by omega⟩ ⟨by omega, by omega⟩, bnd_ret, g_rqA, if_neg p, bnd_thr, bndX_thr, if_neg (by decide), if_pos rfl]
      · obtain ⟨h3, e3, f3⟩ := g_leastOf rm hx2 wb
        have s3 := s0.ly f3.1
        refine ⟨h3, ?_, f3.bx⟩
        unfold f_X9_cellHeight
        rw [chk_pos s1.m.1, lt_is, g_isCell rm w hx, bnd_ret, if_neg (fun z => bN0.mp z q), chk_pos s0.m.1, e3, bnd_ret, g_in hy ⟨by omega, by omega⟩ ⟨by omega, by omega⟩, bnd_ret, if_pos (bN0.mpr p), chk_pos s3.m.1, g_fails s3, bnd_ret]
  · refine OpP.f0 1 (by omega) wd s c ?_ (fun h1 s1 r1 s0 rm => ?_)
    · unfold f_L_cellHeight f_X8_cellHeight
      rw [chk_pos s.o1, chk_pos s.o1, g_rqCell w s t hx, if_neg q, bnd_thr, bndX_thr, if_pos rfl]
    · unfold f_X9_cellHeight
      rw [chk_pos s1.m.1, lt_is, g_isCell rm w hx, bnd_ret, if_pos (bN0.mpr q), chk_pos s0.m.1, g_fails s0, bnd_ret]
