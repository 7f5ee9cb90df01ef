/-! ===== STAGE B: costOfWord ===== -/
/-- the last word's break becomes a space -/
def spM (m : Int → Int) (i : Int) : Int → Int := if 0 < blk m i 4 then up m (10 + 31 * i + (19 + blk m i 4 - 1)) 0 else m
theorem spM_ag {m : Int → Int} {i : Int} (h : blk m i 4 ≤ 12) : Ag m (spM m i) i := by
  unfold spM
  split
  · exact up_ag (by omega)
  · exact fun j _ => rfl
theorem spM_at {m : Int → Int} {i k : Int} : blk (spM m i) i k = if 0 < blk m i 4 ∧ k = 19 + blk m i 4 - 1 then 0 else blk m i k := by
  unfold spM
  by_cases p : 0 < blk m i 4
  · rw [if_pos p, up_blk]
    by_cases e : k = 19 + blk m i 4 - 1
    · rw [if_pos e, if_pos ⟨p, e⟩]
    · rw [if_neg e, if_neg (fun z => e z.2)]
  · rw [if_neg p, if_neg (fun z => p z.1)]
theorem spM_wb {m : Int → Int} {i : Int} (w : WB (blk m i)) : WB (blk (spM m i) i) := by
  have w4 := w.2.1
  have bx : ∀ k, k < 18 → blk (spM m i) i k = blk m i k := fun k hk => by rw [spM_at, if_neg (by omega)]
  refine ⟨by rw [bx 3 (by omega)]; exact w.1, by rw [bx 4 (by omega)]; exact w.2.1, by rw [bx 5 (by omega)]; exact w.2.2.1, by rw [bx 6 (by omega)]; exact w.2.2.2.1, fun k h1 h2 => ?_, by rw [bx 3 (by omega), bx 4 (by omega)]; exact w.2.2.2.2.2.1, by rw [bx 3 (by omega), bx 5 (by omega), bx 6 (by omega)]; exact w.2.2.2.2.2.2⟩
  rw [bx 4 (by omega)] at h2
  have w5 := w.2.2.2.2.1 k h1 h2
  refine ⟨?_, ?_⟩
  · rw [spM_at, if_neg (by omega)]
    exact w5.1
  · rw [spM_at]
    split
    · omega
    · exact w5.2
theorem o_costOfWord {h : Hp} {D : Dt} (wd : WD D) (s : SL h) (c : CI h D) {x y : Int} (hx : InR x) (hy : InR y) : OpP h D (f_L_costOfWord h 1 (iN x) (iN y) 656) (fun h1 => f_X9_costOfWord h1 632 (iN x) (iN y)) := by
  have w := wd.1
  have t := c.1.1
  have h5 := w.1.2.2.2.2.2
  have h1b := w.1.2.1
  by_cases q : 0 ≤ x ∧ x ≤ D.1 5 - 1
  · have hx3 : 0 ≤ x ∧ x < D.1 5 := by omega
    have hx2 : 0 ≤ x ∧ x < 16 := by omega
    have wb := (w.2.2.1 x hx3.1 hx3.2).2
    have cc := t.cc hx3.1 hx3.2
    have w4 := wb.2.1
    by_cases q3 : blk D.1 x 3 ≤ 3
    · by_cases p1 : 1 ≤ y ∧ y ≤ 12
      · have cls0 : f_X8_costOfWord h 1 (iN x) (iN y) = if blk D.1 x 4 < 12 then f_X8_costOfWord_L30 h 1 (iN x) (iN y) (iN 1) else some (bump h, .inl 0) := by
          unfold f_X8_costOfWord
          rw [chk_pos s.o1, g_textOf w s t hx, if_pos q, if_pos q3, bnd_ret, g_isW hy ⟨(by omega), (by omega)⟩ ⟨(by omega), (by omega)⟩, bnd_ret, g_rqA, if_pos p1, bnd_ret, chk_pos (t.1.cl hx2).1, HW_3 cc.2.2.1 wb.2.1.1]
          by_cases q4 : blk D.1 x 4 < 12
          · rw [if_neg (nleN (by omega) (by omega) (by omega)), if_pos q4]
          · rw [if_pos (yleN (by omega) (by omega) (by omega)), if_neg q4]
            unfold f_X8_costOfWord_L30
            rw [g_rqS0, bnd_thr]
        by_cases q4 : blk D.1 x 4 < 12
        · rw [if_pos q4] at cls0
          have lb := lh_bd w (L := 1000000) (x := D.1 1) h1b.2
          obtain ⟨h2, e2, st⟩ := g_leastS wd s c (x := D.1 1) (by omega)
          have cls1 : f_X8_costOfWord h 1 (iN x) (iN y) = if 0 ≤ lhF D.1 1000000 (D.1 1) then f_X8_costOfWord_L59 h2 1 (iN x) (iN y) (iN (lhF D.1 1000000 (D.1 1))) (iN 1) else some (bump h2, .inl 0) := by
            rw [cls0]
            unfold f_X8_costOfWord_L30
            rw [g_rqS1, bnd_ret, chk_pos s.o1, s.t2, chk_pos s.u.o, s.t0, chk_pos t.1.o, t.wd, e2, bnd_ret]
            by_cases p : 0 ≤ lhF D.1 1000000 (D.1 1)
            · rw [if_neg (fun z => by have := (iN_lt0 (by omega) (by omega)).mp z; omega), if_pos p]
            · rw [if_pos ((iN_lt0 (by omega) (by omega)).mpr (by omega)), if_neg p]
              unfold f_X8_costOfWord_L59
              rw [g_rqS0, bnd_thr]
          by_cases p : 0 ≤ lhF D.1 1000000 (D.1 1)
          · rw [if_pos p] at cls1
            -- the blocks
            have sa := spM_ag (m := D.1) (i := x) w4.2
            have sw := spM_wb wb
            have s3 : blk (spM D.1 x) x 3 = blk D.1 x 3 := by rw [spM_at, if_neg (by omega)]
            have s4 : blk (spM D.1 x) x 4 = blk D.1 x 4 := by rw [spM_at, if_neg (by omega)]
            have s5 : blk (spM D.1 x) x 5 = blk D.1 x 5 := by rw [spM_at, if_neg (by omega)]
            have s6 : blk (spM D.1 x) x 6 = blk D.1 x 6 := by rw [spM_at, if_neg (by omega)]
            have ag : Ag D.1 (puN (spM D.1 x) x y 0) x := sa.tr (puN_ag (by rw [s4]; omega))
            have wn : WB (blk (puN (spM D.1 x) x y 0) x) := puN_wb sw (by rw [s3]; exact q3) (by rw [s4]; exact q4) p1 (by omega)
            have wf : WF (puN (spM D.1 x) x y 0) := WF_ct w hx3 ag wn
            have n1 : puN (spM D.1 x) x y 0 1 = D.1 1 := ag.hd hx3.1 (by omega)
            have bx : ∀ k, k ≠ 4 → k ≠ 19 + blk D.1 x 4 → k ≠ 7 + blk D.1 x 4 → blk (puN (spM D.1 x) x y 0) x k = blk (spM D.1 x) x k := fun k k1 k2 k3 => by rw [puN_at, s4, if_neg k1, if_neg k2, if_neg k3]
            have b4 : blk (puN (spM D.1 x) x y 0) x 4 = blk (spM D.1 x) x 4 + 1 := by rw [puN_at, if_pos rfl]
            -- the class
            obtain ⟨h3, e3, f3, t3⟩ := g_copyT (T := 210) w (Or.inr (by omega)) st.1.2.1.2.1 st.2.1.1.1
            have st3 := st.t wd (f3.mo (fun x j z => by omega))
            have lx := t3.1.cl hx2
            obtain ⟨k0, hk0, ek0⟩ := t3.1.at hx2
            obtain ⟨h4, e4, f4, c4⟩ := g_pushAfterSpace (b := blk D.1 x) (b1 := blk (spM D.1 x) x) (b2 := blk (puN (spM D.1 x) x y 0) x) lx (t3.cc hx3.1 hx3.2).2.d wn ⟨w4.1, q4⟩ s3 s4 s5 s6 (fun k h1 h2 => ⟨by rw [spM_at, if_neg (by omega)], by
              rw [spM_at]
              by_cases e : k = blk D.1 x 4 - 1
              · rw [if_pos ⟨(by omega), (by omega)⟩, if_pos e]
              · rw [if_neg (by omega), if_neg e]⟩) (bx 3 (by omega) (by omega) (by omega)) b4 (bx 5 (by omega) (by omega) (by omega)) (bx 6 (by omega) (by omega) (by omega)) (fun k h1 h2 => by rw [s4] at h2; exact ⟨bx (7 + k) (by omega) (by omega) (by omega), bx (19 + k) (by omega) (by omega) (by omega)⟩) (by rw [puN_at, s4, if_neg (by omega), if_pos rfl])
            rw [show blk (puN (spM D.1 x) x y 0) x (7 + blk D.1 x 4) = y by rw [puN_at, s4, if_neg (by omega), if_neg (by omega), if_pos rfl]] at e4
            have t4 := TM_ct t3 w hx3 ag f4 c4
            have st4 := st3.t wd (f4.mo (fun x j z => by unfold pK at z; omega))
            obtain ⟨h5, e5, f5⟩ := g_below (L := 1000000) wf st4.1 t4 (by omega)
            have st5 := st4.t wd f5
            rw [n1] at e5
            have lb2 := lh_bd wf (L := 1000000) (x := D.1 1) h1b.2
            have cls : f_X8_costOfWord h 1 (iN x) (iN y) = if 0 ≤ lhF (puN (spM D.1 x) x y 0) 1000000 (D.1 1) then some (h5, .inr (iN (lhF (puN (spM D.1 x) x y 0) 1000000 (D.1 1) - lhF D.1 1000000 (D.1 1)))) else some (bump h5, .inl 0) := by
              rw [cls1]
              unfold f_X8_costOfWord_L59 f_X8_costOfWord_L107
              rw [g_rqS1, bnd_ret, chk_pos st.1.o1, st.1.t3, chk_pos st.1.2.1.2.1.o, st.1.t0, chk_pos st.2.1.1.1.1.o, e3, bnd_ret, chk_pos st3.1.o1, st3.1.t3, chk_pos t3.1.o, t3.1.r8, chk_pos t3.1.o3, t3.1.w3, ck_in (by omega) (by omega) (by omega), cA_eq (by omega) (by omega), chk_pos (t3.1.co hx2), t3.1.cr hx2, chk_pos lx.1, e4, bnd_ret, chk_pos st4.1.o1, show (1000000 : Int32) = iN 1000000 from rfl, e5, bnd_ret]
              by_cases z : 0 ≤ lhF (puN (spM D.1 x) x y 0) 1000000 (D.1 1)
              · rw [if_neg (fun z => by have := (iN_lt0 (by omega) (by omega)).mp z; omega), g_rqS1, bnd_ret, if_pos z, iN_sub]
              · rw [if_pos ((iN_lt0 (by omega) (by omega)).mpr (by omega)), g_rqS0, bnd_thr, if_neg z]
            have ref : ∀ h1, SL h1 → RM (putI h1 632 0 (iN 0)) 632 D.1 → SL (putI h1 632 0 (iN 0)) → ∃ h2, f_X9_costOfWord h1 632 (iN x) (iN y) = (if 0 ≤ lhF (puN (spM D.1 x) x y 0) 1000000 (D.1 1) then some (h2, .inr (iN (lhF (puN (spM D.1 x) x y 0) 1000000 (D.1 1) - lhF D.1 1000000 (D.1 1)))) else some (putI h2 632 0 (iN 4), .inr (iN 0))) ∧ FZ pZ (putI h1 632 0 (iN 0)) h2 ∧ AR h2 633 506 D.1 := by
              intro h1 s1 rm s0
              obtain ⟨g3, e3, f3, t3, a3⟩ := g_isBest w rm
              have s3' := s0.ly f3.1
              have r3 := rm.x f3
              obtain ⟨g4, e4, f4, a4⟩ := g_keeps r3
              have s4' := s3'.ly f4.1
              have r4 := r3.fz f4 (fun j => by omega)
              -- the break
              obtain ⟨g5, e5, f5, r5⟩ : ∃ g5, (if iN (blk D.1 x 4) ≤ 0 then f_X9_costOfWord_L116 g4 632 (iN x) (iN y) (qI g3 632 32) else chk (okr g4 632 9) (chk (okr g4 (qR g4 632 1) 20) (bnd (f_X9_of g4 632 (iN x) (iN 4)) fun h39 r40 => chk (okr h39 (qR g4 632 1) 20) (chk (vp_in (((((iN 10) + ((iN 31) * iN x)) + (iN 19)) + r40) - (iN 1)) (qW h39 (qR g4 632 1))) (lt (putI h39 (qR g4 632 1) (Int32.toNatClampNeg (((((iN 10) + ((iN 31) * iN x)) + (iN 19)) + r40) - (iN 1))) (iN 0)) fun h43 => f_X9_costOfWord_L116 h43 632 (iN x) (iN y) (qI g3 632 32)))))) = f_X9_costOfWord_L116 g5 632 (iN x) (iN y) (qI g3 632 32) ∧ FZ (fun x _ => x = 633) g4 g5 ∧ RM g5 632 (spM D.1 x) := by
                by_cases z : 0 < blk D.1 x 4
                · have em : spM D.1 x = up D.1 (10 + 31 * x + (19 + blk D.1 x 4 - 1)) 0 := if_pos z
                  refine ⟨putI g4 (632 + 1) (10 + 31 * x + (19 + blk D.1 x 4 - 1)).toNat (iN 0), ?_, FZ.pI rfl, by rw [em]; exact r4.up (by omega)⟩
                  rw [if_neg (fun y => by have := (iN_le0 (by omega) (by omega)).mp y; omega), chk_pos r4.1.1, r4.1.r1, chk_pos r4.1.o1, g_ofA r4 hx2 (by omega), bnd_ret, chk_pos r4.1.o1, r4.1.w1]
                  simp only [iN_mul, iN_add, iN_sub]
                  rw [ck_in (by omega) (by omega) (by omega), lt_is, iN_cl (by omega) (by omega), show 10 + 31 * x + 19 + blk D.1 x 4 - 1 = 10 + 31 * x + (19 + blk D.1 x 4 - 1) by omega]
                · have em : spM D.1 x = D.1 := if_neg z
                  exact ⟨g4, by rw [if_pos ((iN_le0 (by omega) (by omega)).mpr (by omega))], FZ.rf, by rw [em]; exact r4⟩
              have s5' := s4'.ly f5.1
              obtain ⟨g6, e6, f6, r6⟩ := g_puts (len := y) (br := 0) r5 hx2 (by rw [s4]; omega)
              have s6' := s5'.ly f6.1
              obtain ⟨g7, e7, f7, t7, a7⟩ := g_isBest wf r6
              rw [n1] at e7 a7
              have s7' := s6'.ly f7.1
              have A7 : AR g7 635 506 D.1 := ((a4.fz f5 (fun j => by omega)).fz f6 (fun j => by omega)).fz f7 (fun j z => by unfold pX at z; omega)
              obtain ⟨g8, e8, f8, r8⟩ := g_goesBack A7 (r6.x f7)
              have s8' := s7'.ly f8.1
              refine ⟨g8, ?_, ((((f3.xz.tr (f4.mo (fun x j z => Or.inr (Or.inl z)))).tr (f5.mo (fun x j z => Or.inl z))).tr (f6.mo (fun x j z => Or.inl z))).tr f7.xz).tr (f8.mo (fun x j z => Or.inl z)), r8.2⟩
              unfold f_X9_costOfWord
              rw [chk_pos s1.m.1, lt_is, g_isCell rm w hx, bnd_ret, if_neg (fun z => bN0.mp z q), chk_pos s0.m.1, g_isText9 rm hx2 wb, bnd_ret, if_neg (fun z => bN0.mp z q3), g_in hy ⟨(by omega), (by omega)⟩ ⟨(by omega), (by omega)⟩, bnd_ret, if_neg (fun z => bN0.mp z p1), chk_pos s0.m.1, g_ofA rm hx2 (by omega), bnd_ret, if_neg (neN (by omega) (by omega) (by omega) (by omega) (by omega)), chk_pos s0.m.1, e3, bnd_ret, if_neg (fun z => bN0.mp z p), chk_pos s3'.m.1, e4, bnd_ret, chk_pos s4'.m.1, g_ofA r4 hx2 (by omega), bnd_ret, e5]
              unfold f_X9_costOfWord_L116
              rw [chk_pos s5'.m.1, e6, bnd_ret, chk_pos s6'.m.1, e7, bnd_ret, chk_pos s7'.m.1, e8, bnd_ret]
              by_cases z : 0 ≤ lhF (puN (spM D.1 x) x y 0) 1000000 (D.1 1)
              · rw [if_neg (fun y => bN0.mp y z), chk_pos s8'.m.1, if_pos z, (a3 p).1, f8.2 632 32 (by omega), (a7 z).1, iN_sub]
              · rw [if_pos (bN0.mpr z), chk_pos s8'.m.1, g_fails s8', bnd_ret, if_neg z]
            by_cases z : 0 ≤ lhF (puN (spM D.1 x) x y 0) 1000000 (D.1 1)
            · rw [if_pos z] at cls
              refine OpP.A2 (lhF (puN (spM D.1 x) x y 0) 1000000 (D.1 1) - lhF D.1 1000000 (D.1 1)) wd st5 ?_ (fun h1 s1 r1 s0 rm => ?_)
              · unfold f_L_costOfWord
                rw [chk_pos s.o1, cls, bndX_ret]
              · obtain ⟨h8, e8, f8, a8⟩ := ref h1 s1 rm s0
                exact ⟨h8, by rw [e8, if_pos z], f8, a8⟩
            · rw [if_neg z] at cls
              refine OpP.F2 4 (by omega) wd st5 ?_ (fun h1 s1 r1 s0 rm => ?_)
              · unfold f_L_costOfWord
                rw [chk_pos s.o1, cls, bndX_thr, if_neg (by decide), if_neg (by decide), if_neg (by decide), if_pos rfl]
              · obtain ⟨h8, e8, f8, a8⟩ := ref h1 s1 rm s0
                exact ⟨h8, by rw [e8, if_neg z], f8, a8⟩
          · rw [if_neg p] at cls1
            refine OpP.F 4 (by omega) wd st ?_ (fun h1 s1 r1 s0 rm => ?_)
            · unfold f_L_costOfWord
              rw [chk_pos s.o1, cls1, bndX_thr, if_neg (by decide), if_neg (by decide), if_neg (by decide), if_pos rfl]
            · obtain ⟨g3, e3, f3, t3, a3⟩ := g_isBest w rm
              refine ⟨g3, ?_, f3⟩
              unfold f_X9_costOfWord f_X9_costOfWord_L67
              rw [chk_pos s1.m.1, lt_is, g_isCell rm w hx, bnd_ret, if_neg (fun z => bN0.mp z q), chk_pos s0.m.1, g_isText9 rm hx2 wb, bnd_ret, if_neg (fun z => bN0.mp z q3), g_in hy ⟨(by omega), (by omega)⟩ ⟨(by omega), (by omega)⟩, bnd_ret, if_neg (fun z => bN0.mp z p1), chk_pos s0.m.1, g_ofA rm hx2 (by omega), bnd_ret, if_neg (neN (by omega) (by omega) (by omega) (by omega) (by omega)), chk_pos s0.m.1, e3, bnd_ret, if_pos (bN0.mpr p), chk_pos (s0.ly f3.1).m.1, g_fails (s0.ly f3.1), bnd_ret]
        · rw [if_neg q4] at cls0
          refine OpP.f0 4 (by omega) wd s c ?_ (fun h1 s1 r1 s0 rm => ?_)
          · unfold f_L_costOfWord
            rw [chk_pos s.o1, cls0, bndX_thr, if_neg (by decide), if_neg (by decide), if_neg (by decide), if_pos rfl]
          · unfold f_X9_costOfWord f_X9_costOfWord_L67
            rw [chk_pos s1.m.1, lt_is, g_isCell rm w hx, bnd_ret, if_neg (fun z => bN0.mp z q), chk_pos s0.m.1, g_isText9 rm hx2 wb, bnd_ret, if_neg (fun z => bN0.mp z q3), g_in hy ⟨(by omega), (by omega)⟩ ⟨(by omega), (by omega)⟩, bnd_ret, if_neg (fun z => bN0.mp z p1), chk_pos s0.m.1, g_ofA rm hx2 (by omega), bnd_ret, if_pos (by rw [show blk D.1 x 4 = 12 by omega]), chk_pos s0.m.1, g_fails s0, bnd_ret]
      · refine OpP.f0 3 (by omega) wd s c ?_ (fun h1 s1 r1 s0 rm => ?_)
        · unfold f_L_costOfWord f_X8_costOfWord
          rw [chk_pos s.o1, chk_pos s.o1, g_textOf w s t hx, if_pos q, if_pos q3, bnd_ret, g_isW hy ⟨(by omega), (by omega)⟩ ⟨(by omega), (by omega)⟩, bnd_ret, g_rqA, if_neg p1, bnd_thr, bndX_thr, if_neg (by decide), if_neg (by decide), if_pos rfl]
        · unfold f_X9_costOfWord
          rw [chk_pos s1.m.1, lt_is, g_isCell rm w hx, bnd_ret, if_neg (fun z => bN0.mp z q), chk_pos s0.m.1, g_isText9 rm hx2 wb, bnd_ret, if_neg (fun z => bN0.mp z q3), g_in hy ⟨(by omega), (by omega)⟩ ⟨(by omega), (by omega)⟩, bnd_ret, if_pos (bN0.mpr p1), chk_pos s0.m.1, g_fails s0, bnd_ret]
    · refine OpP.f0 2 (by omega) wd s c ?_ (fun h1 s1 r1 s0 rm => ?_)
      · unfold f_L_costOfWord f_X8_costOfWord
        rw [chk_pos s.o1, chk_pos s.o1, g_textOf w s t hx, if_pos q, if_neg q3, bnd_thr, bndX_thr, if_neg (by decide), if_pos rfl]
      · unfold f_X9_costOfWord
        rw [chk_pos s1.m.1, lt_is, g_isCell rm w hx, bnd_ret, if_neg (fun z => bN0.mp z q), chk_pos s0.m.1, g_isText9 rm hx2 wb, bnd_ret, if_pos (bN0.mpr q3), chk_pos s0.m.1, g_fails s0, bnd_ret]
  · refine OpP.f0 1 (by omega) wd s c ?_ (fun h1 s1 r1 s0 rm => ?_)
    · unfold f_L_costOfWord f_X8_costOfWord
      rw [chk_pos s.o1, chk_pos s.o1, g_textOf w s t hx, if_neg q, bnd_thr, bndX_thr, if_pos rfl]
    · unfold f_X9_costOfWord
      rw [chk_pos s1.m.1, lt_is, g_isCell rm w hx, bnd_ret, if_pos (bN0.mpr q), chk_pos s0.m.1, g_fails s0, bnd_ret]
