/-! ===== STAGE B: calls of both sides: columnWidth, guess, autoWidth, autoHeight, bestWidth, bestHeight, rowHeight, heightAt ===== -/
theorem o_columnWidth {h : Hp} {D : Dt} (wd : WD D) (s : SL h) (c : CI h D) {x y : Int} (hx : InR x) (hy : InR y) : OpP h D (f_L_columnWidth h 1 (iN x) (iN y) 656) (fun h1 => f_X9_columnWidth h1 632 (iN x) (iN y)) := by
  have w := wd.1
  have t := c.1.1
  have k := c.1.2.1
  have h0 := w.1.1
  by_cases q : 0 ≤ x ∧ x ≤ D.1 0 - 1
  · by_cases p : 0 ≤ y ∧ y ≤ 2
    · have ref : ∀ h1, SL h1 → RM (putI h1 632 0 (iN 0)) 632 D.1 → SL (putI h1 632 0 (iN 0)) → ∃ h2, f_X9_columnWidth h1 632 (iN x) (iN y) = some (h2, .inr (iN (if y = 0 then (msW D.1).1 x else if y = 1 then (msW D.1).2 x else pcF D.1 x))) ∧ FZ (pX 632) (putI h1 632 0 (iN 0)) h2 := by
        intro h1 s1 rm s0
        obtain ⟨h2, e2, f2, a1, a2, a3⟩ := g_measures w rm
        have s2 := s0.ly f2.1
        refine ⟨h2, ?_, f2.vx⟩
        unfold f_X9_columnWidth
        rw [chk_pos s1.m.1, lt_is, g_isColumn rm w hx, bnd_ret, if_neg (fun z => bN0.mp z q), g_in hy ⟨by omega, by omega⟩ ⟨by omega, by omega⟩, bnd_ret, if_neg (fun z => bN0.mp z p), chk_pos s0.m.1, e2, bnd_ret]
        have hq : y = 0 ∨ y = 1 ∨ y = 2 := by omega
        rcases hq with rfl | rfl | rfl
        · rw [if_pos (by decide), if_pos (by decide), chk_pos s2.m.1, s2.m.r21, chk_pos s2.m.o21, s2.m.w21, ck_in (by omega) (by omega) (by omega), iN_cl (by omega) (by omega), a1 x (by omega) (by omega)]
        · rw [if_neg (by decide), if_pos (by decide), if_neg (by decide), if_pos (by decide), chk_pos s2.m.1, s2.m.r22, chk_pos s2.m.o22, s2.m.w22, ck_in (by omega) (by omega) (by omega), iN_cl (by omega) (by omega), a2 x (by omega) (by omega)]
        · rw [if_neg (by decide), if_neg (by decide), if_neg (by decide), if_neg (by decide), chk_pos s2.m.1, s2.m.r23, chk_pos s2.m.o23, s2.m.w23, ck_in (by omega) (by omega) (by omega), iN_cl (by omega) (by omega), a3 x (by omega) (by omega)]
      refine OpP.a0 _ wd s c ?_ (fun h1 s1 r1 s0 rm => ref h1 s1 rm s0)
      unfold f_L_columnWidth f_X8_columnWidth
      rw [chk_pos s.o1, chk_pos s.o1, g_rqCol w s t hx, if_pos q, bnd_ret, g_isW hy ⟨by omega, by omega⟩ ⟨by omega, by omega⟩, bnd_ret, g_rqA, if_pos p, bnd_ret, s.t1]
      have hq : y = 0 ∨ y = 1 ∨ y = 2 := by omega
      rcases hq with rfl | rfl | rfl
      · rw [if_pos (by decide), if_pos (by decide), chk_pos s.o1, chk_pos s.k.o, s.k.r1, chk_pos s.k.o1, s.k.w1, ck_in (by omega) (by omega) (by omega), iN_cl (by omega) (by omega), k.1 x (by omega) (by omega), bndX_ret]
      · rw [if_neg (by decide), if_pos (by decide), if_neg (by decide), if_pos (by decide), chk_pos s.o1, chk_pos s.k.o, s.k.r2, chk_pos s.k.o2, s.k.w2, ck_in (by omega) (by omega) (by omega), iN_cl (by omega) (by omega), k.2.1 x (by omega) (by omega), bndX_ret]
      · rw [if_neg (by decide), if_neg (by decide), if_neg (by decide), if_neg (by decide), chk_pos s.o1, chk_pos s.k.o, s.k.r3, chk_pos s.k.o3, s.k.w3, ck_in (by omega) (by omega) (by omega), iN_cl (by omega) (by omega), k.2.2.1 x (by omega) (by omega), bndX_ret]
    · refine OpP.f0 2 (by omega) wd s c ?_ (fun h1 s1 r1 s0 rm => ?_)
      · unfold f_L_columnWidth f_X8_columnWidth
        rw [chk_pos s.o1, chk_pos s.o1, g_rqCol w s t hx, if_pos q, bnd_ret, g_isW hy ⟨by omega, by omega⟩ ⟨by omega, by omega⟩, bnd_ret, g_rqA, if_neg p, bnd_thr, bndX_thr, if_neg (by decide), if_pos rfl]
      · unfold f_X9_columnWidth
        rw [chk_pos s1.m.1, lt_is, g_isColumn rm w hx, bnd_ret, if_neg (fun z => bN0.mp z q), g_in hy ⟨by omega, by omega⟩ ⟨by omega, by omega⟩, bnd_ret, if_pos (bN0.mpr p), chk_pos s0.m.1, g_fails s0, bnd_ret]
  · refine OpP.f0 1 (by omega) wd s c ?_ (fun h1 s1 r1 s0 rm => ?_)
    · unfold f_L_columnWidth f_X8_columnWidth
      rw [chk_pos s.o1, chk_pos s.o1, g_rqCol w s t hx, if_neg q, bnd_thr, bndX_thr, if_pos rfl]
    · unfold f_X9_columnWidth
      rw [chk_pos s1.m.1, lt_is, g_isColumn rm w hx, bnd_ret, if_pos (bN0.mpr q), chk_pos s0.m.1, g_fails s0, bnd_ret]
theorem iN_0le {b : Int} (h1 : -2147483648 ≤ b) (h2 : b < 2147483648) : (0 : Int32) ≤ iN b ↔ 0 ≤ b := by
  rw [show (0 : Int32) = iN 0 from rfl]
  exact iN_leO (by omega) (by omega) h1 h2
theorem o_guess {h : Hp} {D : Dt} (wd : WD D) (s : SL h) (c : CI h D) {x y : Int} (hx : InR x) (hy : InR y) : OpP h D (f_L_guess h 1 (iN x) (iN y) 656) (fun h1 => f_X9_guess h1 632 (iN x) (iN y)) := by
  have w := wd.1
  have t := c.1.1
  have k := c.1.2.1
  have h0 := w.1.1
  have hy' := hy
  unfold InR at hy'
  by_cases q : 0 ≤ x ∧ x ≤ 3
  · by_cases p : -1 ≤ y ∧ y ≤ D.1 0 - 1
    · have ref : ∀ h1, SL h1 → RM (putI h1 632 0 (iN 0)) 632 D.1 → SL (putI h1 632 0 (iN 0)) → ∃ h2, f_X9_guess h1 632 (iN x) (iN y) = some (h2, .inr (iN (if y = -1 then gsS D.1 x else gsF D.1 x y))) ∧ FZ (pX 632) (putI h1 632 0 (iN 0)) h2 := by
        intro h1 s1 rm s0
        obtain ⟨h2, e2, f2, v2⟩ := g_guessesAll w rm
        have s2 := s0.ly f2.1
        refine ⟨h2, ?_, f2.vx⟩
        unfold f_X9_guess f_X9_guess_L39
        rw [chk_pos s1.m.1, lt_is, g_in hx ⟨by omega, by omega⟩ ⟨by omega, by omega⟩, bnd_ret, if_neg (fun z => bN0.mp z q)]
        by_cases y1 : y = -1
        · rw [y1, if_pos (by decide), chk_pos s0.m.1, e2, bnd_ret, if_pos (by decide), chk_pos s2.m.1, g_guessed w (rm.v f2) v2.2.2.2 (by omega), bnd_ret, if_pos rfl]
        · rw [if_neg (neN y1 (by omega) (by omega) (by omega) (by omega)), chk_pos s0.m.1, g_isColumn rm w hy, bnd_ret, if_neg (fun z => bN0.mp z (by omega)), chk_pos s0.m.1, e2, bnd_ret, if_neg (neN y1 (by omega) (by omega) (by omega) (by omega)), chk_pos s2.m.1, s2.m.r26, chk_pos s2.m.o26, s2.m.w26, iN_mul, iN_add, ck_in (by omega) (by omega) (by omega), iN_cl (by omega) (by omega), v2.2.2.2 x y (by omega) (by omega) (by omega) (by omega), if_neg y1]
      refine OpP.a0 _ wd s c ?_ (fun h1 s1 r1 s0 rm => ref h1 s1 rm s0)
      unfold f_L_guess f_X8_guess
      rw [chk_pos s.o1, g_isW hx ⟨by omega, by omega⟩ ⟨by omega, by omega⟩, bnd_ret, g_rqA, if_pos q, bnd_ret, chk_pos s.o1, s.t0, chk_pos t.1.o, t.cs, iN_sub, g_isW hy ⟨by omega, by omega⟩ ⟨by omega, by omega⟩, bnd_ret, g_rqI, if_pos p, bnd_ret, s.t1]
      by_cases y1 : y = -1
      · rw [y1, if_neg (by decide), if_pos rfl, chk_pos s.o1, chk_pos s.k.o, s.k.r5, chk_pos s.k.o9, s.k.w9, ck_in (by omega) (by omega) (by omega), iN_cl (by omega) (by omega), k.2.2.2.2.1 x (by omega) (by omega), bndX_ret]
      · rw [if_pos ((iN_0le (by omega) (by omega)).mpr (by omega)), if_neg y1, chk_pos s.o1, chk_pos s.k.o, s.k.r4, chk_pos s.k.o4, s.k.w4, ck_in (by omega) (by omega) (by omega), s.k.gi (by omega), chk_pos (s.k.go (by omega)), s.k.gw (by omega), ck_in (by omega) (by omega) (by omega), iN_cl (by omega) (by omega), k.2.2.2.1 x.toNat (by omega) y (by omega) (by omega), Int.toNat_of_nonneg q.1, bndX_ret]
    · refine OpP.f0 2 (by omega) wd s c ?_ (fun h1 s1 r1 s0 rm => ?_)
      · unfold f_L_guess f_X8_guess
        rw [chk_pos s.o1, g_isW hx ⟨by omega, by omega⟩ ⟨by omega, by omega⟩, bnd_ret, g_rqA, if_pos q, bnd_ret, chk_pos s.o1, s.t0, chk_pos t.1.o, t.cs, iN_sub, g_isW hy ⟨by omega, by omega⟩ ⟨by omega, by omega⟩, bnd_ret, g_rqI, if_neg p, bnd_thr, bndX_thr, if_neg (by decide), if_pos rfl]
      · unfold f_X9_guess
        rw [chk_pos s1.m.1, lt_is, g_in hx ⟨by omega, by omega⟩ ⟨by omega, by omega⟩, bnd_ret, if_neg (fun z => bN0.mp z q), if_neg (neN (by omega) (by omega) (by omega) (by omega) (by omega)), chk_pos s0.m.1, g_isColumn rm w hy, bnd_ret, if_pos (bN0.mpr (by omega)), chk_pos s0.m.1, g_fails s0, bnd_ret]
  · refine OpP.f0 1 (by omega) wd s c ?_ (fun h1 s1 r1 s0 rm => ?_)
    · unfold f_L_guess f_X8_guess
      rw [chk_pos s.o1, g_isW hx ⟨by omega, by omega⟩ ⟨by omega, by omega⟩, bnd_ret, g_rqA, if_neg q, bnd_thr, bndX_thr, if_pos rfl]
    · unfold f_X9_guess
      rw [chk_pos s1.m.1, lt_is, g_in hx ⟨by omega, by omega⟩ ⟨by omega, by omega⟩, bnd_ret, if_pos (bN0.mpr q), chk_pos s0.m.1, g_fails s0, bnd_ret]
theorem o_autoWidth {h : Hp} {D : Dt} (wd : WD D) (s : SL h) (c : CI h D) {x : Int} (hx : InR x) : OpP h D (f_L_autoWidth h 1 (iN x) 656) (fun h1 => f_X9_autoWidth h1 632 (iN x)) := by
  have w := wd.1
  have t := c.1.1
  have k := c.1.2.1
  have h0 := w.1.1
  by_cases q : 0 ≤ x ∧ x ≤ D.1 0 - 1
  · by_cases p : gsS D.1 0 ≤ usF D.1
    · refine OpP.a0 (auF D.1 x) wd s c ?_ (fun h1 s1 r1 s0 rm => ?_)
      · unfold f_L_autoWidth f_X8_autoWidth
        rw [chk_pos s.o1, chk_pos s.o1, g_rqCol w s t hx, if_pos q, bnd_ret, chk_pos s.o1, g_autoW s k, if_pos p, bnd_ret, chk_pos s.k.o10, s.k.w10, ck_in (by omega) (by omega) (by omega), iN_cl (by omega) (by omega), k.2.2.2.2.2.1 x (by omega) (by omega), bndX_ret]
      · obtain ⟨h2, e2, f2, a2⟩ := g_laysOut w rm
        have s2 := s0.ly f2.1
        refine ⟨h2, ?_, f2.vx⟩
        unfold f_X9_autoWidth
        rw [chk_pos s1.m.1, lt_is, g_isColumn rm w hx, bnd_ret, if_neg (fun z => bN0.mp z q), chk_pos s0.m.1, e2, bnd_ret, if_neg (fun z => bN0.mp z p), chk_pos s2.m.1, s2.m.r27, chk_pos s2.m.o27, s2.m.w27, ck_in (by omega) (by omega) (by omega), iN_cl (by omega) (by omega), a2 p x (by omega) (by omega)]
    · refine OpP.f 2 (by omega) wd s c (fun _ _ _ => rfl) (Nat.le_refl _) (Nat.le_refl _) ?_ (fun h1 s1 r1 s0 rm => ?_)
      · unfold f_L_autoWidth f_X8_autoWidth
        rw [chk_pos s.o1, chk_pos s.o1, g_rqCol w s t hx, if_pos q, bnd_ret, chk_pos s.o1, g_autoW s k, if_neg p, bnd_thr, bndX_thr, if_neg (by decide), if_pos rfl]
      · obtain ⟨h2, e2, f2, a2⟩ := g_laysOut w rm
        have s2 := s0.ly f2.1
        refine ⟨h2, ?_, f2.vx⟩
        unfold f_X9_autoWidth
        rw [chk_pos s1.m.1, lt_is, g_isColumn rm w hx, bnd_ret, if_neg (fun z => bN0.mp z q), chk_pos s0.m.1, e2, bnd_ret, if_pos (bN0.mpr p), chk_pos s2.m.1, g_fails s2, bnd_ret]
  · refine OpP.f0 1 (by omega) wd s c ?_ (fun h1 s1 r1 s0 rm => ?_)
    · unfold f_L_autoWidth f_X8_autoWidth
      rw [chk_pos s.o1, chk_pos s.o1, g_rqCol w s t hx, if_neg q, bnd_thr, bndX_thr, if_pos rfl]
    · unfold f_X9_autoWidth
      rw [chk_pos s1.m.1, lt_is, g_isColumn rm w hx, bnd_ret, if_pos (bN0.mpr q), chk_pos s0.m.1, g_fails s0, bnd_ret]
theorem o_autoHeight {h : Hp} {D : Dt} (wd : WD D) (s : SL h) (c : CI h D) : OpP h D (f_L_autoHeight h 1 656) (fun h1 => f_X9_autoHeight h1 632) := by
  have w := wd.1
  have t := c.1.1
  have k := c.1.2.1
  by_cases p : gsS D.1 0 ≤ usF D.1
  · have gw := au_GW w p
    obtain ⟨h2, e2, f2, t2⟩ := g_heightOfAll t w gw (arr := 150 + 10) (by omega) s.k.o10 s.k.w10 k.2.2.2.2.2.1
    refine OpP.a (taH D.1 (auF D.1)) wd (s.ly f2.1) (c.h wd f2 t2) f2.h632 (by rw [f2.qc.1]; omega) (by rw [f2.qc.2]; omega) ?_ (fun h1 s1 r1 s0 rm => ?_)
    · unfold f_L_autoHeight f_X8_autoHeight
      rw [chk_pos s.o1, chk_pos s.o1, s.t0, chk_pos t.1.o, g_autoW s k, if_pos p, bnd_ret, chk_pos t.1.o, e2, bnd_ret, bndX_ret]
    · obtain ⟨h3, e3, f3, a3⟩ := g_laysOut w rm
      have s3 := s0.ly f3.1
      obtain ⟨h4, e4, f4⟩ := g_tableHigh (rm.v f3) w gw (arr := 632 + 18) (by omega) s3.m.o27 s3.m.w27 (a3 p)
      refine ⟨h4, ?_, f3.vx.tr f4.bx⟩
      unfold f_X9_autoHeight
      rw [chk_pos s1.m.1, lt_is, e3, bnd_ret, if_neg (fun z => bN0.mp z p), chk_pos s3.m.1, s3.m.r27, chk_pos s3.m.o27, e4, bnd_ret]
  · refine OpP.f 1 (by omega) wd s c (fun _ _ _ => rfl) (Nat.le_refl _) (Nat.le_refl _) ?_ (fun h1 s1 r1 s0 rm => ?_)
    · unfold f_L_autoHeight f_X8_autoHeight
      rw [chk_pos s.o1, chk_pos s.o1, s.t0, chk_pos t.1.o, g_autoW s k, if_neg p, bnd_thr, bndX_thr, if_pos rfl]
    · obtain ⟨h3, e3, f3, a3⟩ := g_laysOut w rm
      have s3 := s0.ly f3.1
      refine ⟨h3, ?_, f3.vx⟩
      unfold f_X9_autoHeight
      rw [chk_pos s1.m.1, lt_is, e3, bnd_ret, if_pos (bN0.mpr p), chk_pos s3.m.1, g_fails s3, bnd_ret]
theorem o_bestWidth {h : Hp} {D : Dt} (wd : WD D) (s : SL h) (c : CI h D) {x : Int} (hx : InR x) : OpP h D (f_L_bestWidth h 1 (iN x) 656) (fun h1 => f_X9_bestWidth h1 632 (iN x)) := by
  have w := wd.1
  have t := c.1.1
  have h0 := w.1.1
  have hm1 := w.1.2.1
  by_cases q : 0 ≤ x ∧ x ≤ D.1 0 - 1
  · obtain ⟨h2, e2, f2, t2, sm2, a2⟩ := g_bestW w s c.1
    have s2 := s.ly f2.1
    have c2 := c.s wd f2 t2 sm2
    by_cases p : 0 ≤ lhF D.1 1000000 (D.1 1)
    · rw [if_pos p] at e2
      refine OpP.a ((bsC D.1 1000000 (D.1 1)).2 x) wd s2 c2 f2.s632 (by rw [f2.qc.1]; omega) (by rw [f2.qc.2]; omega) ?_ (fun h1 s1 r1 s0 rm => ?_)
      · unfold f_L_bestWidth f_X8_bestWidth
        rw [chk_pos s.o1, chk_pos s.o1, g_rqCol w s t hx, if_pos q, bnd_ret, chk_pos s.o1, e2, bnd_ret, chk_pos (s2.u.lo (by omega)), s2.u.lw (by omega), ck_in (by omega) (by omega) (by omega), iN_cl (by omega) (by omega), a2 p x (by omega) (by omega), bndX_ret]
      · obtain ⟨h3, e3, f3, t3, a3⟩ := g_isBest w rm
        have s3 := s0.ly f3.1
        refine ⟨h3, ?_, f3⟩
        unfold f_X9_bestWidth
        rw [chk_pos s1.m.1, lt_is, g_isColumn rm w hx, bnd_ret, if_neg (fun z => bN0.mp z q), chk_pos s0.m.1, e3, bnd_ret, if_neg (fun z => bN0.mp z p), chk_pos s3.m.1, s3.m.r31, chk_pos s3.m.o31, s3.m.w31, ck_in (by omega) (by omega) (by omega), iN_cl (by omega) (by omega), (a3 p).2 x (by omega) (by omega)]
    · rw [if_neg p] at e2
      refine OpP.f 2 (by omega) wd s2 c2 f2.s632 (by rw [f2.qc.1]; omega) (by rw [f2.qc.2]; omega) ?_ (fun h1 s1 r1 s0 rm => ?_)
      · unfold f_L_bestWidth f_X8_bestWidth
        rw [chk_pos s.o1, chk_pos s.o1, g_rqCol w s t hx, if_pos q, bnd_ret, chk_pos s.o1, e2, bnd_thr, bndX_thr, if_neg (by decide), if_pos rfl]
      · obtain ⟨h3, e3, f3, t3, a3⟩ := g_isBest w rm
        have s3 := s0.ly f3.1
        refine ⟨h3, ?_, f3⟩
        unfold f_X9_bestWidth
        rw [chk_pos s1.m.1, lt_is, g_isColumn rm w hx, bnd_ret, if_neg (fun z => bN0.mp z q), chk_pos s0.m.1, e3, bnd_ret, if_pos (bN0.mpr p), chk_pos s3.m.1, g_fails s3, bnd_ret]
  · refine OpP.f0 1 (by omega) wd s c ?_ (fun h1 s1 r1 s0 rm => ?_)
    · unfold f_L_bestWidth f_X8_bestWidth
      rw [chk_pos s.o1, chk_pos s.o1, g_rqCol w s t hx, if_neg q, bnd_thr, bndX_thr, if_pos rfl]
    · unfold f_X9_bestWidth
      rw [chk_pos s1.m.1, lt_is, g_isColumn rm w hx, bnd_ret, if_pos (bN0.mpr q), chk_pos s0.m.1, g_fails s0, bnd_ret]
/-- the class's least height at x, with what stays -/
theorem g_leastW {h : Hp} {D : Dt} (wd : WD D) (s : SL h) (c : CI h D) {x : Int} (hx : 0 ≤ x ∧ x ≤ 36) : ∃ h2, f_X6_leastHeight h 162 (iN x) = some (h2, .inr (iN (lhF D.1 1000000 x))) ∧ FZ (pS 2 162) h h2 ∧ SL h2 ∧ CI h2 D := by
  obtain ⟨h2, e2, f2, t2, s2, a2⟩ := g_leastHeight wd.1 (L := 1000000) (x := x) (by omega) (by omega) s.u c.1.1 c.1.2.2
  exact ⟨h2, e2, f2, s.ly f2.1, c.s wd f2 t2 s2⟩
theorem g_rqS01 {h : Hp} {p : Prop} [Decidable p] : (p → f_X8_requireState h (iN 1) = some (h, .inr ())) ∧ f_X8_requireState h (iN 0) = some (bump h, .inl 0) := by
  constructor
  · intro _
    unfold f_X8_requireState
    rw [if_neg (by decide)]
  · unfold f_X8_requireState
    rw [if_pos (by decide)]
theorem g_rqS1 {h : Hp} : f_X8_requireState h (iN 1) = some (h, .inr ()) := by
  unfold f_X8_requireState
  rw [if_neg (by decide)]
theorem g_rqS0 {h : Hp} : f_X8_requireState h (iN 0) = some (bump h, .inl 0) := by
  unfold f_X8_requireState
  rw [if_pos (by decide)]
theorem g_rqE1 {h : Hp} : f_X8_requireElement h (iN 1) = some (h, .inr ()) := by
  unfold f_X8_requireElement
  rw [if_neg (by decide)]
theorem g_rqE0 {h : Hp} : f_X8_requireElement h (iN 0) = some (bump h, .inl 5) := by
  unfold f_X8_requireElement
  rw [if_pos (by decide)]
theorem o_bestHeight {h : Hp} {D : Dt} (wd : WD D) (s : SL h) (c : CI h D) : OpP h D (f_L_bestHeight h 1 656) (fun h1 => f_X9_bestHeight h1 632) := by
  have w := wd.1
  have t := c.1.1
  have hm1 := w.1.2.1
  have lb := lh_bd w (L := 1000000) (x := D.1 1) (by omega)
  obtain ⟨h2, e2, f2, s2, c2⟩ := g_leastW wd s c (x := D.1 1) (by omega)
  by_cases p : 0 ≤ lhF D.1 1000000 (D.1 1)
  · refine OpP.a (lhF D.1 1000000 (D.1 1)) wd s2 c2 f2.s632 (by rw [f2.qc.1]; omega) (by rw [f2.qc.2]; omega) ?_ (fun h1 s1 r1 s0 rm => ?_)
    · unfold f_L_bestHeight f_X8_bestHeight f_X8_bestHeight_L24
      rw [chk_pos s.o1, chk_pos s.o1, s.t2, chk_pos s.u.o, s.t0, chk_pos t.1.o, t.wd, e2, bnd_ret, if_neg (fun z => by have := (iN_lt0 (by omega) (by omega)).mp z; omega), g_rqS1, bnd_ret, bndX_ret]
    · obtain ⟨h3, e3, f3, t3, a3⟩ := g_isBest w rm
      have s3 := s0.ly f3.1
      refine ⟨h3, ?_, f3⟩
      unfold f_X9_bestHeight
      rw [chk_pos s1.m.1, lt_is, e3, bnd_ret, if_neg (fun z => bN0.mp z p), chk_pos s3.m.1, (a3 p).1]
  · refine OpP.f 1 (by omega) wd s2 c2 f2.s632 (by rw [f2.qc.1]; omega) (by rw [f2.qc.2]; omega) ?_ (fun h1 s1 r1 s0 rm => ?_)
    · unfold f_L_bestHeight f_X8_bestHeight f_X8_bestHeight_L24
      rw [chk_pos s.o1, chk_pos s.o1, s.t2, chk_pos s.u.o, s.t0, chk_pos t.1.o, t.wd, e2, bnd_ret, if_pos ((iN_lt0 (by omega) (by omega)).mpr (by omega)), g_rqS0, bnd_thr, bndX_thr, if_pos rfl]
    · obtain ⟨h3, e3, f3, t3, a3⟩ := g_isBest w rm
      have s3 := s0.ly f3.1
      refine ⟨h3, ?_, f3⟩
      unfold f_X9_bestHeight
      rw [chk_pos s1.m.1, lt_is, e3, bnd_ret, if_pos (bN0.mpr p), chk_pos s3.m.1, g_fails s3, bnd_ret]
