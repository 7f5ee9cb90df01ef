/-! ===== STAGE B: paste ===== -/
/-- the pasted block -/
def ptB (r c : Int) (b : Int → Int) (k : Int) : Int := if k = 0 then r else if k = 1 then c else if k = 2 then 1 else b k
theorem ptB_3 {r c k : Int} {b : Int → Int} (h : 3 ≤ k) : ptB r c b k = b k := by
  unfold ptB
  rw [if_neg (by omega), if_neg (by omega), if_neg (by omega)]
theorem g_ptL {m b : Int → Int} {r c P x y : Int} (h5 : 0 ≤ m 5 ∧ m 5 < 16) (hx : 0 ≤ x ∧ x ≤ 1) (hy : 0 ≤ y ∧ y ≤ 2) (hP : P = 3 * x + y) : ∀ (d k : Nat) (h : Hp) (n : Nat), k + d = 31 → d < n → 3 ≤ k → RM h 632 (fun j => if 10 + 31 * m 5 + 3 ≤ j ∧ j < 10 + 31 * m 5 + k then b (j - (10 + 31 * m 5)) else plN m (nwB r c 1 0) j) → (∀ z, 0 ≤ z → z < 31 → qI h 639 (31 * P + z).toNat = iN (b z)) →
    ∃ h2, f_X9_paste_L112 n h 632 (iN x) (iN y) (iN (m 5)) (iN k) = some (h2, .inr (iN (m 5))) ∧ FZ (fun x _ => x = 633) h h2 ∧ RM h2 632 (plN m (ptB r c b)) := by
  intro d
  induction d with
  | zero =>
    intro k h n hk hn hk3 rm A
    obtain ⟨n, rfl⟩ : ∃ z, n = z + 1 := ⟨n - 1, by omega⟩
    refine ⟨h, ?_, FZ.rf, rm.1, rm.2.cg (fun j h1 h2 => ?_)⟩
    · show f_X9_paste_B112 (f_X9_paste_L112 n) h 632 (iN x) (iN y) (iN (m 5)) (iN k) = _
      unfold f_X9_paste_B112
      rw [if_pos (yleN (by omega) (by omega) (by omega))]
    · unfold plN ptB nwB
      rw [show (k : Int) = 31 by omega]
      by_cases e : 10 + 31 * m 5 ≤ j ∧ j < 10 + 31 * m 5 + 31
      · rw [if_pos e, if_pos e]
        by_cases e2 : 10 + 31 * m 5 + 3 ≤ j
        · rw [if_pos (by omega), if_neg (show ¬ j - (10 + 31 * m 5) = 0 by omega), if_neg (show ¬ j - (10 + 31 * m 5) = 1 by omega), if_neg (show ¬ j - (10 + 31 * m 5) = 2 by omega)]
        · rw [if_neg (show ¬ (10 + 31 * m 5 + 3 ≤ j ∧ j < 10 + 31 * m 5 + 31) by omega)]
          repeat' split
          all_goals first | rfl | omega
      · rw [if_neg e, if_neg e, if_neg (show ¬ (10 + 31 * m 5 + 3 ≤ j ∧ j < 10 + 31 * m 5 + 31) by omega)]
  | succ d ih =>
    intro k h n hk hn hk3 rm A
    obtain ⟨n, rfl⟩ : ∃ z, n = z + 1 := ⟨n - 1, by omega⟩
    have r1 := rm.up (k := 10 + 31 * m 5 + (k : Int)) (v := b k) (by omega)
    obtain ⟨h4, e4, f4, r4⟩ := ih (k + 1) _ n (by omega) (by omega) (by omega) ⟨r1.1, r1.2.cg (fun j h1 h2 => by
      unfold up
      dsimp only
      by_cases e : j = 10 + 31 * m 5 + (k : Int)
      · rw [if_pos e, if_pos (show 10 + 31 * m 5 + 3 ≤ j ∧ j < 10 + 31 * m 5 + ((k + 1 : Nat) : Int) by omega), show j - (10 + 31 * m 5) = k by omega]
      · rw [if_neg e]
        by_cases e2 : 10 + 31 * m 5 + 3 ≤ j ∧ j < 10 + 31 * m 5 + (k : Int)
        · rw [if_pos e2, if_pos (show 10 + 31 * m 5 + 3 ≤ j ∧ j < 10 + 31 * m 5 + ((k + 1 : Nat) : Int) by omega)]
        · rw [if_neg e2, if_neg (show ¬ (10 + 31 * m 5 + 3 ≤ j ∧ j < 10 + 31 * m 5 + ((k + 1 : Nat) : Int)) by omega)])⟩ (fun z z1 z2 => by rw [rd_ne (by omega)]; exact A z z1 z2)
    refine ⟨h4, ?_, (FZ.pI (P := fun x _ => x = 633) rfl).tr f4, r4⟩
    show f_X9_paste_B112 (f_X9_paste_L112 n) h 632 (iN x) (iN y) (iN (m 5)) (iN k) = _
    have ak := A k (by omega) (by omega)
    rw [hP] at ak
    unfold f_X9_paste_B112
    rw [if_neg (nleN (by omega) (by omega) (by omega)), chk_pos rm.1.1, rm.1.r1, chk_pos rm.1.o1, rm.1.r10, chk_pos rm.1.o10, rm.1.w10, rm.1.w1]
    simp only [iN_mul, iN_add]
    rw [ck_in (by omega) (by omega) (by omega), ck_in (by omega) (by omega) (by omega), lt_is, iN_cl (z := 10 + 31 * m 5 + (k : Int)) (by omega) (by omega), iN_cl (z := 31 * (3 * x + y) + (k : Int)) (by omega) (by omega), show qI h (632 + 7) (31 * (3 * x + y) + (k : Int)).toNat = iN (b k) from ak]
    exact e4
theorem o_paste {h : Hp} {D : Dt} (wd : WD D) (s : SL h) (c : CI h D) {x y u v : Int} (hx : InR x) (hy : InR y) (hu : InR u) (hv : InR v) : OpP h D (f_L_paste h 1 (iN x) (iN y) (iN u) (iN v) 656) (fun h1 => f_X9_paste h1 632 (iN x) (iN y) (iN u) (iN v)) := by
  have w := wd.1
  have t := c.1.1
  have h0 := w.1.1
  have h4 := w.1.2.2.2.2.1
  have h5 := w.1.2.2.2.2.2
  by_cases q1 : 0 ≤ x ∧ x ≤ 1
  · by_cases q2 : 0 ≤ u ∧ u ≤ D.1 4 - 1
    · by_cases q3 : 0 ≤ v ∧ v ≤ D.1 0 - 1
      · have hp := s.cp q1
        have cp : CPc h (577 + 27 * x.toNat) (rK D.2 x) (rZ D.2 x) (fun p => rF D.2 (3 * x + p)) (fun p => clB D.2 (3 * x + p)) := by
          have := c.2.2.2.2 x.toNat (by omega)
          rw [Int.toNat_of_nonneg q1.1] at this
          exact this
        have wk := wd.2.2.2.2.2.1 x q1.1 (by omega)
        by_cases q4 : 0 ≤ y ∧ y ≤ rZ D.2 x - 1
        · have fl : qI h (578 + 27 * x.toNat) y.toNat = iN (if rF D.2 (3 * x + y) = true then 1 else 0) := by
            have := cp.2.2.2.1 y (by omega) (by omega)
            rw [show 577 + 27 * x.toNat + 1 = 578 + 27 * x.toNat by omega] at this
            exact this
          have fl9 : ∀ {h1}, RI (putI h1 632 0 (iN 0)) D → qI (putI h1 632 0 (iN 0)) (632 + 8) (3 * x + y).toNat = iN (if rF D.2 (3 * x + y) = true then 1 else 0) := fun r0 => r0.2.2.2.2.2.2.2 (3 * x + y) (by omega) (by omega)
          by_cases q5 : rF D.2 (3 * x + y) = true
          · have wb : WB (clB D.2 (3 * x + y)) := wd.2.2.2.2.2.2 _ (by omega) (by omega) q5
            have wb2 : WB (ptB u v (clB D.2 (3 * x + y))) := wb.cg3 (fun k k1 k2 => ptB_3 k1)
            obtain ⟨g, eg, hg⟩ := g_hasRoom w (r := u) (c := v) (s := 1) (by omega) (by omega) (by omega) t
            by_cases p : g = true
            · obtain ⟨m16, dj⟩ := hg.mp p
              have b0 : ptB u v (clB D.2 (3 * x + y)) 0 = u := rfl
              have b1 : ptB u v (clB D.2 (3 * x + y)) 1 = v := rfl
              have b2 : ptB u v (clB D.2 (3 * x + y)) 2 = 1 := rfl
              have wf : WF (plN D.1 (ptB u v (clB D.2 (3 * x + y)))) := WF_pl w m16 ⟨by rw [b0]; omega, by rw [b1]; omega, by rw [b2]; omega, by rw [b1, b2]; omega⟩ wb2 dj
              have ec : cA (plH h 2 D.1 u v 1) 2 (D.1 5) = cA h 2 (D.1 5) := cA_ly plH_ly
              have lb := cA_149 t (i := D.1 5) (by omega)
              have lc : LC (plH h 2 D.1 u v 1) (cA h 2 (D.1 5) + 1) := by rw [← ec]; exact (t.1.ly plH_ly).cl (by omega)
              have sp := s.ly (plH_ly (T := 2) (m := D.1) (r := u) (c := v) (sp := 1))
              have hq := sp.cp q1
              obtain ⟨pr, pl⟩ := hq.2.2.2.2.2.2.2.2 y.toNat (by omega)
              have co : HC (plH h 2 D.1 u v 1) (580 + 27 * x.toNat + 8 * y.toNat) (clB D.2 (3 * x + y)) := by
                have := cp.2.2.2.2 y q4.1 (by omega) q5
                rw [show 577 + 27 * x.toNat + 3 + 8 * y.toNat = 580 + 27 * x.toNat + 8 * y.toNat by omega] at this
                refine this.cg (fun z j z1 z2 _ => ?_)
                unfold plH
                rw [rd_ne (by omega), rd_ne (by omega), rd_ne (by omega), rd_ne (by omega)]
              obtain ⟨h2, e2, f2, c2⟩ := g_copyC (q := cA h 2 (D.1 5) + 1) (qo := 580 + 27 * x.toNat + 8 * y.toNat) (by omega) wb lc pl co
              have md := Mid.pl (b := ptB u v (clB D.2 (3 * x + y))) wd s c m16 wb2 f2 (c2.cg3 wb (fun k k1 k2 => ptB_3 k1))
              obtain ⟨h3, e3, fn, fc⟩ := md.fin wf wd.2
              have t3 : TM h3 2 (plN D.1 (ptB u v (clB D.2 (3 * x + y)))) := fn.2.1.1.1
              refine OpP.M (D.1 5) wf wd fn ?_ (fun h1 s1 r1 s0 rm => ?_)
              · unfold f_L_paste f_X8_paste
                rw [chk_pos s.o1, g_isW hx ⟨(by omega), (by omega)⟩ ⟨(by omega), (by omega)⟩, bnd_ret, g_rqI, if_pos q1, bnd_ret, chk_pos s.o1, g_rqRow w s t hu, if_pos q2, bnd_ret, chk_pos s.o1, g_rqCol w s t hv, if_pos q3, bnd_ret, chk_pos s.o1, s.cc q1, s.ca q1, cp.2.2.1, iN_sub, g_isW hy ⟨(by omega), (by omega)⟩ ⟨(by omega), (by omega)⟩, bnd_ret, if_neg (fun z => bN0.mp z q4), chk_pos hp.2.1, hp.2.2.1, chk_pos hp.2.2.2.2.1, hp.2.2.2.2.2.1, ck_in (by omega) (by omega) (by omega), iN_cl (z := y) (by omega) (by omega), fl, if_neg (by rw [if_pos q5]; decide)]
                unfold f_X8_paste_L58
                rw [g_rqE1, bnd_ret, chk_pos s.o1, s.t0, chk_pos t.1.o, eg, bnd_ret, g_rqS, if_pos p, bnd_ret, chk_pos s.o1, s.t0, chk_pos t.1.o, g_place t w m16, bnd_ret, chk_pos hq.2.1, hq.2.2.2.1, chk_pos hq.2.2.2.2.2.2.1, hq.2.2.2.2.2.2.2.1, ck_in (by omega) (by omega) (by omega), iN_cl (z := y) (by omega) (by omega), pr, chk_pos pl.1, chk_pos lc.1, e2, bnd_ret, chk_pos md.1.o1, e3, bnd_ret, chk_pos fn.1.o1, fn.1.t0, chk_pos t3.1.o, t3.ns, plN_5 h5.1, iN_sub, bndX_ret, show D.1 5 + 1 - 1 = D.1 5 by omega]
              · have r0 := (ref0 s1 r1).2.1
                have fl9 := fl9 r0
                obtain ⟨g2, eg2, hg2⟩ := g_isFree9 rm w (r := u) (c := v) (s := 1) hu (by omega) (by omega)
                obtain ⟨h6, e6, f6, r6⟩ := g_adds rm (r := u) (c := v) (sp := 1) (kd := 0) (by omega)
                obtain ⟨h7, e7, f7, r7⟩ := g_ptL (b := clB D.2 (3 * x + y)) (r := u) (c := v) (x := x) (y := y) ⟨h5.1, m16⟩ q1 (by omega) rfl 28 3 h6 2000 (by omega) (by omega) (by omega) ⟨r6.1, r6.2.cg (fun j j1 j2 => by rw [if_neg (by omega)])⟩ (fun z z1 z2 => (f6.2 _ _ (by omega)).trans (r0.2.2.2.2.2.2.1 _ (by omega) (by omega)))
                have e7' : f_X9_paste_L112 2000 h6 632 (iN x) (iN y) (iN (D.1 5)) (iN 3) = some (h7, .inr (iN (D.1 5))) := e7
                refine ⟨h7, ?_, (f6.tr f7).mo (fun z j y => Or.inl y), r7.2⟩
                unfold f_X9_paste
                rw [chk_pos s1.m.1, lt_is, g_isClip hx, bnd_ret, if_neg (fun z => bN0.mp z q1), chk_pos s0.m.1, g_isRow rm w hu, bnd_ret, if_neg (fun z => bN0.mp z q2), chk_pos s0.m.1, g_isColumn rm w hv, bnd_ret, if_neg (fun z => bN0.mp z q3), chk_pos s0.m.1, s0.m.r9, chk_pos s0.m.o9, s0.m.w9, ck_in (by omega) (by omega) (by omega), iN_cl (z := x) (by omega) (by omega), r0.2.2.2.2.2.1 x (by omega) (by omega), iN_sub, g_in hy ⟨(by omega), (by omega)⟩ ⟨(by omega), (by omega)⟩, bnd_ret, if_neg (fun z => bN0.mp z q4), chk_pos s0.m.1, s0.m.r11, chk_pos s0.m.o11, s0.m.w11, iN_mul, iN_add, ck_in (by omega) (by omega) (by omega), iN_cl (z := 3 * x + y) (by omega) (by omega), fl9, if_neg (by rw [if_pos q5]; decide), s0.m.r1, chk_pos s0.m.o1, s0.m.w1, ck_in (by omega) (by omega) (by omega), g_rd rm (by omega) (by omega), if_neg (neN (by omega) (by omega) (by omega) (by omega) (by omega)), eg2, bnd_ret, if_neg (fun z => bN0.mp z (hg2.mpr dj)), chk_pos s0.m.1, e6, bnd_ret, e7']
            · refine OpP.f0 3 (by omega) wd s c ?_ (fun h1 s1 r1 s0 rm => ?_)
              · unfold f_L_paste f_X8_paste
                rw [chk_pos s.o1, g_isW hx ⟨(by omega), (by omega)⟩ ⟨(by omega), (by omega)⟩, bnd_ret, g_rqI, if_pos q1, bnd_ret, chk_pos s.o1, g_rqRow w s t hu, if_pos q2, bnd_ret, chk_pos s.o1, g_rqCol w s t hv, if_pos q3, bnd_ret, chk_pos s.o1, s.cc q1, s.ca q1, cp.2.2.1, iN_sub, g_isW hy ⟨(by omega), (by omega)⟩ ⟨(by omega), (by omega)⟩, bnd_ret, if_neg (fun z => bN0.mp z q4), chk_pos hp.2.1, hp.2.2.1, chk_pos hp.2.2.2.2.1, hp.2.2.2.2.2.1, ck_in (by omega) (by omega) (by omega), iN_cl (z := y) (by omega) (by omega), fl, if_neg (by rw [if_pos q5]; decide)]
                unfold f_X8_paste_L58
                rw [g_rqE1, bnd_ret, chk_pos s.o1, s.t0, chk_pos t.1.o, eg, bnd_ret, g_rqS, if_neg p, bnd_thr, bndX_thr, if_neg (by decide), if_neg (by decide), if_pos rfl]
              · have r0 := (ref0 s1 r1).2.1
                have fl9 := fl9 r0
                obtain ⟨g2, eg2, hg2⟩ := g_isFree9 rm w (r := u) (c := v) (s := 1) hu (by omega) (by omega)
                unfold f_X9_paste f_X9_paste_L92
                rw [chk_pos s1.m.1, lt_is, g_isClip hx, bnd_ret, if_neg (fun z => bN0.mp z q1), chk_pos s0.m.1, g_isRow rm w hu, bnd_ret, if_neg (fun z => bN0.mp z q2), chk_pos s0.m.1, g_isColumn rm w hv, bnd_ret, if_neg (fun z => bN0.mp z q3), chk_pos s0.m.1, s0.m.r9, chk_pos s0.m.o9, s0.m.w9, ck_in (by omega) (by omega) (by omega), iN_cl (z := x) (by omega) (by omega), r0.2.2.2.2.2.1 x (by omega) (by omega), iN_sub, g_in hy ⟨(by omega), (by omega)⟩ ⟨(by omega), (by omega)⟩, bnd_ret, if_neg (fun z => bN0.mp z q4), chk_pos s0.m.1, s0.m.r11, chk_pos s0.m.o11, s0.m.w11, iN_mul, iN_add, ck_in (by omega) (by omega) (by omega), iN_cl (z := 3 * x + y) (by omega) (by omega), fl9, if_neg (by rw [if_pos q5]; decide), s0.m.r1, chk_pos s0.m.o1, s0.m.w1, ck_in (by omega) (by omega) (by omega), g_rd rm (by omega) (by omega)]
                by_cases z : D.1 5 = 16
                · rw [if_pos (by rw [z]), chk_pos s0.m.1, g_fails s0, bnd_ret]
                · rw [if_neg (neN z (by omega) (by omega) (by omega) (by omega)), eg2, bnd_ret, if_pos (bN0.mpr (fun z2 => p (hg.mpr ⟨(by omega), hg2.mp z2⟩))), chk_pos s0.m.1, g_fails s0, bnd_ret]
          · refine OpP.f0 2 (by omega) wd s c ?_ (fun h1 s1 r1 s0 rm => ?_)
            · unfold f_L_paste f_X8_paste
              rw [chk_pos s.o1, g_isW hx ⟨(by omega), (by omega)⟩ ⟨(by omega), (by omega)⟩, bnd_ret, g_rqI, if_pos q1, bnd_ret, chk_pos s.o1, g_rqRow w s t hu, if_pos q2, bnd_ret, chk_pos s.o1, g_rqCol w s t hv, if_pos q3, bnd_ret, chk_pos s.o1, s.cc q1, s.ca q1, cp.2.2.1, iN_sub, g_isW hy ⟨(by omega), (by omega)⟩ ⟨(by omega), (by omega)⟩, bnd_ret, if_neg (fun z => bN0.mp z q4), chk_pos hp.2.1, hp.2.2.1, chk_pos hp.2.2.2.2.1, hp.2.2.2.2.2.1, ck_in (by omega) (by omega) (by omega), iN_cl (z := y) (by omega) (by omega), fl, if_pos (by rw [if_neg q5]; decide)]
              unfold f_X8_paste_L57 f_X8_paste_L58
              rw [g_rqE0, bnd_thr, bndX_thr, if_neg (by decide), if_pos rfl]
            · have r0 := (ref0 s1 r1).2.1
              have fl9 := fl9 r0
              unfold f_X9_paste f_X9_paste_L64
              rw [chk_pos s1.m.1, lt_is, g_isClip hx, bnd_ret, if_neg (fun z => bN0.mp z q1), chk_pos s0.m.1, g_isRow rm w hu, bnd_ret, if_neg (fun z => bN0.mp z q2), chk_pos s0.m.1, g_isColumn rm w hv, bnd_ret, if_neg (fun z => bN0.mp z q3), chk_pos s0.m.1, s0.m.r9, chk_pos s0.m.o9, s0.m.w9, ck_in (by omega) (by omega) (by omega), iN_cl (z := x) (by omega) (by omega), r0.2.2.2.2.2.1 x (by omega) (by omega), iN_sub, g_in hy ⟨(by omega), (by omega)⟩ ⟨(by omega), (by omega)⟩, bnd_ret, if_neg (fun z => bN0.mp z q4), chk_pos s0.m.1, s0.m.r11, chk_pos s0.m.o11, s0.m.w11, iN_mul, iN_add, ck_in (by omega) (by omega) (by omega), iN_cl (z := 3 * x + y) (by omega) (by omega), fl9, if_pos (by rw [if_neg q5]; decide), chk_pos s0.m.1, g_fails s0, bnd_ret]
        · refine OpP.f0 2 (by omega) wd s c ?_ (fun h1 s1 r1 s0 rm => ?_)
          · unfold f_L_paste f_X8_paste
            rw [chk_pos s.o1, g_isW hx ⟨(by omega), (by omega)⟩ ⟨(by omega), (by omega)⟩, bnd_ret, g_rqI, if_pos q1, bnd_ret, chk_pos s.o1, g_rqRow w s t hu, if_pos q2, bnd_ret, chk_pos s.o1, g_rqCol w s t hv, if_pos q3, bnd_ret, chk_pos s.o1, s.cc q1, s.ca q1, cp.2.2.1, iN_sub, g_isW hy ⟨(by omega), (by omega)⟩ ⟨(by omega), (by omega)⟩, bnd_ret, if_pos (bN0.mpr q4)]
            unfold f_X8_paste_L57 f_X8_paste_L58
            rw [g_rqE0, bnd_thr, bndX_thr, if_neg (by decide), if_pos rfl]
          · have r0 := (ref0 s1 r1).2.1
            unfold f_X9_paste f_X9_paste_L64
            rw [chk_pos s1.m.1, lt_is, g_isClip hx, bnd_ret, if_neg (fun z => bN0.mp z q1), chk_pos s0.m.1, g_isRow rm w hu, bnd_ret, if_neg (fun z => bN0.mp z q2), chk_pos s0.m.1, g_isColumn rm w hv, bnd_ret, if_neg (fun z => bN0.mp z q3), chk_pos s0.m.1, s0.m.r9, chk_pos s0.m.o9, s0.m.w9, ck_in (by omega) (by omega) (by omega), iN_cl (z := x) (by omega) (by omega), r0.2.2.2.2.2.1 x (by omega) (by omega), iN_sub, g_in hy ⟨(by omega), (by omega)⟩ ⟨(by omega), (by omega)⟩, bnd_ret, if_pos (bN0.mpr q4), chk_pos s0.m.1, g_fails s0, bnd_ret]
      · refine OpP.f0 1 (by omega) wd s c ?_ (fun h1 s1 r1 s0 rm => ?_)
        · unfold f_L_paste f_X8_paste
          rw [chk_pos s.o1, g_isW hx ⟨(by omega), (by omega)⟩ ⟨(by omega), (by omega)⟩, bnd_ret, g_rqI, if_pos q1, bnd_ret, chk_pos s.o1, g_rqRow w s t hu, if_pos q2, bnd_ret, chk_pos s.o1, g_rqCol w s t hv, if_neg q3, bnd_thr, bndX_thr, if_pos rfl]
        · unfold f_X9_paste f_X9_paste_L29
          rw [chk_pos s1.m.1, lt_is, g_isClip hx, bnd_ret, if_neg (fun z => bN0.mp z q1), chk_pos s0.m.1, g_isRow rm w hu, bnd_ret, if_neg (fun z => bN0.mp z q2), chk_pos s0.m.1, g_isColumn rm w hv, bnd_ret, if_pos (bN0.mpr q3), chk_pos s0.m.1, g_fails s0, bnd_ret]
    · refine OpP.f0 1 (by omega) wd s c ?_ (fun h1 s1 r1 s0 rm => ?_)
      · unfold f_L_paste f_X8_paste
        rw [chk_pos s.o1, g_isW hx ⟨(by omega), (by omega)⟩ ⟨(by omega), (by omega)⟩, bnd_ret, g_rqI, if_pos q1, bnd_ret, chk_pos s.o1, g_rqRow w s t hu, if_neg q2, bnd_thr, bndX_thr, if_pos rfl]
      · unfold f_X9_paste f_X9_paste_L29
        rw [chk_pos s1.m.1, lt_is, g_isClip hx, bnd_ret, if_neg (fun z => bN0.mp z q1), chk_pos s0.m.1, g_isRow rm w hu, bnd_ret, if_pos (bN0.mpr q2), chk_pos s0.m.1, g_fails s0, bnd_ret]
  · refine OpP.f0 1 (by omega) wd s c ?_ (fun h1 s1 r1 s0 rm => ?_)
    · unfold f_L_paste f_X8_paste
      rw [chk_pos s.o1, g_isW hx ⟨(by omega), (by omega)⟩ ⟨(by omega), (by omega)⟩, bnd_ret, g_rqI, if_neg q1, bnd_thr, bndX_thr, if_pos rfl]
    · unfold f_X9_paste f_X9_paste_L29
      rw [chk_pos s1.m.1, lt_is, g_isClip hx, bnd_ret, if_pos (bN0.mpr q1), chk_pos s0.m.1, g_fails s0, bnd_ret]
