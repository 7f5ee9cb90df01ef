/-! ===== STAGE B: calls that change a content: clearWords, setSize, setKind, addWord ===== -/
/-- n is m but in block i behind its place -/
def Ag (m n : Int → Int) (i : Int) : Prop := ∀ j, ¬ (10 + 31 * i + 3 ≤ j ∧ j < 10 + 31 * i + 31) → n j = m j
theorem Ag.ob {m n : Int → Int} {i k x : Int} (a : Ag m n i) (hk : k ≠ i) (hx : 0 ≤ x ∧ x < 31) : blk n k x = blk m k x := a _ (by omega)
theorem Ag.lo {m n : Int → Int} {i x : Int} (a : Ag m n i) (hx : 0 ≤ x ∧ x < 3) : blk n i x = blk m i x := a _ (by omega)
theorem Ag.hd {m n : Int → Int} {i j : Int} (a : Ag m n i) (hi : 0 ≤ i) (hj : j < 10) : n j = m j := a _ (by omega)
theorem WF_ct {m n : Int → Int} (w : WF m) {i : Int} (hi : 0 ≤ i ∧ i < m 5) (a : Ag m n i) (wb : WB (blk n i)) : WF n := by
  have hd : ∀ {j}, j < 10 → n j = m j := fun hj => a.hd hi.1 hj
  have lo : ∀ k x, 0 ≤ x → x < 3 → blk n k x = blk m k x := fun k x h1 h2 => by
    by_cases e : k = i
    · rw [e]; exact a.lo ⟨h1, h2⟩
    · exact a.ob e ⟨h1, by omega⟩
  refine ⟨by rw [hd (by omega), hd (by omega), hd (by omega), hd (by omega), hd (by omega), hd (by omega)]; exact w.1, fun c h1 h2 => by rw [hd (by omega)]; exact w.2.1 c h1 h2, fun k h1 h2 => ?_, fun k j h1 h2 h3 h4 => ?_⟩
  · rw [hd (by omega)] at h2
    have w1 := w.2.2.1 k h1 h2
    refine ⟨?_, ?_⟩
    · have w2 := w1.1
      unfold CO at *
      rw [lo k 0 (by omega) (by omega), lo k 1 (by omega) (by omega), lo k 2 (by omega) (by omega), hd (by omega), hd (by omega)]
      exact w2
    · by_cases e : k = i
      · rw [e]; exact wb
      · exact w1.2.cg (fun x x1 x2 => a.ob e ⟨x1, x2⟩)
  · rw [hd (by omega)] at h3
    rw [lo k 0 (by omega) (by omega), lo j 0 (by omega) (by omega)] at h4
    rw [lo k 1 (by omega) (by omega), lo j 1 (by omega) (by omega), lo k 2 (by omega) (by omega), lo j 2 (by omega) (by omega)]
    exact w.2.2.2 k j h1 h2 h3 h4
theorem TM_ct {h h2 : Hp} {T : Nat} {m n : Int → Int} (t : TM h T m) (w : WF m) {i : Int} (hi : 0 ≤ i ∧ i < m 5) (a : Ag m n i) (f : FZ (pK (cA h T i + 1)) h h2) (c : HC h2 (cA h T i + 1) (blk n i)) : TM h2 T n := by
  have hd : ∀ {j}, j < 10 → n j = m j := fun hj => a.hd hi.1 hj
  have h16 := w.1.2.2.2.2.2
  obtain ⟨k0, hk0, ek0⟩ := t.1.at (i := i) (by omega)
  have rd : ∀ x j, (x < T + 4 ∨ T + 148 ≤ x) → qI h2 x j = qI h x j := fun x j hx => f.2 x j (fun z => by unfold pK at z; omega)
  refine ⟨t.1.ly f.1, ?_, fun k h1 h2 => by rw [rd _ _ (by omega)]; show _ = iN (tyS (n (6 + k))); rw [hd (by omega)]; exact t.ty k h1 h2, fun k h1 h2 => by rw [rd _ _ (by omega)]; show _ = iN (vaS (n (6 + k))); rw [hd (by omega)]; exact t.va k h1 h2, fun k h1 hk => ?_⟩
  · rw [rd T 0 (by omega), rd T 1 (by omega), rd T 2 (by omega), rd T 3 (by omega), rd T 4 (by omega), rd T 5 (by omega), hd (by omega), hd (by omega), hd (by omega), hd (by omega), hd (by omega), hd (by omega)]
    exact ⟨t.wd, t.gp, t.pd, t.cs, t.rs, t.ns⟩
  · rw [hd (by omega)] at hk
    have cc := t.cc h1 hk
    rw [cA_ly f.1]
    by_cases e : k = i
    · subst e
      refine ⟨?_, c⟩
      have ne : ∀ j, qI h2 (cA h T k) j = qI h (cA h T k) j := fun j => f.2 _ _ (fun z => by unfold pK at z; omega)
      rw [ne, ne, ne, a.lo (by omega), a.lo (by omega), a.lo (by omega)]
      exact cc.1
    · obtain ⟨k1, hk1, ek1⟩ := t.1.at (i := k) (by omega)
      have hne : k1 ≠ k0 := fun z => e (t.1.inj (i := k) (j := i) (by omega) (by omega) (by rw [ek1, ek0, z]))
      exact (cc.cg (fun x j x1 x2 _ => f.2 x j (fun z => by unfold pK at z; omega))).bk (w.2.2.1 k h1 hk).2 (fun x x1 x2 => a.ob e ⟨x1, x2⟩)
/-- where a cell's content lies -/
theorem cA_149 {h : Hp} {m : Int → Int} (t : TM h 2 m) {i : Int} (hi : 0 ≤ i ∧ i < 16) : 6 ≤ cA h 2 i ∧ cA h 2 i + 8 ≤ 149 := by
  obtain ⟨k0, hk0, ek0⟩ := t.1.at hi
  omega
theorem Mid.ct {h h2 : Hp} {D : Dt} {n : Int → Int} (wd : WD D) (s : SL h) (c : CI h D) {i : Int} (hi : 0 ≤ i ∧ i < D.1 5) (a : Ag D.1 n i) (f : FZ (pK (cA h 2 i + 1)) h h2) (ch : HC h2 (cA h 2 i + 1) (blk n i)) : Mid h h2 D.2 n := by
  have h16 := wd.1.1.2.2.2.2.2
  have b := cA_149 c.1.1 (i := i) (by omega)
  exact Mid.of wd s c (f.mo (fun x j z => by unfold pK at z; omega)) (TM_ct c.1.1 wd.1 hi a f ch)
theorem up_blk {m : Int → Int} {i k v x : Int} : blk (up m (10 + 31 * i + k) v) i x = if x = k then v else blk m i x := by
  unfold blk up
  by_cases e : x = k
  · rw [if_pos e, if_pos (by omega)]
  · rw [if_neg e, if_neg (by omega)]
theorem up_ag {m : Int → Int} {i k v : Int} (hk : 3 ≤ k ∧ k < 31) : Ag m (up m (10 + 31 * i + k) v) i := fun j hj => up_ne (by omega)
theorem Ag.tr {m n p : Int → Int} {i : Int} (a : Ag m n i) (b : Ag n p i) : Ag m p i := fun j hj => (b j hj).trans (a j hj)
theorem o_clearWords {h : Hp} {D : Dt} (wd : WD D) (s : SL h) (c : CI h D) {x : Int} (hx : InR x) : OpP h D (f_L_clearWords h 1 (iN x) 656) (fun h1 => f_X9_clearWords h1 632 (iN x)) := by
  have w := wd.1
  have t := c.1.1
  have h5 := w.1.2.2.2.2.2
  by_cases q : 0 ≤ x ∧ x ≤ D.1 5 - 1
  · have hx3 : 0 ≤ x ∧ x < D.1 5 := by omega
    have hx2 : 0 ≤ x ∧ x < 16 := by omega
    have wb := (w.2.2.1 x hx3.1 hx3.2).2
    have cc := t.cc hx3.1 hx3.2
    by_cases q3 : blk D.1 x 3 ≤ 3
    · have ag : Ag D.1 (up D.1 (10 + 31 * x + 4) 0) x := up_ag (by omega)
      have b3 : blk (up D.1 (10 + 31 * x + 4) 0) x 3 = blk D.1 x 3 := by rw [up_blk, if_neg (by omega)]
      have b4 : blk (up D.1 (10 + 31 * x + 4) 0) x 4 = 0 := by rw [up_blk, if_pos rfl]
      have b5 : blk (up D.1 (10 + 31 * x + 4) 0) x 5 = blk D.1 x 5 := by rw [up_blk, if_neg (by omega)]
      have b6 : blk (up D.1 (10 + 31 * x + 4) 0) x 6 = blk D.1 x 6 := by rw [up_blk, if_neg (by omega)]
      have b56 := wb.2.2.2.2.2.2 q3
      have wn : WB (blk (up D.1 (10 + 31 * x + 4) 0) x) := ⟨by rw [b3]; exact wb.1, by rw [b4]; omega, by rw [b5]; exact wb.2.2.1, by rw [b6]; exact wb.2.2.2.1, fun k h1 h2 => by rw [b4] at h2; omega, fun _ => b4, fun _ => by rw [b5, b6]; exact b56⟩
      have wf := WF_ct w hx3 ag wn
      obtain ⟨h2, e2, f2, c2⟩ := g_begin (t.1.cl hx2) wn b4 (by rw [b5]; exact b56.1) (by rw [b6]; exact b56.2)
      rw [b3] at e2
      have md := Mid.ct wd s c hx3 ag f2 c2
      obtain ⟨h3, e3, fn, fc⟩ := md.fin wf wd.2
      refine OpP.M (blk D.1 x 4) wf wd fn ?_ (fun h1 s1 r1 s0 rm => ?_)
      · unfold f_L_clearWords f_X8_clearWords
        rw [chk_pos s.o1, chk_pos s.o1, g_textOf w s t hx, if_pos q, if_pos q3, bnd_ret, chk_pos (t.1.cl hx2).1, cc.2.1.1, e2, bnd_ret, chk_pos md.1.o1, e3, bnd_ret, bndX_ret, HW_3 cc.2.2.1 wb.2.1.1]
      · refine ⟨putI (putI h1 632 0 (iN 0)) 633 (10 + 31 * x + 4).toNat (iN 0), ?_, FZ.pI (Or.inl rfl), rm.2.put (by omega)⟩
        unfold f_X9_clearWords
        rw [chk_pos s1.m.1, lt_is, g_isCell rm w hx, bnd_ret, if_neg (fun z => bN0.mp z q), chk_pos s0.m.1, g_isText9 rm hx2 wb, bnd_ret, if_neg (fun z => bN0.mp z q3), chk_pos s0.m.1, g_ofA rm hx2 (by omega), bnd_ret, chk_pos s0.m.1, s0.m.r1, chk_pos s0.m.o1, s0.m.w1, iN_mul, iN_add, iN_add, ck_in (by omega) (by omega) (by omega), lt_is, iN_cl (by omega) (by omega)]
    · refine OpP.f0 2 (by omega) wd s c ?_ (fun h1 s1 r1 s0 rm => ?_)
      · unfold f_L_clearWords f_X8_clearWords
        rw [chk_pos s.o1, chk_pos s.o1, g_textOf w s t hx, if_pos q, if_neg q3, bnd_thr, bndX_thr, if_neg (by decide), if_pos rfl]
      · unfold f_X9_clearWords
        rw [chk_pos s1.m.1, lt_is, g_isCell rm w hx, bnd_ret, if_neg (fun z => bN0.mp z q), chk_pos s0.m.1, g_isText9 rm hx2 wb, bnd_ret, if_pos (bN0.mpr q3), chk_pos s0.m.1, g_fails s0, bnd_ret]
  · refine OpP.f0 1 (by omega) wd s c ?_ (fun h1 s1 r1 s0 rm => ?_)
    · unfold f_L_clearWords f_X8_clearWords
      rw [chk_pos s.o1, chk_pos s.o1, g_textOf w s t hx, if_neg q, bnd_thr, bndX_thr, if_pos rfl]
    · unfold f_X9_clearWords
      rw [chk_pos s1.m.1, lt_is, g_isCell rm w hx, bnd_ret, if_pos (bN0.mpr q), chk_pos s0.m.1, g_fails s0, bnd_ret]
theorem g_rqU1 {h : Hp} : f_X8_requireSupport h (iN 1) = some (h, .inr ()) := by
  unfold f_X8_requireSupport
  rw [if_neg (by decide)]
theorem g_rqU0 {h : Hp} : f_X8_requireSupport h (iN 0) = some (bump h, .inl 4) := by
  unfold f_X8_requireSupport
  rw [if_pos (by decide)]
theorem SL.rc {h : Hp} {m : Int → Int} (s : SL h) (t : TM h 2 m) {x : Int} (hx : 0 ≤ x ∧ x < 16) {α : Type} {k : Option α} : chk (okr h 1 8) (chk (okr h (qR h 1 0) 7) (chk (okr h (qR h (qR h 1 0) 8) 25) (chk (vp_in (iN x) (qW h (qR h (qR h 1 0) 8))) (chk (okr h (qR h (qR h (qR h 1 0) 8) (iN x).toNatClampNeg) 1) (chk (okr h (qR h (qR h (qR h (qR h 1 0) 8) (iN x).toNatClampNeg) 3) 4) k))))) = k := by
  rw [chk_pos s.o1, s.t0, chk_pos t.1.o, t.1.r8, chk_pos t.1.o3, t.1.w3, ck_in (by omega) (by omega) (by omega), cA_eq (by omega) (by omega), chk_pos (t.1.co hx), t.1.cr hx, chk_pos (t.1.cl hx).1]
theorem SL.rr {h : Hp} {m : Int → Int} (s : SL h) (t : TM h 2 m) {x : Int} (hx : 0 ≤ x ∧ x < 16) : qR h (qR h (qR h (qR h 1 0) 8) (iN x).toNatClampNeg) 3 = cA h 2 x + 1 := by
  rw [s.t0, t.1.r8, cA_eq (by omega) (by omega), t.1.cr hx]
theorem o_setSize {h : Hp} {D : Dt} (wd : WD D) (s : SL h) (c : CI h D) {x y u : Int} (hx : InR x) (hy : InR y) (hu : InR u) : OpP h D (f_L_setSize h 1 (iN x) (iN y) (iN u) 656) (fun h1 => f_X9_setSize h1 632 (iN x) (iN y) (iN u)) := by
  have w := wd.1
  have t := c.1.1
  have h5 := w.1.2.2.2.2.2
  by_cases q : 0 ≤ x ∧ x ≤ D.1 5 - 1
  · have hx3 : 0 ≤ x ∧ x < D.1 5 := by omega
    have hx2 : 0 ≤ x ∧ x < 16 := by omega
    have wb := (w.2.2.1 x hx3.1 hx3.2).2
    have cc := t.cc hx3.1 hx3.2
    have cls0 : f_X8_setSize h 1 (iN x) (iN y) (iN u) = if blk D.1 x 3 ≤ 3 then some (bump h, .inl 4) else f_X8_setSize_L32 h 1 (iN y) (iN u) (cA h 2 x + 1) (iN 1) := by
      unfold f_X8_setSize
      rw [chk_pos s.o1, g_rqCell w s t hx, if_pos q, bnd_ret, SL.rc s t hx2, SL.rr s t hx2, g_isT (t.1.cl hx2) cc.2 wb, bnd_ret]
      by_cases q3 : blk D.1 x 3 ≤ 3
      · rw [if_neg (fun z => bN0.mp z q3), if_pos q3]
        unfold f_X8_setSize_L32
        rw [g_rqU0, bnd_thr]
      · rw [if_pos (bN0.mpr q3), if_neg q3]
    by_cases q3 : blk D.1 x 3 ≤ 3
    · refine OpP.f0 2 (by omega) wd s c ?_ (fun h1 s1 r1 s0 rm => ?_)
      · unfold f_L_setSize
        rw [chk_pos s.o1, cls0, if_pos q3, bndX_thr, if_neg (by decide), if_pos rfl]
      · unfold f_X9_setSize
        rw [chk_pos s1.m.1, lt_is, g_isCell rm w hx, bnd_ret, if_neg (fun z => bN0.mp z q), chk_pos s0.m.1, g_isText9 rm hx2 wb, bnd_ret, if_neg (fun z => bN0.mp z q3), chk_pos s0.m.1, g_fails s0, bnd_ret]
    · rw [if_neg q3] at cls0
      by_cases p1 : 1 ≤ y ∧ y ≤ 20
      · by_cases p2 : 1 ≤ u ∧ u ≤ 20
        · have ag : Ag D.1 (up (up D.1 (10 + 31 * x + 5) y) (10 + 31 * x + 6) u) x := (up_ag (by omega)).tr (up_ag (by omega))
          have bx : ∀ k, k ≠ 5 → k ≠ 6 → blk (up (up D.1 (10 + 31 * x + 5) y) (10 + 31 * x + 6) u) x k = blk D.1 x k := fun k k1 k2 => by rw [up_blk, if_neg k2, up_blk, if_neg k1]
          have b5 : blk (up (up D.1 (10 + 31 * x + 5) y) (10 + 31 * x + 6) u) x 5 = y := by rw [up_blk, if_neg (by omega), up_blk, if_pos rfl]
          have b6 : blk (up (up D.1 (10 + 31 * x + 5) y) (10 + 31 * x + 6) u) x 6 = u := by rw [up_blk, if_pos rfl]
          have hz := wb.2.2.2.2.2.1 (show 4 ≤ blk D.1 x 3 by omega)
          have wn : WB (blk (up (up D.1 (10 + 31 * x + 5) y) (10 + 31 * x + 6) u) x) := ⟨by rw [bx 3 (by omega) (by omega)]; exact wb.1, by rw [bx 4 (by omega) (by omega)]; exact wb.2.1, by rw [b5]; exact p1, by rw [b6]; exact p2, fun k h1 h2 => by rw [bx 4 (by omega) (by omega)] at h2; omega, fun _ => by rw [bx 4 (by omega) (by omega)]; exact hz, fun z => by rw [bx 3 (by omega) (by omega)] at z; omega⟩
          have wf := WF_ct w hx3 ag wn
          obtain ⟨h2, e2, f2, c2⟩ := g_resize (t.1.cl hx2) cc.2.d wn (bx 3 (by omega) (by omega)) (bx 4 (by omega) (by omega)) hz
          rw [b5, b6] at e2
          have md := Mid.ct wd s c hx3 ag f2 c2
          obtain ⟨h3, e3, fn, fc⟩ := md.fin wf wd.2
          refine OpP.M (100 * blk D.1 x 5 + blk D.1 x 6) wf wd fn ?_ (fun h1 s1 r1 s0 rm => ?_)
          · unfold f_L_setSize
            rw [chk_pos s.o1, cls0]
            unfold f_X8_setSize_L32
            rw [g_rqU1, bnd_ret, g_isW hy ⟨(by omega), (by omega)⟩ ⟨(by omega), (by omega)⟩, bnd_ret, g_rqA, if_pos p1, bnd_ret, g_isW hu ⟨(by omega), (by omega)⟩ ⟨(by omega), (by omega)⟩, bnd_ret, g_rqA, if_pos p2, bnd_ret, chk_pos (t.1.cl hx2).1, e2, bnd_ret, chk_pos md.1.o1, e3, bnd_ret, bndX_ret, cc.2.1.2.1, cc.2.1.2.2, iN_mul, iN_add]
          · refine ⟨putI (putI (putI h1 632 0 (iN 0)) 633 (10 + 31 * x + 5).toNat (iN y)) 633 (10 + 31 * x + 6).toNat (iN u), ?_, (FZ.pI (Or.inl rfl)).tr (FZ.pI (Or.inl rfl)), (rm.2.put (by omega)).put (by omega)⟩
            unfold f_X9_setSize
            rw [chk_pos s1.m.1, lt_is, g_isCell rm w hx, bnd_ret, if_neg (fun z => bN0.mp z q), chk_pos s0.m.1, g_isText9 rm hx2 wb, bnd_ret, if_pos (bN0.mpr q3), g_in hy ⟨(by omega), (by omega)⟩ ⟨(by omega), (by omega)⟩, bnd_ret, if_neg (fun z => bN0.mp z p1), g_in hu ⟨(by omega), (by omega)⟩ ⟨(by omega), (by omega)⟩, bnd_ret, if_neg (fun z => bN0.mp z p2), chk_pos s0.m.1, g_ofA rm hx2 (by omega), bnd_ret, chk_pos s0.m.1, g_ofA rm hx2 (by omega), bnd_ret, chk_pos s0.m.1, s0.m.r1, chk_pos s0.m.o1, s0.m.w1, iN_mul, iN_add, iN_add, ck_in (by omega) (by omega) (by omega), lt_is, iN_cl (by omega) (by omega), s0.pI.m.r1, chk_pos s0.pI.m.o1, s0.pI.m.w1, iN_add, ck_in (by omega) (by omega) (by omega), lt_is, iN_cl (by omega) (by omega), iN_mul, iN_add]
        · refine OpP.f0 3 (by omega) wd s c ?_ (fun h1 s1 r1 s0 rm => ?_)
          · unfold f_L_setSize
            rw [chk_pos s.o1, cls0]
            unfold f_X8_setSize_L32
            rw [g_rqU1, bnd_ret, g_isW hy ⟨(by omega), (by omega)⟩ ⟨(by omega), (by omega)⟩, bnd_ret, g_rqA, if_pos p1, bnd_ret, g_isW hu ⟨(by omega), (by omega)⟩ ⟨(by omega), (by omega)⟩, bnd_ret, g_rqA, if_neg p2, bnd_thr, bndX_thr, if_neg (by decide), if_neg (by decide), if_pos rfl]
          · unfold f_X9_setSize f_X9_setSize_L53
            rw [chk_pos s1.m.1, lt_is, g_isCell rm w hx, bnd_ret, if_neg (fun z => bN0.mp z q), chk_pos s0.m.1, g_isText9 rm hx2 wb, bnd_ret, if_pos (bN0.mpr q3), g_in hy ⟨(by omega), (by omega)⟩ ⟨(by omega), (by omega)⟩, bnd_ret, if_neg (fun z => bN0.mp z p1), g_in hu ⟨(by omega), (by omega)⟩ ⟨(by omega), (by omega)⟩, bnd_ret, if_pos (bN0.mpr p2), chk_pos s0.m.1, g_fails s0, bnd_ret]
      · refine OpP.f0 3 (by omega) wd s c ?_ (fun h1 s1 r1 s0 rm => ?_)
        · unfold f_L_setSize
          rw [chk_pos s.o1, cls0]
          unfold f_X8_setSize_L32
          rw [g_rqU1, bnd_ret, g_isW hy ⟨(by omega), (by omega)⟩ ⟨(by omega), (by omega)⟩, bnd_ret, g_rqA, if_neg p1, bnd_thr, bndX_thr, if_neg (by decide), if_neg (by decide), if_pos rfl]
        · unfold f_X9_setSize f_X9_setSize_L53
          rw [chk_pos s1.m.1, lt_is, g_isCell rm w hx, bnd_ret, if_neg (fun z => bN0.mp z q), chk_pos s0.m.1, g_isText9 rm hx2 wb, bnd_ret, if_pos (bN0.mpr q3), g_in hy ⟨(by omega), (by omega)⟩ ⟨(by omega), (by omega)⟩, bnd_ret, if_pos (bN0.mpr p1), chk_pos s0.m.1, g_fails s0, bnd_ret]
  · refine OpP.f0 1 (by omega) wd s c ?_ (fun h1 s1 r1 s0 rm => ?_)
    · unfold f_L_setSize f_X8_setSize
      rw [chk_pos s.o1, chk_pos s.o1, g_rqCell w s t hx, if_neg q, bnd_thr, bndX_thr, if_pos rfl]
    · unfold f_X9_setSize
      rw [chk_pos s1.m.1, lt_is, g_isCell rm w hx, bnd_ret, if_pos (bN0.mpr q), chk_pos s0.m.1, g_fails s0, bnd_ret]
theorem bN_eq {p q : Prop} [Decidable p] [Decidable q] : bN p = bN q ↔ (p ↔ q) := by
  by_cases hp : p
  · by_cases hq : q
    · rw [bN_y hp, bN_y hq]; exact ⟨fun _ => ⟨fun _ => hq, fun _ => hp⟩, fun _ => rfl⟩
    · rw [bN_y hp, bN_n hq]; exact ⟨fun z => absurd z (by decide), fun z => absurd (z.mp hp) hq⟩
  · by_cases hq : q
    · rw [bN_n hp, bN_y hq]; exact ⟨fun z => absurd z (by decide), fun z => absurd (z.mpr hq) hp⟩
    · rw [bN_n hp, bN_n hq]; exact ⟨fun _ => ⟨fun z => absurd z hp, fun z => absurd z hq⟩, fun _ => rfl⟩
theorem g_isTK {h : Hp} {k : Int} (hk : InR k) : f_X8_isTextKind h (iN k) = some (h, .inr (bN (k ≤ 3))) := by
  unfold InR at hk
  unfold f_X8_isTextKind
  by_cases p : k ≤ 3
  · rw [if_neg (nltN (by omega) (by omega) (by omega)), bN_y p]
  · rw [if_pos (yltN (by omega) (by omega) (by omega)), bN_n p]
theorem o_setKind {h : Hp} {D : Dt} (wd : WD D) (s : SL h) (c : CI h D) {x y : Int} (hx : InR x) (hy : InR y) : OpP h D (f_L_setKind h 1 (iN x) (iN y) 656) (fun h1 => f_X9_setKind h1 632 (iN x) (iN y)) := by
  have w := wd.1
  have t := c.1.1
  have h5 := w.1.2.2.2.2.2
  by_cases q : 0 ≤ x ∧ x ≤ D.1 5 - 1
  · have hx3 : 0 ≤ x ∧ x < D.1 5 := by omega
    have hx2 : 0 ≤ x ∧ x < 16 := by omega
    have wb := (w.2.2.1 x hx3.1 hx3.2).2
    have cc := t.cc hx3.1 hx3.2
    by_cases p : 0 ≤ y ∧ y ≤ 5
    · have cls0 : f_X8_setKind h 1 (iN x) (iN y) = if (blk D.1 x 3 ≤ 3 ↔ y ≤ 3) then f_X8_setKind_L43 h 1 (iN y) (cA h 2 x + 1) (iN 1) else some (bump h, .inl 4) := by
        unfold f_X8_setKind
        rw [chk_pos s.o1, g_rqCell w s t hx, if_pos q, bnd_ret, g_isW hy ⟨(by omega), (by omega)⟩ ⟨(by omega), (by omega)⟩, bnd_ret, g_rqA, if_pos p, bnd_ret, SL.rc s t hx2, SL.rr s t hx2, g_isT (t.1.cl hx2) cc.2 wb, bnd_ret, g_isTK hy, bnd_ret]
        by_cases q3 : blk D.1 x 3 ≤ 3 ↔ y ≤ 3
        · rw [if_pos (bN_eq.mpr q3), if_pos q3]
        · rw [if_neg (fun z => q3 (bN_eq.mp z)), if_neg q3]
          unfold f_X8_setKind_L43
          rw [g_rqU0, bnd_thr]
      have ref0 : ∀ h1, SL h1 → RM (putI h1 632 0 (iN 0)) 632 D.1 → SL (putI h1 632 0 (iN 0)) → f_X9_setKind h1 632 (iN x) (iN y) = f_X9_setKind_L49 (putI h1 632 0 (iN 0)) 632 (iN x) (iN y) (bN (y ≤ 3)) (bN (blk D.1 x 3 ≤ 3)) := by
        intro h1 s1 rm s0
        unfold f_X9_setKind
        rw [chk_pos s1.m.1, lt_is, g_isCell rm w hx, bnd_ret, if_neg (fun z => bN0.mp z q), g_in hy ⟨(by omega), (by omega)⟩ ⟨(by omega), (by omega)⟩, bnd_ret, if_neg (fun z => bN0.mp z p), chk_pos s0.m.1, g_isText9 rm hx2 wb, bnd_ret]
        by_cases y3 : y ≤ 3
        · rw [if_neg (nleN (by omega) (by omega) (by omega)), bN_y y3]
        · rw [if_pos (yleN (by omega) (by omega) (by omega)), bN_n y3]
      by_cases q3 : blk D.1 x 3 ≤ 3 ↔ y ≤ 3
      · rw [if_pos q3] at cls0
        have ag : Ag D.1 (up D.1 (10 + 31 * x + 3) y) x := up_ag (by omega)
        have bx : ∀ k, k ≠ 3 → blk (up D.1 (10 + 31 * x + 3) y) x k = blk D.1 x k := fun k k1 => by rw [up_blk, if_neg k1]
        have b3 : blk (up D.1 (10 + 31 * x + 3) y) x 3 = y := by rw [up_blk, if_pos rfl]
        have wn : WB (blk (up D.1 (10 + 31 * x + 3) y) x) := by
          refine ⟨by rw [b3]; exact p, by rw [bx 4 (by omega)]; exact wb.2.1, by rw [bx 5 (by omega)]; exact wb.2.2.1, by rw [bx 6 (by omega)]; exact wb.2.2.2.1, fun k h1 h2 => ?_, fun z => ?_, fun z => ?_⟩
          · rw [bx 4 (by omega)] at h2
            rw [bx (7 + k) (by omega), bx (19 + k) (by omega)]
            exact wb.2.2.2.2.1 k h1 h2
          · rw [b3] at z
            rw [bx 4 (by omega)]
            exact wb.2.2.2.2.2.1 (by omega)
          · rw [b3] at z
            rw [bx 5 (by omega), bx 6 (by omega)]
            exact wb.2.2.2.2.2.2 (q3.mpr z)
        have wf := WF_ct w hx3 ag wn
        obtain ⟨h2, e2, f2, c2⟩ := g_turnInto (t.1.cl hx2) cc.2.d wn (bx 4 (by omega)) (bx 5 (by omega)) (bx 6 (by omega)) (fun k h1 h2 => ⟨bx (7 + k) (by omega), bx (19 + k) (by omega)⟩)
        rw [b3] at e2
        have md := Mid.ct wd s c hx3 ag f2 c2
        obtain ⟨h3, e3, fn, fc⟩ := md.fin wf wd.2
        refine OpP.M (blk D.1 x 3) wf wd fn ?_ (fun h1 s1 r1 s0 rm => ?_)
        · unfold f_L_setKind
          rw [chk_pos s.o1, cls0]
          unfold f_X8_setKind_L43
          rw [g_rqU1, bnd_ret, chk_pos (t.1.cl hx2).1, e2, bnd_ret, chk_pos md.1.o1, e3, bnd_ret, bndX_ret, cc.2.1.1]
        · refine ⟨putI (putI h1 632 0 (iN 0)) 633 (10 + 31 * x + 3).toNat (iN y), ?_, FZ.pI (Or.inl rfl), rm.2.put (by omega)⟩
          rw [ref0 h1 s1 rm s0]
          unfold f_X9_setKind_L49
          rw [if_pos (bN_eq.mpr q3), chk_pos s0.m.1, g_ofA rm hx2 (by omega), bnd_ret, chk_pos s0.m.1, s0.m.r1, chk_pos s0.m.o1, s0.m.w1, iN_mul, iN_add, iN_add, ck_in (by omega) (by omega) (by omega), lt_is, iN_cl (by omega) (by omega)]
      · rw [if_neg q3] at cls0
        refine OpP.f0 3 (by omega) wd s c ?_ (fun h1 s1 r1 s0 rm => ?_)
        · unfold f_L_setKind
          rw [chk_pos s.o1, cls0, bndX_thr, if_neg (by decide), if_neg (by decide), if_pos rfl]
        · rw [ref0 h1 s1 rm s0]
          unfold f_X9_setKind_L49
          rw [if_neg (fun z => q3 (bN_eq.mp z)), chk_pos s0.m.1, g_fails s0, bnd_ret]
    · refine OpP.f0 2 (by omega) wd s c ?_ (fun h1 s1 r1 s0 rm => ?_)
      · unfold f_L_setKind f_X8_setKind
        rw [chk_pos s.o1, chk_pos s.o1, g_rqCell w s t hx, if_pos q, bnd_ret, g_isW hy ⟨(by omega), (by omega)⟩ ⟨(by omega), (by omega)⟩, bnd_ret, g_rqA, if_neg p, bnd_thr, bndX_thr, if_neg (by decide), if_pos rfl]
      · unfold f_X9_setKind
        rw [chk_pos s1.m.1, lt_is, g_isCell rm w hx, bnd_ret, if_neg (fun z => bN0.mp z q), g_in hy ⟨(by omega), (by omega)⟩ ⟨(by omega), (by omega)⟩, bnd_ret, if_pos (bN0.mpr p), chk_pos s0.m.1, g_fails s0, bnd_ret]
  · refine OpP.f0 1 (by omega) wd s c ?_ (fun h1 s1 r1 s0 rm => ?_)
    · unfold f_L_setKind f_X8_setKind
      rw [chk_pos s.o1, chk_pos s.o1, g_rqCell w s t hx, if_neg q, bnd_thr, bndX_thr, if_pos rfl]
    · unfold f_X9_setKind
      rw [chk_pos s1.m.1, lt_is, g_isCell rm w hx, bnd_ret, if_pos (bN0.mpr q), chk_pos s0.m.1, g_fails s0, bnd_ret]
/-- a word is put behind the others -/
def puN (m : Int → Int) (i len br : Int) : Int → Int := up (up (up m (10 + 31 * i + (7 + blk m i 4)) len) (10 + 31 * i + (19 + blk m i 4)) br) (10 + 31 * i + 4) (blk m i 4 + 1)
theorem puN_at {m : Int → Int} {i len br k : Int} : blk (puN m i len br) i k = if k = 4 then blk m i 4 + 1 else if k = 19 + blk m i 4 then br else if k = 7 + blk m i 4 then len else blk m i k := by
  unfold puN
  rw [up_blk, up_blk, up_blk]
theorem puN_ag {m : Int → Int} {i len br : Int} (hb : 0 ≤ blk m i 4 ∧ blk m i 4 < 12) : Ag m (puN m i len br) i := ((up_ag (by omega)).tr (up_ag (by omega))).tr (up_ag (by omega))
theorem puN_wb {m : Int → Int} {i len br : Int} (w : WB (blk m i)) (h3 : blk m i 3 ≤ 3) (h4 : blk m i 4 < 12) (hl : 1 ≤ len ∧ len ≤ 12) (hb : 0 ≤ br ∧ br ≤ 3) : WB (blk (puN m i len br) i) := by
  have h40 := w.2.1
  have bx : ∀ k, k ≠ 4 → k ≠ 19 + blk m i 4 → k ≠ 7 + blk m i 4 → blk (puN m i len br) i k = blk m i k := fun k k1 k2 k3 => by rw [puN_at, if_neg k1, if_neg k2, if_neg k3]
  have b4 : blk (puN m i len br) i 4 = blk m i 4 + 1 := by rw [puN_at, if_pos rfl]
  have b3 := bx 3 (by omega) (by omega) (by omega)
  have b5 := bx 5 (by omega) (by omega) (by omega)
  have b6 := bx 6 (by omega) (by omega) (by omega)
  refine ⟨by rw [b3]; exact w.1, by rw [b4]; omega, by rw [b5]; exact w.2.2.1, by rw [b6]; exact w.2.2.2.1, fun k h1 h2 => ?_, fun z => by rw [b3] at z; omega, fun z => by rw [b5, b6]; exact w.2.2.2.2.2.2 h3⟩
  rw [b4] at h2
  by_cases e : k = blk m i 4
  · rw [puN_at, if_neg (by omega), if_neg (by omega), if_pos (by omega), puN_at, if_neg (by omega), if_pos (by omega)]
    exact ⟨hl, hb⟩
  · rw [bx (7 + k) (by omega) (by omega) (by omega), bx (19 + k) (by omega) (by omega) (by omega)]
    exact w.2.2.2.2.1 k h1 (by omega)
theorem g_puts {h : Hp} {m : Int → Int} {i len br : Int} (r : RM h 632 m) (hi : 0 ≤ i ∧ i < 16) (hb : 0 ≤ blk m i 4 ∧ blk m i 4 < 12) : ∃ h2, f_X9_puts h 632 (iN i) (iN len) (iN br) = some (h2, .inr ()) ∧ FZ (fun x _ => x = 633) h h2 ∧ RM h2 632 (puN m i len br) := by
  have r5 : RM (putI h 633 (10 + 31 * i + (7 + blk m i 4)).toNat (iN len)) 632 (up m (10 + 31 * i + (7 + blk m i 4)) len) := ⟨r.1.ly Ly.pI, r.2.put (by omega)⟩
  have r9 : RM (putI (putI h 633 (10 + 31 * i + (7 + blk m i 4)).toNat (iN len)) 633 (10 + 31 * i + (19 + blk m i 4)).toNat (iN br)) 632 (up (up m (10 + 31 * i + (7 + blk m i 4)) len) (10 + 31 * i + (19 + blk m i 4)) br) := ⟨r5.1.ly Ly.pI, r5.2.put (by omega)⟩
  have m4 : m (10 + 31 * i + 4) = blk m i 4 := rfl
  refine ⟨putI (putI (putI h 633 (10 + 31 * i + (7 + blk m i 4)).toNat (iN len)) 633 (10 + 31 * i + (19 + blk m i 4)).toNat (iN br)) 633 (10 + 31 * i + 4).toNat (iN (blk m i 4 + 1)), ?_, ((FZ.pI (P := fun x _ => x = 633) rfl).tr (FZ.pI rfl)).tr (FZ.pI rfl), r9.1.ly Ly.pI, r9.2.put (by omega)⟩
  unfold f_X9_puts
  rw [chk_pos r.1.1, r.1.r1, chk_pos r.1.o1, r.1.w1, iN_mul, iN_add, iN_add, ck_in (by omega) (by omega) (by omega), g_rd r (by omega) (by omega), m4, iN_add, iN_add, ck_in (by omega) (by omega) (by omega), lt_is, iN_cl (by omega) (by omega), show 10 + 31 * i + 7 + blk m i 4 = 10 + 31 * i + (7 + blk m i 4) by omega, r5.1.r1, chk_pos r5.1.o1, r5.1.w1, ck_in (by omega) (by omega) (by omega), g_rd r5 (by omega) (by omega), up_ne (by omega), m4, iN_add, iN_add, ck_in (by omega) (by omega) (by omega), lt_is, iN_cl (by omega) (by omega), show 10 + 31 * i + 19 + blk m i 4 = 10 + 31 * i + (19 + blk m i 4) by omega, r9.1.r1, chk_pos r9.1.o1, r9.1.w1, ck_in (by omega) (by omega) (by omega), lt_is, g_rd r9 (by omega) (by omega), up_ne (by omega), up_ne (by omega), m4, iN_add, iN_cl (by omega) (by omega)]
theorem o_addWord {h : Hp} {D : Dt} (wd : WD D) (s : SL h) (c : CI h D) {x y u : Int} (hx : InR x) (hy : InR y) (hu : InR u) : OpP h D (f_L_addWord h 1 (iN x) (iN y) (iN u) 656) (fun h1 => f_X9_addWord h1 632 (iN x) (iN y) (iN u)) := by
  have w := wd.1
  have t := c.1.1
  have h5 := w.1.2.2.2.2.2
  by_cases q : 0 ≤ x ∧ x ≤ D.1 5 - 1
  · have hx3 : 0 ≤ x ∧ x < D.1 5 := by omega
    have hx2 : 0 ≤ x ∧ x < 16 := by omega
    have wb := (w.2.2.1 x hx3.1 hx3.2).2
    have cc := t.cc hx3.1 hx3.2
    have w4 := wb.2.1
    by_cases q3 : blk D.1 x 3 ≤ 3
    · by_cases p1 : 1 ≤ y ∧ y ≤ 12
      · by_cases p2 : 0 ≤ u ∧ u ≤ 3
        · have cls0 : f_X8_addWord h 1 (iN x) (iN y) (iN u) = if blk D.1 x 4 < 12 then f_X8_addWord_L41 h 1 (iN y) (iN u) (cA h 2 x + 1) (iN 1) else some (bump h, .inl 0) := by
            unfold f_X8_addWord
            rw [chk_pos s.o1, g_textOf w s t hx, if_pos q, if_pos q3, bnd_ret, g_isW hy ⟨(by omega), (by omega)⟩ ⟨(by omega), (by omega)⟩, bnd_ret, g_rqA, if_pos p1, bnd_ret, g_isW hu ⟨(by omega), (by omega)⟩ ⟨(by omega), (by omega)⟩, bnd_ret, g_rqA, if_pos p2, bnd_ret, chk_pos (t.1.cl hx2).1, HW_3 cc.2.2.1 wb.2.1.1]
            by_cases q4 : blk D.1 x 4 < 12
            · rw [if_neg (nleN (by omega) (by omega) (by omega)), if_pos q4]
            · rw [if_pos (yleN (by omega) (by omega) (by omega)), if_neg q4]
              unfold f_X8_addWord_L41
              rw [g_rqS0, bnd_thr]
          by_cases q4 : blk D.1 x 4 < 12
          · rw [if_pos q4] at cls0
            have ag : Ag D.1 (puN D.1 x y u) x := puN_ag (by omega)
            have bx : ∀ k, k ≠ 4 → k ≠ 19 + blk D.1 x 4 → k ≠ 7 + blk D.1 x 4 → blk (puN D.1 x y u) x k = blk D.1 x k := fun k k1 k2 k3 => by rw [puN_at, if_neg k1, if_neg k2, if_neg k3]
            have b4 : blk (puN D.1 x y u) x 4 = blk D.1 x 4 + 1 := by rw [puN_at, if_pos rfl]
            have wn := puN_wb wb q3 q4 p1 p2
            have wf := WF_ct w hx3 ag wn
            obtain ⟨h2, e2, f2, c2⟩ := g_push (t.1.cl hx2) cc.2.d wn (by omega) (bx 3 (by omega) (by omega) (by omega)) b4 (bx 5 (by omega) (by omega) (by omega)) (bx 6 (by omega) (by omega) (by omega)) (fun k h1 h2 => ⟨bx (7 + k) (by omega) (by omega) (by omega), bx (19 + k) (by omega) (by omega) (by omega)⟩)
            rw [show blk (puN D.1 x y u) x (7 + blk D.1 x 4) = y by rw [puN_at, if_neg (by omega), if_neg (by omega), if_pos rfl], show blk (puN D.1 x y u) x (19 + blk D.1 x 4) = u by rw [puN_at, if_neg (by omega), if_pos rfl]] at e2
            have md := Mid.ct wd s c hx3 ag f2 c2
            obtain ⟨h3, e3, fn, fc⟩ := md.fin wf wd.2
            refine OpP.M (blk D.1 x 4 + 1) wf wd fn ?_ (fun h1 s1 r1 s0 rm => ?_)
            · have b := cA_149 t hx2
              have l3 : LC h3 (cA h 2 x + 1) := ((t.1.cl hx2).ly f2.1).ly fc.1
              have e9 : qI h3 (cA h 2 x + 1) 3 = iN (blk D.1 x 4 + 1) := by
                rw [fc.2 _ _ (fun z => by omega), HW_3 c2.2.1 (by rw [b4]; omega), b4]
              unfold f_L_addWord
              rw [chk_pos s.o1, cls0]
              unfold f_X8_addWord_L41
              rw [g_rqS1, bnd_ret, chk_pos (t.1.cl hx2).1, e2, bnd_ret, chk_pos md.1.o1, e3, bnd_ret, chk_pos l3.1, bndX_ret, e9]
            · obtain ⟨h4, e4, f4, r4⟩ := g_puts (len := y) (br := u) rm hx2 (show 0 ≤ blk D.1 x 4 ∧ blk D.1 x 4 < 12 by omega)
              refine ⟨h4, ?_, f4.mo (fun x j z => Or.inl z), r4.2⟩
              unfold f_X9_addWord
              rw [chk_pos s1.m.1, lt_is, g_isCell rm w hx, bnd_ret, if_neg (fun z => bN0.mp z q), chk_pos s0.m.1, g_isText9 rm hx2 wb, bnd_ret, if_neg (fun z => bN0.mp z q3), g_in hy ⟨(by omega), (by omega)⟩ ⟨(by omega), (by omega)⟩, bnd_ret, if_neg (fun z => bN0.mp z p1), g_in hu ⟨(by omega), (by omega)⟩ ⟨(by omega), (by omega)⟩, bnd_ret, if_neg (fun z => bN0.mp z p2), chk_pos s0.m.1, g_ofA rm hx2 (by omega), bnd_ret, if_neg (neN (by omega) (by omega) (by omega) (by omega) (by omega)), chk_pos s0.m.1, e4, bnd_ret, chk_pos r4.1.1, g_ofA r4 hx2 (by omega), bnd_ret, b4]
          · rw [if_neg q4] at cls0
            refine OpP.f0 4 (by omega) wd s c ?_ (fun h1 s1 r1 s0 rm => ?_)
            · unfold f_L_addWord
              rw [chk_pos s.o1, cls0, bndX_thr, if_neg (by decide), if_neg (by decide), if_neg (by decide), if_pos rfl]
            · unfold f_X9_addWord
              rw [chk_pos s1.m.1, lt_is, g_isCell rm w hx, bnd_ret, if_neg (fun z => bN0.mp z q), chk_pos s0.m.1, g_isText9 rm hx2 wb, bnd_ret, if_neg (fun z => bN0.mp z q3), g_in hy ⟨(by omega), (by omega)⟩ ⟨(by omega), (by omega)⟩, bnd_ret, if_neg (fun z => bN0.mp z p1), g_in hu ⟨(by omega), (by omega)⟩ ⟨(by omega), (by omega)⟩, bnd_ret, if_neg (fun z => bN0.mp z p2), chk_pos s0.m.1, g_ofA rm hx2 (by omega), bnd_ret, if_pos (by rw [show blk D.1 x 4 = 12 by omega]), chk_pos s0.m.1, g_fails s0, bnd_ret]
        · refine OpP.f0 3 (by omega) wd s c ?_ (fun h1 s1 r1 s0 rm => ?_)
          · unfold f_L_addWord f_X8_addWord
            rw [chk_pos s.o1, chk_pos s.o1, g_textOf w s t hx, if_pos q, if_pos q3, bnd_ret, g_isW hy ⟨(by omega), (by omega)⟩ ⟨(by omega), (by omega)⟩, bnd_ret, g_rqA, if_pos p1, bnd_ret, g_isW hu ⟨(by omega), (by omega)⟩ ⟨(by omega), (by omega)⟩, bnd_ret, g_rqA, if_neg p2, bnd_thr, bndX_thr, if_neg (by decide), if_neg (by decide), if_pos rfl]
          · unfold f_X9_addWord f_X9_addWord_L52
            rw [chk_pos s1.m.1, lt_is, g_isCell rm w hx, bnd_ret, if_neg (fun z => bN0.mp z q), chk_pos s0.m.1, g_isText9 rm hx2 wb, bnd_ret, if_neg (fun z => bN0.mp z q3), g_in hy ⟨(by omega), (by omega)⟩ ⟨(by omega), (by omega)⟩, bnd_ret, if_neg (fun z => bN0.mp z p1), g_in hu ⟨(by omega), (by omega)⟩ ⟨(by omega), (by omega)⟩, bnd_ret, if_pos (bN0.mpr p2), chk_pos s0.m.1, g_fails s0, bnd_ret]
      · refine OpP.f0 3 (by omega) wd s c ?_ (fun h1 s1 r1 s0 rm => ?_)
        · unfold f_L_addWord f_X8_addWord
          rw [chk_pos s.o1, chk_pos s.o1, g_textOf w s t hx, if_pos q, if_pos q3, bnd_ret, g_isW hy ⟨(by omega), (by omega)⟩ ⟨(by omega), (by omega)⟩, bnd_ret, g_rqA, if_neg p1, bnd_thr, bndX_thr, if_neg (by decide), if_neg (by decide), if_pos rfl]
        · unfold f_X9_addWord f_X9_addWord_L52
          rw [chk_pos s1.m.1, lt_is, g_isCell rm w hx, bnd_ret, if_neg (fun z => bN0.mp z q), chk_pos s0.m.1, g_isText9 rm hx2 wb, bnd_ret, if_neg (fun z => bN0.mp z q3), g_in hy ⟨(by omega), (by omega)⟩ ⟨(by omega), (by omega)⟩, bnd_ret, if_pos (bN0.mpr p1), chk_pos s0.m.1, g_fails s0, bnd_ret]
    · refine OpP.f0 2 (by omega) wd s c ?_ (fun h1 s1 r1 s0 rm => ?_)
      · unfold f_L_addWord f_X8_addWord
        rw [chk_pos s.o1, chk_pos s.o1, g_textOf w s t hx, if_pos q, if_neg q3, bnd_thr, bndX_thr, if_neg (by decide), if_pos rfl]
      · unfold f_X9_addWord
        rw [chk_pos s1.m.1, lt_is, g_isCell rm w hx, bnd_ret, if_neg (fun z => bN0.mp z q), chk_pos s0.m.1, g_isText9 rm hx2 wb, bnd_ret, if_pos (bN0.mpr q3), chk_pos s0.m.1, g_fails s0, bnd_ret]
  · refine OpP.f0 1 (by omega) wd s c ?_ (fun h1 s1 r1 s0 rm => ?_)
    · unfold f_L_addWord f_X8_addWord
      rw [chk_pos s.o1, chk_pos s.o1, g_textOf w s t hx, if_neg q, bnd_thr, bndX_thr, if_pos rfl]
    · unfold f_X9_addWord
      rw [chk_pos s1.m.1, lt_is, g_isCell rm w hx, bnd_ret, if_pos (bN0.mpr q), chk_pos s0.m.1, g_fails s0, bnd_ret]
