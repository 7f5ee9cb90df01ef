/-! ===== STAGE B: calls of both sides: nextStep, rowHeight, tallest, heightAt, narrowest ===== -/
/-- z is the first in a .. b-1 of which P holds, or b -/
def LsT (P : Int → Prop) (a b z : Int) : Prop := (z = b ∧ ∀ i, a ≤ i → i < b → ¬ P i) ∨ ((a ≤ z ∧ z < b) ∧ P z ∧ ∀ i, a ≤ i → i < z → ¬ P i)
theorem LsT.uq {P : Int → Prop} {a b y z : Int} (h1 : LsT P a b y) (h2 : LsT P a b z) : y = z := by
  rcases h1 with ⟨e1, n1⟩ | ⟨b1, p1, n1⟩
  · rcases h2 with ⟨e2, n2⟩ | ⟨b2, p2, n2⟩
    · rw [e1, e2]
    · exact absurd p2 (n1 z b2.1 b2.2)
  · rcases h2 with ⟨e2, n2⟩ | ⟨b2, p2, n2⟩
    · exact absurd p1 (n2 y b1.1 b1.2)
    · by_cases c : y < z
      · exact absurd p1 (n2 y b1.1 c)
      · by_cases c2 : z < y
        · exact absurd p2 (n1 z b2.1 c2)
        · omega
theorem LsT.hit {P : Int → Prop} {a b : Int} (h : P a) (hab : a < b) : LsT P a b a := Or.inr ⟨⟨by omega, hab⟩, h, fun i h1 h2 => by omega⟩
theorem LsT.nil {P : Int → Prop} {a b : Int} (hab : a = b) : LsT P a b b := Or.inl ⟨rfl, fun i h1 h2 => by omega⟩
theorem LsT.nx {P : Int → Prop} {a b z : Int} (h : ¬ P a) (l : LsT P (a + 1) b z) : LsT P a b z := by
  rcases l with ⟨e1, n1⟩ | ⟨b1, p1, n1⟩
  · refine Or.inl ⟨e1, fun i h1 h2 => ?_⟩
    by_cases c : i = a
    · rw [c]; exact h
    · exact n1 i (by omega) h2
  · refine Or.inr ⟨⟨by omega, b1.2⟩, p1, fun i h1 h2 => ?_⟩
    by_cases c : i = a
    · rw [c]; exact h
    · exact n1 i (by omega) h2
theorem LsT.bd {P : Int → Prop} {a b z : Int} (l : LsT P a b z) (hab : a ≤ b) : a ≤ z ∧ z ≤ b := by
  rcases l with ⟨e1, -⟩ | ⟨b1, -⟩ <;> omega
theorem SL.rq {h : Hp} {D : Dt} (wd : WD D) (s : SL h) (t : TM h 2 D.1) {x : Int} (hx : 0 ≤ x ∧ x < D.1 5) {α : Type} {k : Option α} : chk (okr h 1 8) (chk (okr h (qR h 1 0) 7) (chk (okr h (qR h (qR h 1 0) 8) 25) (chk (vp_in (iN x) (qW h (qR h (qR h 1 0) 8))) (chk (okr h (qR h (qR h (qR h 1 0) 8) (iN x).toNatClampNeg) 1) k)))) = k := by
  have h5 := wd.1.1.2.2.2.2.2
  rw [chk_pos s.o1, s.t0, chk_pos t.1.o, t.1.r8, chk_pos t.1.o3, t.1.w3, ck_in (by omega) (by omega) (by omega), cA_eq (by omega) (by omega), chk_pos (t.1.co (by omega))]
theorem g_nextL {m : Int → Int} (w : WF m) {i c : Int} (hi : 0 ≤ i ∧ i < m 5) (hc : 0 ≤ c ∧ c ≤ 1000) {a : Nat} : ∀ (d : Nat) (x : Int) (h : Hp) (n : Nat), x + d = 100 → d < n → mnC m i ≤ x → SL h → TM h 2 m → a = cA h 2 i →
    ∃ h2 z, f_X8_nextStep_L48 n h 1 a (iN c) (iN x) = f_X8_nextStep_L76 h2 (iN z) ∧ FZ (pH 2) h h2 ∧ TM h2 2 m ∧ LsT (fun y => hC m i y < c) x 100 z := by
  have wb := (w.2.2.1 i hi.1 hi.2).2
  have mb := mnB_bd wb
  have h3 := w.1.2.2.2.1
  have mc : mnC m i = mnB (blk m i) + 2 * m 3 := rfl
  intro d
  induction d with
  | zero =>
    intro x h n hx hn hm s t ha
    obtain ⟨n, rfl⟩ : ∃ z, n = z + 1 := ⟨n - 1, by omega⟩
    refine ⟨h, 100, ?_, FZ.rf, t, LsT.nil (by omega)⟩
    show f_X8_nextStep_B48 (f_X8_nextStep_L48 n) h 1 a (iN c) (iN x) = f_X8_nextStep_L76 h (iN 100)
    unfold f_X8_nextStep_B48
    rw [if_pos (yltN (by omega) (by omega) (by omega)), show x = 100 by omega]
  | succ d ih =>
    intro x h n hx hn hm s t ha
    obtain ⟨n, rfl⟩ : ∃ z, n = z + 1 := ⟨n - 1, by omega⟩
    obtain ⟨h2, e2, f2, t2⟩ := g_heightWithin t w hi (x := x) (by omega) (by omega)
    have hb := hB_bd wb (x := x - 2 * m 3) (by omega)
    have hh : hC m i x = hB (blk m i) (x - 2 * m 3) + 2 * m 3 := rfl
    by_cases p : hC m i x < c
    · refine ⟨h2, x, ?_, f2, t2, LsT.hit p (by omega)⟩
      show f_X8_nextStep_B48 (f_X8_nextStep_L48 n) h 1 a (iN c) (iN x) = f_X8_nextStep_L76 h2 (iN x)
      unfold f_X8_nextStep_B48
      rw [if_neg (nltN (by omega) (by omega) (by omega)), chk_pos s.o1, s.t0, chk_pos t.1.o, ha, e2, bnd_ret, if_pos (yltN p (by omega) (by omega))]
    · obtain ⟨h4, z, e4, f4, t4, l4⟩ := ih (x + 1) h2 n (by omega) (by omega) (by omega) (s.ly f2.1) t2 (by rw [ha]; exact (cA_ly f2.1).symm)
      refine ⟨h4, z, ?_, f2.tr f4, t4, l4.nx p⟩
      show f_X8_nextStep_B48 (f_X8_nextStep_L48 n) h 1 a (iN c) (iN x) = f_X8_nextStep_L76 h4 (iN z)
      unfold f_X8_nextStep_B48
      rw [if_neg (nltN (by omega) (by omega) (by omega)), chk_pos s.o1, s.t0, chk_pos t.1.o, ha, e2, bnd_ret, if_neg (nltN (by omega) (by omega) (by omega)), iN_add, ← ha, e4]
theorem g_nextL9 {m : Int → Int} (w : WF m) {i c : Int} (hi : 0 ≤ i ∧ i < m 5) (hc : 0 ≤ c ∧ c ≤ 1000) : ∀ (d : Nat) (x : Int) (h : Hp) (n : Nat), x + d = 100 → d < n → mnC m i ≤ x → SL h → RM h 632 m →
    ∃ h2 z, f_X9_nextStep_L51 n h 632 (iN i) (iN c) (iN x) = (if z = 100 then some (putI h2 632 0 (iN 3), .inr (iN 0)) else some (h2, .inr (iN z))) ∧ FZ (pB 632) h h2 ∧ LsT (fun y => hC m i y < c) x 100 z := by
  have wb := (w.2.2.1 i hi.1 hi.2).2
  have mb := mnB_bd wb
  have h3 := w.1.2.2.2.1
  have h5 := w.1.2.2.2.2.2
  have mc : mnC m i = mnB (blk m i) + 2 * m 3 := rfl
  intro d
  induction d with
  | zero =>
    intro x h n hx hn hm s r
    obtain ⟨n, rfl⟩ : ∃ z, n = z + 1 := ⟨n - 1, by omega⟩
    refine ⟨h, 100, ?_, FZ.rf, LsT.nil (by omega)⟩
    show f_X9_nextStep_B51 (f_X9_nextStep_L51 n) h 632 (iN i) (iN c) (iN x) = (if (100 : Int) = 100 then some (putI h 632 0 (iN 3), .inr (iN 0)) else some (h, .inr (iN 100)))
    unfold f_X9_nextStep_B51
    rw [if_pos (yltN (by omega) (by omega) (by omega)), chk_pos s.m.1, g_fails s, bnd_ret, if_pos rfl]
  | succ d ih =>
    intro x h n hx hn hm s r
    obtain ⟨n, rfl⟩ : ∃ z, n = z + 1 := ⟨n - 1, by omega⟩
    obtain ⟨h2, e2, f2⟩ := g_heightOf r (i := i) (by omega) wb h3 (x := x) (by omega) (by omega)
    have hb := hB_bd wb (x := x - 2 * m 3) (by omega)
    have hh : hC m i x = hB (blk m i) (x - 2 * m 3) + 2 * m 3 := rfl
    by_cases p : hC m i x < c
    · refine ⟨h2, x, ?_, f2, LsT.hit p (by omega)⟩
      show f_X9_nextStep_B51 (f_X9_nextStep_L51 n) h 632 (iN i) (iN c) (iN x) = (if x = 100 then some (putI h2 632 0 (iN 3), .inr (iN 0)) else some (h2, .inr (iN x)))
      unfold f_X9_nextStep_B51
      rw [if_neg (nltN (by omega) (by omega) (by omega)), chk_pos s.m.1, e2, bnd_ret, if_neg (nleN p (by omega) (by omega)), if_neg (by omega)]
    · obtain ⟨h4, z, e4, f4, l4⟩ := ih (x + 1) h2 n (by omega) (by omega) (by omega) (s.ly f2.1) (r.fz f2 (fun j z => by unfold pB at z; omega))
      refine ⟨h4, z, ?_, f2.tr f4, l4.nx p⟩
      show f_X9_nextStep_B51 (f_X9_nextStep_L51 n) h 632 (iN i) (iN c) (iN x) = (if z = 100 then some (putI h4 632 0 (iN 3), .inr (iN 0)) else some (h4, .inr (iN z)))
      unfold f_X9_nextStep_B51
      rw [if_neg (nltN (by omega) (by omega) (by omega)), chk_pos s.m.1, e2, bnd_ret, if_pos (yleN (by omega) (by omega) (by omega)), iN_add, e4]
theorem o_nextStep {h : Hp} {D : Dt} (wd : WD D) (s : SL h) (c : CI h D) {x y : Int} (hx : InR x) (hy : InR y) : OpP h D (f_L_nextStep h 1 (iN x) (iN y) 656) (fun h1 => f_X9_nextStep h1 632 (iN x) (iN y)) := by
  have w := wd.1
  have t := c.1.1
  have h5 := w.1.2.2.2.2.2
  have h3 := w.1.2.2.2.1
  by_cases q : 0 ≤ x ∧ x ≤ D.1 5 - 1
  · have hx3 : 0 ≤ x ∧ x < D.1 5 := by omega
    have hx2 : 0 ≤ x ∧ x < 16 := by omega
    have wb := (w.2.2.1 x hx3.1 hx3.2).2
    have mb := mnB_bd wb
    have mc : mnC D.1 x = mnB (blk D.1 x) + 2 * D.1 3 := rfl
    by_cases p : mnC D.1 x ≤ y ∧ y ≤ 99
    · have hb := hB_bd wb (x := y - 2 * D.1 3) (by omega)
      have hh : hC D.1 x y = hB (blk D.1 x) (y - 2 * D.1 3) + 2 * D.1 3 := rfl
      obtain ⟨h2, e2, f2, t2⟩ := g_heightWithin t w hx3 (x := y) (by omega) (by omega)
      obtain ⟨h6, z, e6, f6, t6, l6⟩ := g_nextL w hx3 (c := hC D.1 x y) (by omega) (a := cA h 2 x) (99 - y).toNat (y + 1) h2 2000 (by omega) (by omega) (by omega) (s.ly f2.1) t2 (cA_ly f2.1).symm
      have zb := l6.bd (by omega)
      have s6 := (s.ly f2.1).ly f6.1
      have f26 := f2.tr f6
      have cls : f_X8_nextStep h 1 (iN x) (iN y) = f_X8_nextStep_L76 h6 (iN z) := by
        unfold f_X8_nextStep
        rw [chk_pos s.o1, g_rqCell w s t hx, if_pos q, bnd_ret, SL.rq wd s t hx3, s.t0, t.1.r8, cA_eq (by omega) (by omega), g_minimumOf t w hx3, bnd_ret, g_isW hy ⟨by omega, by omega⟩ ⟨by omega, by omega⟩, bnd_ret, g_rqA, if_pos p, bnd_ret, chk_pos s.o1, s.t0, chk_pos t.1.o, e2, bnd_ret, iN_add, e6]
      have ref : ∀ h1, SL h1 → RM (putI h1 632 0 (iN 0)) 632 D.1 → SL (putI h1 632 0 (iN 0)) → ∃ h2, f_X9_nextStep h1 632 (iN x) (iN y) = (if z = 100 then some (putI h2 632 0 (iN 3), .inr (iN 0)) else some (h2, .inr (iN z))) ∧ FZ (pX 632) (putI h1 632 0 (iN 0)) h2 := by
        intro h1 s1 rm s0
        obtain ⟨h3, e3, f3⟩ := g_leastOf rm hx2 wb
        have s3 := s0.ly f3.1
        have rm3 := rm.fz f3 (fun j z => by unfold pB at z; omega)
        obtain ⟨h4, e4, f4⟩ := g_heightOf rm3 hx2 wb w.1.2.2.2.1 (x := y) (by omega) (by omega)
        have s4 := s3.ly f4.1
        obtain ⟨h8, z8, e8, f8, l8⟩ := g_nextL9 w hx3 (c := hC D.1 x y) (by omega) (99 - y).toNat (y + 1) h4 2000 (by omega) (by omega) (by omega) s4 (rm3.fz f4 (fun j z => by unfold pB at z; omega))
        rw [l8.uq l6] at e8
        refine ⟨h8, ?_, ((f3.tr f4).tr f8).bx⟩
        unfold f_X9_nextStep
        rw [chk_pos s1.m.1, lt_is, g_isCell rm w hx, bnd_ret, if_neg (fun z => bN0.mp z q), chk_pos s0.m.1, e3, bnd_ret, g_in hy ⟨by omega, by omega⟩ ⟨by omega, by omega⟩, bnd_ret, if_neg (fun z => bN0.mp z p), chk_pos s3.m.1, e4, bnd_ret, iN_add, e8]
      by_cases zz : z = 100
      · refine OpP.f 3 (by omega) wd s6 (c.h wd f26 t6) f26.h632 (by rw [f26.qc.1]; omega) (by rw [f26.qc.2]; omega) ?_ (fun h1 s1 r1 s0 rm => ?_)
        · unfold f_L_nextStep
          rw [chk_pos s.o1, cls]
          unfold f_X8_nextStep_L76 f_X8_nextStep_L88
          rw [if_pos (yltN (by omega) (by omega) (by omega)), g_rqE0, bnd_thr, bndX_thr, if_neg (by decide), if_neg (by decide), if_pos rfl]
        · obtain ⟨h8, e8, f8⟩ := ref h1 s1 rm s0
          exact ⟨h8, by rw [e8, if_pos zz], f8⟩
      · refine OpP.a z wd s6 (c.h wd f26 t6) f26.h632 (by rw [f26.qc.1]; omega) (by rw [f26.qc.2]; omega) ?_ (fun h1 s1 r1 s0 rm => ?_)
        · unfold f_L_nextStep
          rw [chk_pos s.o1, cls]
          unfold f_X8_nextStep_L76 f_X8_nextStep_L88
          rw [if_neg (nltN (by omega) (by omega) (by omega)), g_rqE1, bnd_ret, bndX_ret]
        · obtain ⟨h8, e8, f8⟩ := ref h1 s1 rm s0
          exact ⟨h8, by rw [e8, if_neg zz], f8⟩
    · refine OpP.f 2 (by omega) wd s c (fun _ _ _ => rfl) (Nat.le_refl _) (Nat.le_refl _) ?_ (fun h1 s1 r1 s0 rm => ?_)
      · unfold f_L_nextStep f_X8_nextStep
        rw [chk_pos s.o1, chk_pos s.o1, g_rqCell w s t hx, if_pos q, bnd_ret, SL.rq wd s t hx3, s.t0, t.1.r8, cA_eq (by omega) (by omega), g_minimumOf t w hx3, bnd_ret, g_isW hy ⟨by omega, by omega⟩ ⟨by omega, by omega⟩, bnd_ret, g_rqA, if_neg p, bnd_thr, bndX_thr, if_neg (by decide), if_pos rfl]
      · obtain ⟨h3, e3, f3⟩ := g_leastOf rm hx2 wb
        have s3 := s0.ly f3.1
        refine ⟨h3, ?_, f3.bx⟩
        unfold f_X9_nextStep
        rw [chk_pos s1.m.1, lt_is, g_isCell rm w hx, bnd_ret, if_neg (fun z => bN0.mp z q), chk_pos s0.m.1, e3, bnd_ret, g_in hy ⟨by omega, by omega⟩ ⟨by omega, by omega⟩, bnd_ret, if_pos (bN0.mpr p), chk_pos s3.m.1, g_fails s3, bnd_ret]
  · refine OpP.f0 1 (by omega) wd s c ?_ (fun h1 s1 r1 s0 rm => ?_)
    · unfold f_L_nextStep f_X8_nextStep
      rw [chk_pos s.o1, chk_pos s.o1, g_rqCell w s t hx, if_neg q, bnd_thr, bndX_thr, if_pos rfl]
    · unfold f_X9_nextStep
      rw [chk_pos s1.m.1, lt_is, g_isCell rm w hx, bnd_ret, if_pos (bN0.mpr q), chk_pos s0.m.1, g_fails s0, bnd_ret]
