/-! ===== STAGE B: the class's restart; the table's width doesn't matter to the measures ===== -/
theorem g_rs17 {S C T : Nat} {m V : Int → Int} (w : WF m) {L : Int} : ∀ (d k : Nat) (h : Hp) (n : Nat), (k : Int) + d = m 0 → d < n → LU h S C T → LK h C T → TM h T m → KM h C m → AR h (S + 40) (m 0) (fun c => if c < k then ndF m c else V c) → qI h S 5 = iN (sumF (ndF m) 0 k) → qI h S 6 = iN (lfF m k) → qI h S 9 = iN L →
    ∃ h2, f_X6_restart_L17 n h S (iN k) = some (h2, .inr ()) ∧ FZ (fun x j => (x = S ∧ (j = 5 ∨ j = 6)) ∨ x = S + 40 ∨ x = S + 1) h h2 ∧ SM h2 S m L := by
  have hm := w.1.2.2.2.2.2
  have h0 := w.1.1
  intro d
  induction d with
  | zero =>
    intro k h n hk hn l lk tm km An q5 q6 q9
    obtain ⟨n, rfl⟩ : ∃ z, n = z + 1 := ⟨n - 1, by omega⟩
    have ek : (m 0).toNat = k := by omega
    have fp : FZ (fun x j => (x = S ∧ (j = 5 ∨ j = 6)) ∨ x = S + 40 ∨ x = S + 1) h (fillN h (S + 1) (iN (-2)) 37) := ⟨Ly.fill, fun x j z => if_neg (fun q => z (Or.inr (Or.inr q.1)))⟩
    have ne : ∀ x j, x ≠ S + 1 → qI (fillN h (S + 1) (iN (-2)) 37) x j = qI h x j := fun x j z => if_neg (fun q => z q.1)
    refine ⟨fillN h (S + 1) (iN (-2)) 37, ?_, fp, ?_, ?_, ?_, ?_, ?_⟩
    · show f_X6_restart_B17 (f_X6_restart_L17 n) h S (iN k) = _
      unfold f_X6_restart_B17
      rw [chk_pos l.o, l.r0, chk_pos tm.1.o, tm.cs, if_pos (yleN (by omega) (by omega) (by omega)), l.r2, chk_pos l.o1, g_fill l.o1 (by rw [l.w1]; omega), bnd_ret, l.w1]
    · exact fun c c1 c2 => by rw [ne _ _ (by omega), An c c1 c2]; dsimp only; rw [if_pos (by omega)]
    · rw [ne _ _ (by omega), ek]; exact q5
    · rw [ne _ _ (by omega), ek]; exact q6
    · rw [ne _ _ (by omega)]; exact q9
    · exact fun x x1 x2 => Or.inl (if_pos ⟨rfl, by omega⟩)
  | succ d ih =>
    intro k h n hk hn l lk tm km An q5 q6 q9
    obtain ⟨n, rfl⟩ : ∃ z, n = z + 1 := ⟨n - 1, by omega⟩
    have st := l.st
    have ct := lk.ct
    have kc : (iN (k : Int)).toNatClampNeg = (k : Int).toNat := iN_cl (by omega) (by omega)
    have nb := ndF_bd w (c := k) (by omega)
    generalize hha : putI h (S + 40) (k : Int).toNat (iN (ndF m k)) = ha
    generalize hhb : putI ha S 5 (iN (sumF (ndF m) 0 (k + 1))) = hb
    generalize hhc : putI hb S 6 (iN (lfF m (k + 1))) = hc
    have fa : FZ (fun x j => (x = S ∧ (j = 5 ∨ j = 6)) ∨ x = S + 40 ∨ x = S + 1) h ha := by rw [← hha]; exact FZ.pI (Or.inr (Or.inl rfl))
    have fb : FZ (fun x j => (x = S ∧ (j = 5 ∨ j = 6)) ∨ x = S + 40 ∨ x = S + 1) ha hb := by rw [← hhb]; exact FZ.pI (Or.inl ⟨rfl, Or.inl rfl⟩)
    have fc : FZ (fun x j => (x = S ∧ (j = 5 ∨ j = 6)) ∨ x = S + 40 ∨ x = S + 1) hb hc := by rw [← hhc]; exact FZ.pI (Or.inl ⟨rfl, Or.inr rfl⟩)
    have fab := fa.tr fb
    have fabc := fab.tr fc
    have la := l.ly fa.1
    have lb := l.ly fab.1
    have lc := l.ly fabc.1
    have np : ∀ x j, x < S → ¬ ((x = S ∧ (j = 5 ∨ j = 6)) ∨ x = S + 40 ∨ x = S + 1) := fun x j z => by omega
    have tb := tm.fz hm fab (fun x j z1 z2 => np x j (by omega))
    have tc := tm.fz hm fabc (fun x j z1 z2 => np x j (by omega))
    have kc' := km.fz fabc (fun x j z1 z2 => np x j (by omega))
    obtain ⟨h2, e2, g2, s2⟩ := ih (k + 1) hc n (by omega) (by omega) lc (lk.ly fabc.1) tc kc' (by
      intro c c1 c2
      rw [← hhc, ← hhb, ← hha]
      by_cases hcc : c = k
      · rw [hcc, rd_ne (by omega), rd_ne (by omega), rd_eq]
        dsimp only
        rw [if_pos (by omega)]
      · rw [rd_ne (by omega), rd_ne (by omega), rd_nk (by omega), An c c1 c2]
        dsimp only
        by_cases q : c < k
        · rw [if_pos q, if_pos (by omega)]
        · rw [if_neg q, if_neg (by omega)]) (by rw [← hhc, ← hhb, rd_nk (by omega), rd_eq]) (by rw [← hhc, rd_eq]) (by rw [fabc.2 S 9 (by omega)]; exact q9)
    refine ⟨h2, ?_, fabc.tr g2, s2⟩
    have l64 : f_X6_restart_L64 (f_X6_restart_L17 n) h S (iN k) (iN (ndF m k)) (iN k) (S + 40) = some (h2, .inr ()) := by
      have r5 : qI ha S 5 = iN (sumF (ndF m) 0 k) := by rw [← hha, rd_ne (by omega)]; exact q5
      have r40 : qI ha (S + 40) (k : Int).toNat = iN (ndF m k) := by rw [← hha, rd_eq]
      have es : sumF (ndF m) 0 k + ndF m k = sumF (ndF m) 0 (k + 1) := by rw [sumF, show (0 : Int) + (k : Int) = k by omega]
      have r6 : qI hb S 6 = iN (lfF m k) := by rw [← hhb, rd_nk (by omega), ← hha, rd_ne (by omega)]; exact q6
      unfold f_X6_restart_L64 f_X6_restart_L97
      rw [chk_pos l.o40, l.w40, ck_in (by omega) (by omega) (by omega), kc, lt_is, hha, chk_pos la.o, la.r4, chk_pos la.o40, la.w40, ck_in (by omega) (by omega) (by omega), r5, r40, iN_add, es, lt_is, hhb, g_isFree w lb tb (by omega), bnd_ret]
      by_cases hf : fxF m k = true
      · rw [if_pos (bN0.mpr (fun z => z hf)), chk_pos lb.o, chk_pos lb.o, r6, iN_add]
        have : lfF m (k + 1) = lfF m k := by rw [lfF, if_pos hf]
        rw [← this, hhc, lt_is]
        exact e2
      · rw [if_neg (fun z => bN0.mp z hf), chk_pos lb.o, iN_add]
        have : lfF m (k + 1) = k := by rw [lfF, if_neg hf]
        rw [show iN (k : Int) = iN (lfF m (k + 1)) by rw [this], hhc, lt_is]
        exact e2
    show f_X6_restart_B17 (f_X6_restart_L17 n) h S (iN k) = _
    unfold f_X6_restart_B17
    rw [chk_pos l.o, l.r0, chk_pos tm.1.o, tm.cs, if_neg (nleN (by omega) (by omega) (by omega)), l.r4, chk_pos l.o40, g_isFree w l tm (by omega), bnd_ret]
    by_cases hf : fxF m k = true
    · have en : ndF m k = gsF m 2 k := by unfold fxF at hf; unfold ndF gsF; rw [if_pos (of_decide_eq_true hf), if_neg (by omega), if_neg (by omega), if_pos rfl]
      have e2' := lk.gi (g := 2) (by omega)
      have o2' := lk.go (g := (2 : Int).toNat) (by decide)
      have w2' := lk.gw (g := (2 : Int).toNat) (by decide)
      have r2' := km.2.2.2.1.rd (g := 2) (c := k) (by omega) (by omega)
      rw [if_pos (bN0.mpr (fun z => z hf)), chk_pos l.o, l.r1, chk_pos lk.o, lk.r4, chk_pos lk.o4, lk.w4, ck_in (by omega) (by omega) (by omega), e2', chk_pos o2', w2', ck_in (by omega) (by omega) (by omega), kc, r2', ← en]
      exact l64
    · have en : ndF m k = (msW m).1 k := by unfold fxF at hf; unfold ndF; rw [if_neg (fun z => hf (decide_eq_true z))]
      have r1' := km.1 k (by omega) (by omega)
      rw [if_neg (fun z => bN0.mp z hf), chk_pos l.o, l.r1, chk_pos lk.o, lk.r1, chk_pos lk.o1, lk.w1, ck_in (by omega) (by omega) (by omega), kc, r1', ← en]
      exact l64
theorem g_restart {h : Hp} {S C T : Nat} {m : Int → Int} (w : WF m) {L : Int} (l : LU h S C T) (lk : LK h C T) (tm : TM h T m) (km : KM h C m) : ∃ h2, f_X6_restart h S (iN L) = some (h2, .inr ()) ∧ FZ (fun x _ => S ≤ x ∧ x ≤ S + 47) h h2 ∧ SM h2 S m L := by
  have hm := w.1.2.2.2.2.2
  have h0 := w.1.1
  have st := l.st
  have ct := lk.ct
  generalize hha : putI (putI (putI h S 9 (iN L)) S 5 (iN 0)) S 6 (iN (-1)) = ha
  have fa : FZ (fun x _ => S ≤ x ∧ x ≤ S + 47) h ha := by
    rw [← hha]
    exact ((FZ.pI (by omega)).tr (FZ.pI (by omega))).tr (FZ.pI (by omega))
  obtain ⟨V, A⟩ := AR.any ha (S + 40) (m 0)
  obtain ⟨h2, e2, g2, s2⟩ := g_rs17 (V := V) (L := L) w (m 0).toNat 0 ha 2000 (by omega) (by omega) (l.ly fa.1) (lk.ly fa.1) (tm.fz hm fa (fun x j z1 z2 z3 => by omega)) (km.fz fa (fun x j z1 z2 z3 => by omega)) (A.cg (fun c z1 z2 => by rw [if_neg (by omega)])) (by rw [← hha, rd_nk (by omega), rd_eq]; rfl) (by rw [← hha, rd_eq]; rfl) (by rw [← hha, rd_nk (by omega), rd_nk (by omega), rd_eq])
  refine ⟨h2, ?_, fa.tr (g2.mo (fun x j z => by omega)), s2⟩
  unfold f_X6_restart
  rw [chk_pos l.o, lt_is, lt_is, lt_is, hha]
  exact e2
/-! only the table's width differs -/
def E1 (m n : Int → Int) : Prop := ∀ k, k ≠ 1 → n k = m k
theorem E1.u1 {m : Int → Int} {x : Int} : E1 m (up m 1 x) := fun k hk => up_ne hk
theorem E1.bl {m n : Int → Int} (e : E1 m n) {i k : Int} (hi : 0 ≤ i) (hk : 0 ≤ k) : blk n i k = blk m i k := e _ (by omega)
theorem E1.ps {m n : Int → Int} (e : E1 m n) {i : Int} (hi : 0 ≤ i) : psB (blk n i) = psB (blk m i) := by
  have a := wsB_cg (b := blk m i) (b2 := blk n i) (e.bl hi (by omega)) (fun k h1 h2 => ⟨e.bl hi (by omega), e.bl hi (by omega)⟩)
  unfold psB
  rw [a, e.bl hi (by omega)]
theorem E1.mn {m n : Int → Int} (e : E1 m n) {i : Int} (hi : 0 ≤ i) : mnC n i = mnC m i := by
  unfold mnC mnB
  rw [e.ps hi, e.bl hi (by omega), e.bl hi (by omega), e 3 (by omega)]
theorem E1.mx {m n : Int → Int} (e : E1 m n) {i : Int} (hi : 0 ≤ i) : mxC n i = mxC m i := by
  unfold mxC mxB
  rw [e.ps hi, e.bl hi (by omega), e.bl hi (by omega), e 3 (by omega)]
theorem E1.hc {m n : Int → Int} (e : E1 m n) {i x : Int} (hi : 0 ≤ i) : hC n i x = hC m i x := by
  unfold hC hB lnB
  rw [e.ps hi, e.bl hi (show (0 : Int) ≤ 3 by omega), e.bl hi (show (0 : Int) ≤ 5 by omega), e.bl hi (show (0 : Int) ≤ 6 by omega), e 3 (by omega)]
theorem E1.wc {m n : Int → Int} (e : E1 m n) {i : Int} {W : Int → Int} (hi : 0 ≤ i) : wC n i W = wC m i W := by
  unfold wC
  rw [e.bl hi (show (0 : Int) ≤ 1 by omega), e.bl hi (show (0 : Int) ≤ 2 by omega), e 2 (by omega)]
theorem E1.al {m n : Int → Int} (e : E1 m n) {i : Int} (hi : 0 ≤ i) : ∀ k : Nat, alB n i k = alB m i k
  | 0 => rfl
  | k + 1 => by
    rw [alB, alB, e.al hi k, e (6 + k) (by omega)]
    congr 1
    have a : inS n i k ↔ inS m i k := by
      unfold inS
      rw [e.bl hi (show (0 : Int) ≤ 1 by omega), e.bl hi (show (0 : Int) ≤ 2 by omega)]
    exact decide_eq_decide.mpr ⟨fun z q => z (a.mpr q), fun z q => z (a.mp q)⟩
theorem E1.wt {m n : Int → Int} (e : E1 m n) {i : Int} {hi : Int → Int} (h : 0 ≤ i) {c : Int} (hc : 0 ≤ c) : wtM n i hi c = wtM m i hi c := by
  unfold wtM shM inS
  rw [e.bl h (show (0 : Int) ≤ 1 by omega), e.bl h (show (0 : Int) ≤ 2 by omega), e 0 (by omega), e.al h, e (6 + c) (by omega)]
/-- sharing looks at its K columns alone -/
theorem shF_cg {a : Int} {wt wu : Int → Int} {K : Int} (h : ∀ c, 0 ≤ c → c < K → wt c = wu c) {c : Int} (hc : 0 ≤ c ∧ c < K) : shF a wt K c = shF a wu K c := by
  have t : shT wt K = shT wu K := sumF_cg _ (fun j h1 h2 => h j h1 (by omega))
  have p : ∀ x, 0 ≤ x → x < K → shP a wt K x = shP a wu K x := fun x x1 x2 => by unfold shP; rw [t, h x x1 x2]
  have l : ∀ k : Nat, (k : Int) ≤ K → shL a wt K k = shL a wu K k := by
    intro k
    induction k with
    | zero => intro _; rw [shL, shL, sumF_cg (V := shP a wu K) _ (fun j h1 h2 => p j h1 (by omega))]
    | succ k ih => intro hk; rw [shL, shL, ih (by omega), h k (by omega) (by omega)]
  unfold shF shX
  rw [p c hc.1 hc.2, l c.toNat (by omega), h c hc.1 hc.2]
/-- two pairs agree on the columns -/
def Q2 (m : Int → Int) (p q : P2) : Prop := ∀ c, 0 ≤ c → c < m 0 → p.1 c = q.1 c ∧ p.2 c = q.2 c
theorem wC_c2 {m V W : Int → Int} (w : WF m) {i : Int} (hi : 0 ≤ i ∧ i < m 5) (h : ∀ c, 0 ≤ c → c < m 0 → V c = W c) : wC m i V = wC m i W := by
  have co := (w.2.2.1 i hi.1 hi.2).1
  unfold CO at co
  exact wC_cg (c := m 0) (by omega) (fun x x1 x2 => h x (by omega) x2)
theorem E1.st {m n : Int → Int} (e : E1 m n) (w : WF m) {i : Int} (hi : 0 ≤ i ∧ i < m 5) {p q : P2} (h : Q2 m p q) : Q2 m (stp n i p) (stp m i q) := by
  have lo : ∀ c, 0 ≤ c → c < m 0 → stLo n i p.1 p.2 c = stLo m i q.1 q.2 c := fun c c1 c2 => by
    have a : wC n i p.1 = wC m i q.1 := (e.wc hi.1).trans (wC_c2 w hi (fun x x1 x2 => (h x x1 x2).1))
    have hw : ∀ x, 0 ≤ x → x < m 0 → wtM n i p.2 x = wtM m i q.2 x := fun x x1 x2 => (e.wt hi.1 x1).trans (by unfold wtM; rw [(h x x1 x2).2])
    unfold stLo
    rw [a, e.mn hi.1, e 0 (by omega)]
    by_cases z : 0 < mnC m i - wC m i q.1
    · rw [if_pos z, if_pos z, shF_cg hw ⟨c1, c2⟩, (h c c1 c2).1]
    · rw [if_neg z, if_neg z, (h c c1 c2).1]
  have mi : ∀ c, 0 ≤ c → c < m 0 → stMi n i p.1 p.2 c = stMi m i q.1 q.2 c := fun c c1 c2 => by
    unfold stMi
    rw [lo c c1 c2, (h c c1 c2).2]
  intro c c1 c2
  refine ⟨lo c c1 c2, ?_⟩
  have a : wC n i (stMi n i p.1 p.2) = wC m i (stMi m i q.1 q.2) := (e.wc hi.1).trans (wC_c2 w hi mi)
  have hw : ∀ x, 0 ≤ x → x < m 0 → wtM n i (stMi n i p.1 p.2) x = wtM m i (stMi m i q.1 q.2) x := fun x x1 x2 => (e.wt hi.1 x1).trans (by unfold wtM; rw [mi x x1 x2])
  show stHi n i p.1 p.2 c = stHi m i q.1 q.2 c
  unfold stHi
  rw [a, e.mx hi.1, e 0 (by omega)]
  by_cases z : 0 < mxC m i - wC m i (stMi m i q.1 q.2)
  · rw [if_pos z, if_pos z, shF_cg hw ⟨c1, c2⟩, mi c c1 c2]
  · rw [if_neg z, if_neg z, mi c c1 c2]
theorem E1.mf {m n : Int → Int} (e : E1 m n) (w : WF m) {s : Int} {p q : P2} (h : Q2 m p q) : ∀ k : Nat, (k : Int) ≤ m 5 → Q2 m (mF n s p k) (mF m s q k)
  | 0, _ => h
  | k + 1, hk => by
    have ih := e.mf w (s := s) h k (by omega)
    rw [mF, mF, e.bl (show (0 : Int) ≤ (k : Int) by omega) (by omega)]
    by_cases z : blk m k 2 = s
    · rw [if_pos z, if_pos z]; exact e.st w (by omega) ih
    · rw [if_neg z, if_neg z]; exact ih
theorem E1.ml {m n : Int → Int} (e : E1 m n) {c : Int} : ∀ k : Nat, msL n c k = msL m c k
  | 0 => rfl
  | k + 1 => by rw [msL, msL, e.ml k, e.mn (show (0 : Int) ≤ (k : Int) by omega), e.bl (show (0 : Int) ≤ (k : Int) by omega) (by omega), e.bl (show (0 : Int) ≤ (k : Int) by omega) (by omega)]
theorem E1.mh {m n : Int → Int} (e : E1 m n) {s c : Int} : ∀ k : Nat, msH n s c k = msH m s c k
  | 0 => rfl
  | k + 1 => by rw [msH, msH, e.mh k, e.mx (show (0 : Int) ≤ (k : Int) by omega), e.bl (show (0 : Int) ≤ (k : Int) by omega) (by omega), e.bl (show (0 : Int) ≤ (k : Int) by omega) (by omega)]
theorem E1.mg {m n : Int → Int} (e : E1 m n) (w : WF m) : ∀ k : Nat, Q2 m (mG n k) (mG m k)
  | 0 => fun c c1 c2 => by
    show (mIni n).1 c = (mIni m).1 c ∧ (mIni n).2 c = (mIni m).2 c
    unfold mIni
    dsimp only
    rw [e 5 (by omega), e.ml, e.mh, e (6 + c) (by omega)]
    exact ⟨rfl, rfl⟩
  | k + 1 => by
    have h5 := w.1.2.2.2.2.2
    rw [mG, mG, e 5 (by omega)]
    exact e.mf w (e.mg w k) _ (by omega)
theorem E1.ms {m n : Int → Int} (e : E1 m n) (w : WF m) : Q2 m (msW n) (msW m) := by
  unfold msW
  rw [e 0 (by omega)]
  exact e.mg w _
theorem E1.nd {m n : Int → Int} (e : E1 m n) (w : WF m) {c : Int} (hc : 0 ≤ c ∧ c < m 0) : ndF n c = ndF m c := by
  have h := (e.ms w c hc.1 hc.2).1
  unfold ndF gs2 gs1
  rw [e (6 + c) (by omega), h]
  by_cases z : tyS (m (6 + c)) = 1
  · rw [if_pos z, if_pos z, if_pos z, if_neg (by omega), if_neg (by omega)]
  · rw [if_neg z, if_neg z]
theorem E1.fx {m n : Int → Int} (e : E1 m n) {c : Int} (hc : 0 ≤ c) : fxF n c = fxF m c := by
  unfold fxF
  rw [e (6 + c) (by omega)]
theorem E1.lf {m n : Int → Int} (e : E1 m n) : ∀ k : Nat, lfF n k = lfF m k
  | 0 => rfl
  | k + 1 => by rw [lfF, lfF, e.lf k, e.fx (by omega)]
theorem E1.ly {m n : Int → Int} (e : E1 m n) (w : WF m) {lf : Int} : ∀ (d : Nat) (c sl : Int) (t : Int → Int), 0 ≤ c → c + d = m 0 → layC n lf d c sl t = layC m lf d c sl t
  | 0, _, _, _, _, _ => rfl
  | d + 1, c, sl, t, h0, h1 => by
    rw [layC, layC, e.fx h0, e.nd w (by omega)]
    exact wloop_cg _ _ _ (fun j hj => e.ly w d (c + 1) _ _ (by omega) (by omega))
theorem E1.rh {m n W : Int → Int} (e : E1 m n) {r : Int} : ∀ k : Nat, rhN n r W k = rhN m r W k
  | 0 => rfl
  | k + 1 => by rw [rhN, rhN, e.rh k, e.bl (show (0 : Int) ≤ (k : Int) by omega) (by omega), e.wc (show (0 : Int) ≤ (k : Int) by omega), e.hc (show (0 : Int) ≤ (k : Int) by omega)]
theorem E1.ta {m n : Int → Int} (e : E1 m n) : taH n = taH m := by
  funext W
  unfold taH
  rw [e 2 (by omega), e 4 (by omega), e 5 (by omega)]
  congr 2
  funext r
  exact e.rh _
theorem E1.sl {m n : Int → Int} (e : E1 m n) (w : WF m) {x : Int} : slF n x = slF m x := by
  have h0 := w.1.1
  unfold slF
  rw [e 2 (by omega), e 0 (by omega), sumF_cg (V := ndF m) _ (fun j h1 h2 => e.nd w (by omega))]
theorem E1.bs {m n : Int → Int} (e : E1 m n) (w : WF m) {L x : Int} : bsC n L x = bsC m L x := by
  have h0 := w.1.1
  unfold bsC
  rw [e.sl w, e 0 (by omega), e.lf, e.ta, e.ly w _ _ _ _ (by omega) (by omega)]
theorem E1.wf {m : Int → Int} (w : WF m) {x : Int} (hx : 8 ≤ x ∧ x ≤ 36) : WF (up m 1 x) := by
  have e : E1 m (up m 1 x) := E1.u1
  obtain ⟨⟨a0, a1, a2, a3, a4, a5⟩, b, c, d⟩ := w
  have eb : ∀ i k, 0 ≤ i → 0 ≤ k → blk (up m 1 x) i k = blk m i k := fun i k h1 h2 => e.bl h1 h2
  refine ⟨⟨?_, ?_, ?_, ?_, ?_, ?_⟩, fun c c1 c2 => ?_, fun i i1 i2 => ?_, fun i j i1 i2 i3 i4 => ?_⟩
  · rw [e 0 (by omega)]; exact a0
  · rw [up_eq]; exact hx
  · rw [e 2 (by omega)]; exact a2
  · rw [e 3 (by omega)]; exact a3
  · rw [e 4 (by omega)]; exact a4
  · rw [e 5 (by omega)]; exact a5
  · rw [e (6 + c) (by omega)]; exact b c c1 c2
  · rw [e 5 (by omega)] at i2
    obtain ⟨q1, q2⟩ := c i i1 i2
    unfold CO WB at *
    rw [eb i 0 i1 (by omega), eb i 1 i1 (by omega), eb i 2 i1 (by omega), eb i 3 i1 (by omega), eb i 4 i1 (by omega), eb i 5 i1 (by omega), eb i 6 i1 (by omega), e 4 (by omega), e 0 (by omega)]
    refine ⟨q1, q2.1, q2.2.1, q2.2.2.1, q2.2.2.2.1, fun k k1 k2 => ?_, q2.2.2.2.2.2⟩
    rw [eb i (7 + k) i1 (by omega), eb i (19 + k) i1 (by omega)]
    exact q2.2.2.2.2.1 k k1 k2
  · rw [e 5 (by omega)] at i3
    rw [eb i 0 i1 (by omega), eb j 0 (by omega) (by omega)] at i4
    rw [eb i 1 i1 (by omega), eb i 2 i1 (by omega), eb j 1 (by omega) (by omega), eb j 2 (by omega) (by omega)]
    exact d i j i1 i2 i3 i4
