/-! ===== STAGE B: the reference's search ===== -/
def HT (h : Hp) (M : Nat) (m : Int → Int) (n : Int) : Prop := ∀ i x : Int, 0 ≤ i → i < n → mnC m i ≤ x → x ≤ 99 → qI h (M + 19) (100 * i + x).toNat = iN (hC m i x)
theorem HT.fz {P : Nat → Nat → Prop} {h h2 : Hp} {M : Nat} {m : Int → Int} {n : Int} (t : HT h M m n) (f : FZ P h h2) (hp : ∀ j, ¬ P (M + 19) j) : HT h2 M m n := fun i x h1 h2 h3 h4 => (f.2 _ _ (hp _)).trans (t i x h1 h2 h3 h4)
def pR (M x j : Nat) : Prop := pB M x j ∨ x = M + 19
theorem g_rk18 {M : Nat} {m : Int → Int} (w : WF m) {K : Hp → Nat → Int32 → Option (Rs Unit)} {i : Int} (hi : 0 ≤ i ∧ i < m 5) : ∀ (d : Nat) (x : Int) (h : Hp) (n : Nat), (99 < x ∧ d = 0 ∨ x + d = 100) → d < n → mnC m i ≤ x → RM h M m → HT h M m i → (∀ y : Int, mnC m i ≤ y → y < x → y ≤ 99 → qI h (M + 19) (100 * i + y).toNat = iN (hC m i y)) → x ≤ 1000 →
    ∃ h2, f_X9_reckons_L18 K n h M (iN i) (iN x) = K h2 M (iN (i + 1)) ∧ FZ (pR M) h h2 ∧ HT h2 M m (i + 1) := by
  have hm := w.1.2.2.2.2.2
  have hp := w.1.2.2.2.1
  have wb := (w.2.2.1 i hi.1 hi.2).2
  have mb := mnB_bd wb
  have mc := mC_bd w hi
  have hi2 : 0 ≤ i ∧ i < 16 := by omega
  intro d
  induction d with
  | zero =>
    intro x h n hk hn hx r ht hy hx2
    obtain ⟨n, rfl⟩ : ∃ z, n = z + 1 := ⟨n - 1, by omega⟩
    refine ⟨h, ?_, FZ.rf, fun j y j1 j2 j3 j4 => ?_⟩
    · show f_X9_reckons_B18 K (f_X9_reckons_L18 K n) h M (iN i) (iN x) = _
      unfold f_X9_reckons_B18
      rw [if_pos (yltN (by omega) (by omega) (by omega)), iN_add]
    · by_cases q : j = i
      · rw [q] at j3 ⊢; exact hy y j3 (by omega) j4
      · exact ht j y j1 (by omega) j3 j4
  | succ d ih =>
    intro x h n hk hn hx r ht hy hx2
    obtain ⟨n, rfl⟩ : ∃ z, n = z + 1 := ⟨n - 1, by omega⟩
    obtain ⟨h3, e3, f3⟩ := g_heightOf r hi2 wb hp (x := x) (by omega) (fun z => by have := mb.2.2 z; unfold mnC at hx; omega)
    have r3 := r.b f3
    have fp : FZ (pA (M + 19)) h3 (putI h3 (M + 19) (100 * i + x).toNat (iN (hC m i x))) := FZ.pa
    have f4 : FZ (pR M) h (putI h3 (M + 19) (100 * i + x).toNat (iN (hC m i x))) := (f3.mo (fun y j z => Or.inl z)).tr (fp.mo (fun y j z => Or.inr z))
    have np : ∀ j, ¬ pB M (M + 19) j := fun j z => by unfold pB at z; omega
    obtain ⟨h2, e2, f2, t2⟩ := ih (x + 1) _ n (by omega) (by omega) (by omega) (r3.a fp (by omega)) (fun j y j1 j2 j3 j4 => by
      have mj := mC_bd w (i := j) (by omega)
      rw [rd_nk (by omega)]
      exact (ht.fz f3 np) j y j1 j2 j3 j4) (fun y y1 y2 y3 => by
      by_cases q : y = x
      · rw [q, rd_eq]
      · rw [rd_nk (by omega), f3.2 _ _ (np _)]
        exact hy y y1 (by omega) y3) (by omega)
    refine ⟨h2, ?_, f4.tr f2, t2⟩
    show f_X9_reckons_B18 K (f_X9_reckons_L18 K n) h M (iN i) (iN x) = _
    unfold f_X9_reckons_B18
    rw [if_neg (nltN (by omega) (by omega) (by omega)), chk_pos r.1.1, r.1.r28, chk_pos r.1.o28, e3, bnd_ret, chk_pos r3.1.o28, iN_mul, iN_add, r3.1.w28, ck_in (by omega) (by omega) (by omega), iN_cl (by omega) (by omega), lt_is, iN_add]
    exact e2
theorem g_rk2 {M : Nat} {m : Int → Int} (w : WF m) : ∀ (d k : Nat) (h : Hp) (n : Nat), (k : Int) + d = m 5 → d < n → RM h M m → HT h M m k → ∃ h2, f_X9_reckons_L2 n h M (iN k) = some (h2, .inr ()) ∧ FZ (pR M) h h2 ∧ HT h2 M m (m 5) := by
  have hm := w.1.2.2.2.2.2
  intro d
  induction d with
  | zero =>
    intro k h n hk hn r ht
    obtain ⟨n, rfl⟩ : ∃ z, n = z + 1 := ⟨n - 1, by omega⟩
    refine ⟨h, ?_, FZ.rf, by rw [show m 5 = (k : Int) by omega]; exact ht⟩
    show f_X9_reckons_B2 (f_X9_reckons_L2 n) h M (iN k) = _
    unfold f_X9_reckons_B2
    rw [chk_pos r.1.1, r.1.r1, chk_pos r.1.o1, r.1.w1, ck_in (by omega) (by omega) (by omega), g_rd r (by omega) (by omega), if_pos (yleN (by omega) (by omega) (by omega))]
  | succ d ih =>
    intro k h n hk hn r ht
    obtain ⟨n, rfl⟩ : ∃ z, n = z + 1 := ⟨n - 1, by omega⟩
    have hki : 0 ≤ (k : Int) ∧ (k : Int) < m 5 := by omega
    have wb := (w.2.2.1 k hki.1 hki.2).2
    have mc := mC_bd w hki
    obtain ⟨h3, e3, f3⟩ := g_leastOf r (i := k) (by omega) wb
    have np : ∀ j, ¬ pB M (M + 19) j := fun j z => by unfold pB at z; omega
    obtain ⟨h4, e4, f4, t4⟩ := g_rk18 w (K := f_X9_reckons_L2 n) hki (100 - mnC m k).toNat (mnC m k) h3 2000 (by omega) (by omega) (Int.le_refl _) (r.b f3) (ht.fz f3 np) (fun y y1 y2 y3 => by omega) (by omega)
    have f34 : FZ (pR M) h h4 := (f3.mo (fun y j z => Or.inl z)).tr f4
    obtain ⟨h2, e2, f2, t2⟩ := ih (k + 1) h4 n (by omega) (by omega) (r.fz f34 (fun j z => by unfold pR pB at z; omega)) t4
    refine ⟨h2, ?_, f34.tr f2, t2⟩
    show f_X9_reckons_B2 (f_X9_reckons_L2 n) h M (iN k) = _
    unfold f_X9_reckons_B2
    rw [chk_pos r.1.1, r.1.r1, chk_pos r.1.o1, r.1.w1, ck_in (by omega) (by omega) (by omega), g_rd r (by omega) (by omega), if_neg (nleN (by omega) (by omega) (by omega)), e3, bnd_ret]
    exact e4.trans e2
theorem g_reckons {h : Hp} {M : Nat} {m : Int → Int} (w : WF m) (r : RM h M m) : ∃ h2, f_X9_reckons h M = some (h2, .inr ()) ∧ FZ (pR M) h h2 ∧ HT h2 M m (m 5) := by
  have hm := w.1.2.2.2.2.2
  exact g_rk2 w (m 5).toNat 0 h 2000 (by omega) (by omega) r (fun i x h1 h2 h3 h4 => by omega)
theorem rhN_0 {m W : Int → Int} (w : WF m) {r : Int} (hr : m 4 ≤ r) : ∀ k : Nat, (k : Int) ≤ m 5 → rhN m r W k = 0
  | 0, _ => rfl
  | k + 1, hk => by
    have co := (w.2.2.1 k (by omega) (by omega)).1
    unfold CO at co
    rw [rhN, if_neg (by omega), rhN_0 w hr k (by omega)]
theorem g_tr98 {M : Nat} {F : Int → Int} {h : Hp} (l : LM h M) (A : AR h (M + 20) 6 F) : ∀ (d k : Nat) (n : Nat) (b : Int), k + d = 6 → d < n → f_X9_tableReckoned_L98 n h M (iN (b + sumF F 0 k)) (iN k) = some (h, .inr (iN (b + sumF F 0 6))) := by
  intro d
  induction d with
  | zero =>
    intro k n b hk hn
    obtain ⟨n, rfl⟩ : ∃ z, n = z + 1 := ⟨n - 1, by omega⟩
    show f_X9_tableReckoned_B98 (f_X9_tableReckoned_L98 n) h M _ (iN k) = _
    unfold f_X9_tableReckoned_B98
    rw [if_pos (yleN (by omega) (by omega) (by omega)), show k = 6 by omega]
  | succ d ih =>
    intro k n b hk hn
    obtain ⟨n, rfl⟩ : ∃ z, n = z + 1 := ⟨n - 1, by omega⟩
    have e2 := ih (k + 1) n b (by omega) (by omega)
    rw [sumF, show (0 : Int) + (k : Int) = k by omega, ← Int.add_assoc] at e2
    show f_X9_tableReckoned_B98 (f_X9_tableReckoned_L98 n) h M _ (iN k) = _
    unfold f_X9_tableReckoned_B98
    rw [if_neg (nleN (by omega) (by omega) (by omega)), chk_pos l.1, l.r29, chk_pos l.o29, l.w29, ck_in (by omega) (by omega) (by omega), iN_cl (by omega) (by omega), A k (by omega) (by omega), iN_add, iN_add]
    exact e2
theorem g_tr23 {M arr : Nat} {m W : Int → Int} (w : WF m) (g : GW m W) (g99 : ∀ i, 0 ≤ i → i < m 5 → wC m i W ≤ 99) (hA : arr ≠ M + 20) : ∀ (d k : Nat) (h : Hp) (n : Nat), (k : Int) + d = m 5 → d < n → RM h M m → HT h M m (m 5) → okr h arr 20 → qW h arr = 4 → AR h arr (m 0) W → AR h (M + 20) 6 (fun r => rhN m r W k) →
    ∃ h2, f_X9_tableReckoned_L23 n h M arr (iN k) = some (h2, .inr (iN (taH m W))) ∧ FZ (pA (M + 20)) h h2 := by
  have hm := w.1.2.2.2.2.2
  have h4 := w.1.2.2.2.2.1
  intro d
  induction d with
  | zero =>
    intro k h n hk hn r ht oa wa A B
    obtain ⟨n, rfl⟩ : ∃ z, n = z + 1 := ⟨n - 1, by omega⟩
    have ek : (m 5).toNat = k := by omega
    have e := g_tr98 r.1 B 6 0 2000 (m 2 * (m 4 + 1)) (by omega) (by omega)
    rw [sumF.eq_1, Int.add_zero] at e
    have es : sumF (fun r => rhN m r W k) 0 6 = sumF (fun r => rhN m r W (m 5).toNat) 0 (m 4).toNat := by
      rw [ek]
      have := sumF_in (F := fun r => rhN m r W k) (c := 0) (s := m 4) (K := 6) (by omega) (by omega) (by omega) (fun j j1 j2 j3 => rhN_0 w (by omega) k (by omega))
      exact this
    refine ⟨h, ?_, FZ.rf⟩
    show f_X9_tableReckoned_B23 (f_X9_tableReckoned_L23 n) h M arr (iN k) = _
    unfold f_X9_tableReckoned_B23
    rw [chk_pos r.1.1, r.1.r1, chk_pos r.1.o1, r.1.w1, ck_in (by omega) (by omega) (by omega), g_rd r (by omega) (by omega), if_pos (yleN (by omega) (by omega) (by omega)), ck_in (by omega) (by omega) (by omega), ck_in (by omega) (by omega) (by omega), g_rd r (by omega) (by omega), g_rd r (by omega) (by omega), iN_add, iN_mul]
    unfold taH
    rw [← es]
    exact e
  | succ d ih =>
    intro k h n hk hn r ht oa wa A B
    obtain ⟨n, rfl⟩ : ∃ z, n = z + 1 := ⟨n - 1, by omega⟩
    have hki : 0 ≤ (k : Int) ∧ (k : Int) < m 5 := by omega
    have hk2 : 0 ≤ (k : Int) ∧ (k : Int) < 16 := by omega
    have co := (w.2.2.1 k hki.1 hki.2).1
    unfold CO at co
    have b1 := rhN_bd w g (r := blk m k 0) k (by omega)
    have b2 := hC_bd w g hki
    have gk := g k hki.1 hki.2
    have g9 := g99 k hki.1 hki.2
    have rb : qI h (M + 20) (blk m k 0).toNat = iN (rhN m (blk m k 0) W k) := B (blk m k 0) (by omega) (by omega)
    have rh := ht k (wC m k W) hki.1 hki.2 gk.1 g9
    have fp : FZ (pA (M + 20)) h (putI h (M + 20) (blk m k 0).toNat (iN (max (rhN m (blk m k 0) W k) (hC m k (wC m k W))))) := FZ.pa
    obtain ⟨h2, e2, f2⟩ := ih (k + 1) _ n (by omega) (by omega) (r.a fp (by omega)) (ht.fz fp (fun j z => by unfold pA at z; omega)) oa wa (A.ne hA) ((B.put (k := blk m k 0) (v := max (rhN m (blk m k 0) W k) (hC m k (wC m k W))) (by omega)).cg (fun c z1 z2 => by
      unfold up
      rw [rhN]
      by_cases q : c = blk m k 0
      · rw [if_pos q, if_pos q.symm, q]
      · rw [if_neg q, if_neg (fun z => q z.symm)]))
    refine ⟨h2, ?_, fp.tr f2⟩
    have bc : (iN (blk m k 0)).toNatClampNeg = (blk m k 0).toNat := iN_cl (by omega) (by omega)
    show f_X9_tableReckoned_B23 (f_X9_tableReckoned_L23 n) h M arr (iN k) = _
    unfold f_X9_tableReckoned_B23
    rw [chk_pos r.1.1, r.1.r1, chk_pos r.1.o1, r.1.w1, ck_in (by omega) (by omega) (by omega), g_rd r (by omega) (by omega), if_neg (nleN (by omega) (by omega) (by omega)), r.1.r29, chk_pos r.1.o29, g_ofA r hk2 (by omega), bnd_ret, chk_pos r.1.1, r.1.r29, chk_pos r.1.o29, g_ofA r hk2 (by omega), bnd_ret, chk_pos r.1.o29, r.1.w29, ck_in (by omega) (by omega) (by omega), chk_pos r.1.1, r.1.r28, chk_pos r.1.o28, g_widthOf r w hki oa wa A, bnd_ret, chk_pos r.1.o28, iN_mul, iN_add, r.1.w28, ck_in (by omega) (by omega) (by omega), iN_cl (z := 100 * (k : Int) + wC m k W) (by omega) (by omega), rh, bc, rb, g_greater ⟨by omega, by omega⟩ ⟨by omega, by omega⟩, bnd_ret, chk_pos r.1.o29, r.1.w29, ck_in (by omega) (by omega) (by omega), lt_is, iN_add]
    exact e2
theorem g_tr2 {M arr : Nat} {m W : Int → Int} (w : WF m) (g : GW m W) (g99 : ∀ i, 0 ≤ i → i < m 5 → wC m i W ≤ 99) (hA : arr ≠ M + 20) : ∀ (d k : Nat) (h : Hp) (n : Nat), k + d = 6 → d < n → RM h M m → HT h M m (m 5) → okr h arr 20 → qW h arr = 4 → AR h arr (m 0) W → AR h (M + 20) k (fun _ => 0) →
    ∃ h2, f_X9_tableReckoned_L2 n h M arr (iN k) = some (h2, .inr (iN (taH m W))) ∧ FZ (pA (M + 20)) h h2 := by
  have hm := w.1.2.2.2.2.2
  intro d
  induction d with
  | zero =>
    intro k h n hk hn r ht oa wa A B
    obtain ⟨n, rfl⟩ : ∃ z, n = z + 1 := ⟨n - 1, by omega⟩
    obtain ⟨h2, e2, f2⟩ := g_tr23 w g g99 hA (m 5).toNat 0 h 2000 (by omega) (by omega) r ht oa wa A (fun c c1 c2 => B c c1 (by omega))
    refine ⟨h2, ?_, f2⟩
    show f_X9_tableReckoned_B2 (f_X9_tableReckoned_L2 n) h M arr (iN k) = _
    unfold f_X9_tableReckoned_B2
    rw [if_pos (yleN (by omega) (by omega) (by omega))]
    exact e2
  | succ d ih =>
    intro k h n hk hn r ht oa wa A B
    obtain ⟨n, rfl⟩ : ∃ z, n = z + 1 := ⟨n - 1, by omega⟩
    have fp : FZ (pA (M + 20)) h (putI h (M + 20) (k : Int).toNat (iN 0)) := FZ.pa
    obtain ⟨h2, e2, f2⟩ := ih (k + 1) _ n (by omega) (by omega) (r.a fp (by omega)) (ht.fz fp (fun j z => by unfold pA at z; omega)) oa wa (A.ne hA) (fun c z1 z2 => by
      by_cases q : c = k
      · rw [q, rd_eq]
      · rw [rd_nk (by omega)]; exact B c z1 (by omega))
    refine ⟨h2, ?_, fp.tr f2⟩
    show f_X9_tableReckoned_B2 (f_X9_tableReckoned_L2 n) h M arr (iN k) = _
    unfold f_X9_tableReckoned_B2
    rw [if_neg (nleN (by omega) (by omega) (by omega)), chk_pos r.1.1, r.1.r29, chk_pos r.1.o29, r.1.w29, ck_in (by omega) (by omega) (by omega), iN_cl (by omega) (by omega), lt_is, iN_add]
    exact e2
theorem g_tableReckoned {h : Hp} {M arr : Nat} {m W : Int → Int} (w : WF m) (g : GW m W) (g99 : ∀ i, 0 ≤ i → i < m 5 → wC m i W ≤ 99) (hA : arr ≠ M + 20) (r : RM h M m) (ht : HT h M m (m 5)) (oa : okr h arr 20) (wa : qW h arr = 4) (A : AR h arr (m 0) W) : ∃ h2, f_X9_tableReckoned h M arr = some (h2, .inr (iN (taH m W))) ∧ FZ (pA (M + 20)) h h2 := g_tr2 w g g99 hA 6 0 h 2000 (by omega) (by omega) r ht oa wa A (fun c c1 c2 => by omega)
/-- the reference's result so far -/
def BR (h : Hp) (M : Nat) (m : Int → Int) (s : BS) : Prop := (qI h M 32 = iN (-1) ∧ s.1 = 1000000) ∨ (qI h M 32 = iN s.1 ∧ (0 ≤ s.1 ∧ s.1 < 1000000) ∧ AR h (M + 22) (m 0) s.2)
def pL (M : Nat) (c : Int) (x j : Nat) : Prop := (x = M ∧ j = 32) ∨ x = M + 20 ∨ (x = M + 21 ∧ c.toNat ≤ j) ∨ x = M + 22
theorem g_lk48 {M : Nat} {self : Hp → Nat → Int32 → Int32 → Option (Rs Unit)} {t : Int → Int} : ∀ (d k : Nat) (h : Hp) (n : Nat), k + d = 4 → d < n → LM h M → AR h (M + 21) 4 t → AR h (M + 22) k t → ∃ h2, f_X9_looks_L48 self n h M (iN k) = some (h2, .inr ()) ∧ FZ (pA (M + 22)) h h2 ∧ AR h2 (M + 22) 4 t := by
  intro d
  induction d with
  | zero =>
    intro k h n hk hn l A B
    obtain ⟨n, rfl⟩ : ∃ z, n = z + 1 := ⟨n - 1, by omega⟩
    refine ⟨h, ?_, FZ.rf, B.sh (by omega)⟩
    show f_X9_looks_B48 self (f_X9_looks_L48 self n) h M (iN k) = _
    unfold f_X9_looks_B48
    rw [if_pos (yleN (by omega) (by omega) (by omega))]
  | succ d ih =>
    intro k h n hk hn l A B
    obtain ⟨n, rfl⟩ : ∃ z, n = z + 1 := ⟨n - 1, by omega⟩
    have ak := A k (by omega) (by omega)
    have fa : FZ (pA (M + 22)) h (putI h (M + 22) (k : Int).toNat (iN (t k))) := FZ.pa
    obtain ⟨h2, e2, f2, a2⟩ := ih (k + 1) _ n (by omega) (by omega) (l.ly fa.1) (A.ne (by omega)) (fun c z1 z2 => by
      by_cases q : c = k
      · rw [q, rd_eq]
      · rw [rd_nk (by omega)]; exact B c z1 (by omega))
    refine ⟨h2, ?_, fa.tr f2, a2⟩
    show f_X9_looks_B48 self (f_X9_looks_L48 self n) h M (iN k) = _
    unfold f_X9_looks_B48
    rw [if_neg (nleN (by omega) (by omega) (by omega)), chk_pos l.1, l.r31, chk_pos l.o31, l.r30, chk_pos l.o30, l.w30, ck_in (by omega) (by omega) (by omega), l.w31, ck_in (by omega) (by omega) (by omega), iN_cl (by omega) (by omega), ak, lt_is, iN_add]
    exact e2
def Lkp (m : Int → Int) (M d n : Nat) : Prop := ∀ (h : Hp) (c room : Int) (t : Int → Int) (s : BS), 0 ≤ c → c + d = m 0 → -500000 ≤ room → sumF t 0 c.toNat + room ≤ 36 → RM h M m → VM h M m → HT h M m (m 5) → AR h (M + 21) c t → (∀ x, 0 ≤ x → x < c → ndF m x ≤ t x ∧ t x ≤ 40) → BR h M m s →
  ∃ h2, f_X9_looks n h M (iN c) (iN room) = some (h2, .inr ()) ∧ FZ (pL M c) h h2 ∧ BR h2 M m (foB (taH m) s (lays m d c room t))
theorem g_looks {m : Int → Int} {M : Nat} (w : WF m) : ∀ d n : Nat, d < n → Lkp m M d n := by
  have hm := w.1.2.2.2.2.2
  have h0 := w.1.1
  have h2' := w.1.2.2.1
  intro d
  induction d with
  | zero =>
    intro n hn h c room t s c0 c1 hr0 hr r v ht At hb br
    obtain ⟨n, rfl⟩ : ∃ z, n = z + 1 := ⟨n - 1, by omega⟩
    have hc : c = m 0 := by omega
    subst hc
    have tpos : 0 ≤ sumF t 0 (m 0).toNat := sumF_nn (K := m 0) (by omega) (fun j j1 j2 => by have := hb j j1 j2; have := ndF_bd w (c := j) (by omega); omega) (m 0).toNat (by omega)
    show ∃ h2, f_X9_looks_E (f_X9_looks n) h M (iN (m 0)) (iN room) = _ ∧ _
    unfold f_X9_looks_E f_X9_looks_L40
    rw [chk_pos r.1.1, r.1.r1, chk_pos r.1.o1, r.1.w1, ck_in (by omega) (by omega) (by omega), g_rd r (by omega) (by omega), if_pos rfl, lays]
    by_cases hz : room = 0
    · have gw : GW m t := GW_of w (fun c z1 z2 => by have := hb c z1 z2; have := (ndF_bd w (c := c) ⟨z1, z2⟩).2.2; omega)
      have g99 : ∀ i, 0 ≤ i → i < m 5 → wC m i t ≤ 99 := fun i i1 i2 => by
        have co := (w.2.2.1 i i1 i2).1
        unfold CO at co
        have := sumF_sub (F := fun _ => 0) (G := t) (c := blk m i 1) (s := blk m i 2) (K := m 0) (by omega) (by omega) (by omega) (fun j z1 z2 => by have := hb j z1 z2; have := ndF_bd w (c := j) ⟨z1, z2⟩; show (0 : Int) ≤ t j; omega)
        rw [sumF_z (F := fun _ => 0) (c := blk m i 1) _ (fun j _ _ => rfl), sumF_z (F := fun _ => 0) (c := 0) _ (fun j _ _ => rfl)] at this
        have h7 : m 2 * (blk m i 2 - 1) ≤ 2 * 3 := Int.mul_le_mul h2'.2 (by omega) (by omega) (by omega)
        unfold wC
        omega
      have tb := taH_bd w gw
      obtain ⟨h3, e3, f3⟩ := g_tableReckoned w gw g99 (arr := M + 21) (by omega) r ht r.1.o30 r.1.w30 At
      have l3 := r.1.ly f3.1
      have q32 : qI h3 M 32 = qI h M 32 := f3.2 _ _ (fun z => by unfold pA at z; omega)
      have f3L : FZ (pL M (m 0)) h h3 := f3.mo (fun x j z => Or.inr (Or.inl z))
      rw [if_pos hz, if_pos ((iN_eq0 (by omega) (by omega)).mpr hz), r.1.r30, chk_pos r.1.o30, e3, bnd_ret, chk_pos l3.1, q32]
      have eS : foB (taH m) s [t] = stB (taH m) s t := rfl
      rw [eS]
      have fp : FZ (pL M (m 0)) h3 (putI h3 M 32 (iN (taH m t))) := FZ.pI (Or.inl ⟨rfl, rfl⟩)
      obtain ⟨V, A4⟩ := AR.any (putI h3 M 32 (iN (taH m t))) (M + 21) 4
      obtain ⟨h4, e4, f4, a4⟩ := g_lk48 (self := f_X9_looks n) 4 0 _ 2000 (by omega) (by omega) (l3.ly fp.1) A4 (fun c c1 c2 => by omega)
      have ff : FZ (pL M (m 0)) h h4 := (f3L.tr fp).tr (f4.mo (fun x j z => Or.inr (Or.inr (Or.inr z))))
      have keep : BR h4 M m (taH m t, t) := by
        refine Or.inr ⟨?_, by dsimp only; omega, fun c c1 c2 => ?_⟩
        · rw [f4.2 _ _ (fun z => by unfold pA at z; omega), rd_eq]
        · rw [a4 c c1 (by omega), ← A4 c c1 (by omega), rd_ne (by omega), f3.2 _ _ (fun z => by unfold pA at z; omega)]
          exact At c c1 c2
      rcases br with ⟨b1, b2⟩ | ⟨b1, b2, b3⟩
      · refine ⟨h4, ?_, ff, ?_⟩
        · rw [b1, if_pos rfl, chk_pos l3.1, lt_is]
          exact e4
        · unfold stB
          rw [if_pos (by omega)]
          exact keep
      · rw [b1, if_neg (neN (by omega) (by omega) (by omega) (by omega) (by omega))]
        by_cases hlt : taH m t < s.1
        · refine ⟨h4, ?_, ff, ?_⟩
          · rw [if_neg (nleN (by omega) (by omega) (by omega)), chk_pos l3.1, lt_is]
            exact e4
          · unfold stB
            rw [if_pos hlt]
            exact keep
        · refine ⟨h3, ?_, f3L, ?_⟩
          · rw [if_pos (yleN (by omega) (by omega) (by omega))]
          · unfold stB
            rw [if_neg hlt]
            exact Or.inr ⟨by rw [q32]; exact b1, b2, b3.fz f3 (fun j z => by unfold pA at z; omega)⟩
    · refine ⟨h, ?_, FZ.rf, ?_⟩
      · rw [if_neg (fun z => hz ((iN_eq0 (by omega) (by omega)).mp z))]
      · rw [if_neg hz]; exact br
  | succ d ih =>
    intro n hn h c room t s c0 c1 hr0 hr r v ht At hb br
    obtain ⟨n, rfl⟩ : ∃ z, n = z + 1 := ⟨n - 1, by omega⟩
    have nc := ndF_bd w (c := c) (by omega)
    have tpos : 0 ≤ sumF t 0 c.toNat := sumF_nn (K := c) (by omega) (fun j j1 j2 => by have := hb j j1 j2; have := ndF_bd w (c := j) (by omega); omega) c.toNat (by omega)
    have rm36 : room ≤ 36 := by omega
    have loop : ∀ (k : Nat) (x to : Int) (h' : Hp) (s' : BS) (n' : Nat), k < n' → (k = 0 ∧ min to room < x ∨ x + k = min to room + 1) → ndF m c ≤ x → x ≤ 200000 → -500000 ≤ to → to ≤ 200000 → FZ (pL M c) h h' → BR h' M m s' →
        ∃ h2, f_X9_looks_L120 (f_X9_looks n) n' h' M (iN c) (iN room) (iN to) (iN x) = some (h2, .inr ()) ∧ FZ (pL M c) h h2 ∧ BR h2 M m (foB (taH m) s' (wloop (fun x => lays m d (c + 1) (room - x) (up t c x)) k x)) := by
      intro k
      induction k with
      | zero =>
        intro x to h' s' n' hn' hk hx hx2 ht1 ht2 ff bb
        obtain ⟨n', rfl⟩ : ∃ z, n' = z + 1 := ⟨n' - 1, by omega⟩
        refine ⟨h', ?_, ff, bb⟩
        show f_X9_looks_B120 (f_X9_looks n) (f_X9_looks_L120 (f_X9_looks n) n') h' M (iN c) (iN room) (iN to) (iN x) = _
        unfold f_X9_looks_B120
        by_cases q : to < x
        · rw [if_pos (yltN (by omega) (by omega) (by omega))]
        · rw [if_neg (nltN (by omega) (by omega) (by omega)), if_pos (yltN (by omega) (by omega) (by omega))]
      | succ k ihk =>
        intro x to h' s' n' hn' hk hx hx2 ht1 ht2 ff bb
        obtain ⟨n', rfl⟩ : ∃ z, n' = z + 1 := ⟨n' - 1, by omega⟩
        have np : ∀ a : Nat, (a = M + 1 ∨ a = M + 12 ∨ a = M + 13 ∨ a = M + 14 ∨ a = M + 17 ∨ a = M + 19) → ∀ j, ¬ pL M c a j := fun a z j q => by unfold pL at q; omega
        have r' := r.fz ff (np _ (by omega))
        generalize ht' : up t c x = t'
        generalize hh1 : putI h' (M + 21) c.toNat (iN x) = h1
        have f1 : FZ (pL M c) h' h1 := by rw [← hh1]; exact FZ.pI (Or.inr (Or.inr (Or.inl ⟨rfl, Nat.le_refl _⟩)))
        have f01 := ff.tr f1
        have At1 : AR h1 (M + 21) (c + 1) t' := by
          intro y y1 y2
          rw [← hh1, ← ht']
          by_cases q : y = c
          · rw [q, rd_eq, up_eq]
          · rw [rd_nk (by omega), up_ne q, ff.2 _ _ (fun z => by unfold pL at z; omega)]
            exact At y y1 (by omega)
        have br1 : BR h1 M m s' := by
          rw [← hh1]
          rcases bb with ⟨b1, b2⟩ | ⟨b1, b2, b3⟩
          · exact Or.inl ⟨by rw [rd_ne (by omega)]; exact b1, b2⟩
          · exact Or.inr ⟨by rw [rd_ne (by omega)]; exact b1, b2, b3.ne (by omega)⟩
        have es : sumF t' 0 (c + 1).toNat + (room - x) ≤ 36 := by
          rw [show (c + 1).toNat = c.toNat + 1 by omega, sumF, show (0 : Int) + (c.toNat : Int) = c by omega, ← ht', up_eq, sumF_cg (V := t) _ (fun j j1 j2 => up_ne (by omega))]
          omega
        obtain ⟨h3, e3, g3, b3⟩ := ih n (by omega) h1 (c + 1) (room - x) t' s' (by omega) (by omega) (by omega) es (r.fz f01 (np _ (by omega))) (v.fz f01 (fun a j z => np a (by omega) j)) (ht.fz f01 (np _ (by omega))) At1 (fun y y1 y2 => by
          rw [← ht']
          by_cases q : y = c
          · rw [q, up_eq]; omega
          · rw [up_ne q]; exact hb y y1 (by omega)) br1
        have f3 : FZ (pL M c) h h3 := f01.tr (g3.mo (fun y j z => by unfold pL at z ⊢; omega))
        obtain ⟨h4, e4, g4, b4⟩ := ihk (x + 1) to h3 _ n' (by omega) (by omega) (by omega) (by omega) ht1 ht2 f3 b3
        refine ⟨h4, ?_, g4, by rw [wloop, foB_app, ht']; exact b4⟩
        show f_X9_looks_B120 (f_X9_looks n) (f_X9_looks_L120 (f_X9_looks n) n') h' M (iN c) (iN room) (iN to) (iN x) = _
        unfold f_X9_looks_B120
        rw [if_neg (nltN (by omega) (by omega) (by omega)), if_neg (nltN (by omega) (by omega) (by omega)), chk_pos r'.1.1, r'.1.r30, chk_pos r'.1.o30, r'.1.w30, ck_in (by omega) (by omega) (by omega), iN_cl (z := c) (by omega) (by omega), hh1, lt_is, iN_add, iN_sub, e3, bnd_ret, iN_add]
        exact e4
    have e0 : f_X9_looks (n + 1) h M (iN c) (iN room) = f_X9_looks_L120 (f_X9_looks n) 2000 h M (iN c) (iN room) (iN (if fxF m c = true then ndF m c else room)) (iN (ndF m c)) := by
      show f_X9_looks_E (f_X9_looks n) h M (iN c) (iN room) = _
      unfold f_X9_looks_E f_X9_looks_L101 f_X9_looks_L115
      rw [chk_pos r.1.1, r.1.r1, chk_pos r.1.o1, r.1.w1, ck_in (by omega) (by omega) (by omega), g_rd r (by omega) (by omega), if_neg (neN (by omega) (by omega) (by omega) (by omega) (by omega)), g_isFixed9 r w (by omega), bnd_ret]
      by_cases hf : tyS (m (6 + c)) = 1
      · have fx : fxF m c = true := decide_eq_true hf
        have en : ndF m c = gsF m 2 c := by unfold ndF gsF; rw [if_pos hf, if_neg (by omega), if_neg (by omega), if_pos rfl]
        have rg := v.2.2.2 2 c (by omega) (by omega) c0 (by omega)
        rw [if_neg (fun z => bN0.mp z hf), chk_pos r.1.1, r.1.r26, chk_pos r.1.o26, iN_add, r.1.w26, ck_in (by omega) (by omega) (by omega), iN_cl (z := 8 + c) (by omega) (by omega), show (8 + c).toNat = (4 * 2 + c).toNat by omega, rg, chk_pos r.1.1, g_isFixed9 r w (by omega), bnd_ret, if_neg (fun z => bN0.mp z hf), if_pos fx, en]
      · have fx : ¬ fxF m c = true := fun z => hf (of_decide_eq_true z)
        have en : ndF m c = (msW m).1 c := by unfold ndF; rw [if_neg hf]
        have rg := v.1 c c0 (by omega)
        rw [if_pos (bN0.mpr hf), chk_pos r.1.1, r.1.r21, chk_pos r.1.o21, r.1.w21, ck_in (by omega) (by omega) (by omega), iN_cl (z := c) (by omega) (by omega), rg, chk_pos r.1.1, g_isFixed9 r w (by omega), bnd_ret, if_pos (bN0.mpr hf), if_neg fx, en]
    obtain ⟨h2, e2, g2, b2⟩ := loop (min (if fxF m c = true then ndF m c else room) room - ndF m c + 1).toNat (ndF m c) (if fxF m c = true then ndF m c else room) h s 2000 (by omega) (by omega) (Int.le_refl _) (by omega) (by split <;> omega) (by split <;> omega) FZ.rf br
    refine ⟨h2, e0.trans e2, g2, ?_⟩
    rw [lays]
    exact b2
