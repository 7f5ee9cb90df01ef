/-! ===== STAGE B: the class's guesses and their sums ===== -/
theorem g_gsIn {C T : Nat} {m F : Int → Int} (w : WF m) {K : Hp → Nat → Int32 → Option (Rs Unit)} {g : Nat} (hg : g < 4) : ∀ (d k : Nat) (h : Hp) (n : Nat), (k : Int) + d = m 0 → d < n → LK h C T → TM h T m → AR h (C + 5 + g) (m 0) (gsF m g) → AR h (C + 9) 4 (up F g (sumF (gsF m g) 0 k)) →
    ∃ h2, f_X3_findGuesses_L185 K n h C (iN g) (iN k) = K h2 C (iN (g + 1 : Nat)) ∧ FZ (pA (C + 9)) h h2 ∧ AR h2 (C + 9) 4 (up F g (gsS m g)) := by
  have hm := w.1.2.2.2.2.2
  have h0 := w.1.1
  intro d
  induction d with
  | zero =>
    intro k h n hk hn l t G A
    obtain ⟨n, rfl⟩ : ∃ z, n = z + 1 := ⟨n - 1, by omega⟩
    refine ⟨h, ?_, FZ.rf, by unfold gsS; rw [show (m 0).toNat = k by omega]; exact A⟩
    show f_X3_findGuesses_B185 K (f_X3_findGuesses_L185 K n) h C (iN g) (iN k) = _
    unfold f_X3_findGuesses_B185
    rw [chk_pos l.o, l.r0, chk_pos t.1.o, t.cs, if_pos (yleN (by omega) (by omega) (by omega)), iN_add]
    rfl
  | succ d ih =>
    intro k h n hk hn l t G A
    obtain ⟨n, rfl⟩ : ∃ z, n = z + 1 := ⟨n - 1, by omega⟩
    have ct := l.ct
    have rg := G k (by omega) (by omega)
    have ra := A g (by omega) (by omega)
    rw [up_eq] at ra
    have ea := l.ga hg
    have eo := l.go hg
    have ew := l.gw hg
    have fa : FZ (pA (C + 9)) h (putI h (C + 9) (g : Int).toNat (iN (sumF (gsF m g) 0 k + gsF m g k))) := FZ.pa
    obtain ⟨h2, e2, f2, a2⟩ := ih (k + 1) _ n (by omega) (by omega) (l.ly fa.1) (t.c hm ct (fa.c (by omega) (by omega))) (G.ne (by omega)) ((A.put (k := g) (v := sumF (gsF m g) 0 k + gsF m g k) (by omega)).cg (fun c z1 z2 => by
      unfold up
      by_cases hc : c = g
      · rw [if_pos hc, if_pos hc, sumF, show (0 : Int) + (k : Int) = k by omega]
      · rw [if_neg hc, if_neg hc, if_neg hc]))
    refine ⟨h2, ?_, fa.tr f2, a2⟩
    show f_X3_findGuesses_B185 K (f_X3_findGuesses_L185 K n) h C (iN g) (iN k) = _
    unfold f_X3_findGuesses_B185
    have gc : (iN (g : Int)).toNatClampNeg = (g : Int).toNat := iN_cl (by omega) (by omega)
    rw [chk_pos l.o, l.r0, chk_pos t.1.o, t.cs, if_neg (nleN (by omega) (by omega) (by omega)), l.r5, chk_pos l.o9, l.w9, ck_in (by omega) (by omega) (by omega), l.r4, chk_pos l.o4, l.w4, ck_in (by omega) (by omega) (by omega), ea, chk_pos eo, ew, ck_in (by omega) (by omega) (by omega), iN_cl (z := (k : Int)) (by omega) (by omega), rg, gc, ra, iN_add, lt_is, iN_add]
    exact e2
theorem g_gsSum {C T : Nat} {m V : Int → Int} (w : WF m) : ∀ (d k : Nat) (h : Hp) (n : Nat), k + d = 4 → d < n → LK h C T → TM h T m → (∀ g : Nat, g < 4 → AR h (C + 5 + g) (m 0) (gsF m g)) → AR h (C + 9) 4 (fun x => if x < k then gsS m x else V x) →
    ∃ h2, f_X3_findGuesses_L171 n h C (iN k) = some (h2, .inr ()) ∧ FZ (pA (C + 9)) h h2 ∧ AR h2 (C + 9) 4 (gsS m) := by
  have hm := w.1.2.2.2.2.2
  have h0 := w.1.1
  intro d
  induction d with
  | zero =>
    intro k h n hk hn l t G A
    obtain ⟨n, rfl⟩ : ∃ z, n = z + 1 := ⟨n - 1, by omega⟩
    refine ⟨h, ?_, FZ.rf, A.cg (fun c z1 z2 => by rw [if_pos (by omega)])⟩
    show f_X3_findGuesses_B171 (f_X3_findGuesses_L171 n) h C (iN k) = _
    unfold f_X3_findGuesses_B171
    rw [if_pos (yleN (by omega) (by omega) (by omega))]
  | succ d ih =>
    intro k h n hk hn l t G A
    obtain ⟨n, rfl⟩ : ∃ z, n = z + 1 := ⟨n - 1, by omega⟩
    have ct := l.ct
    have fa : FZ (pA (C + 9)) h (putI h (C + 9) (k : Int).toNat (iN 0)) := FZ.pa
    have G1 : ∀ g : Nat, g < 4 → AR (putI h (C + 9) (k : Int).toNat (iN 0)) (C + 5 + g) (m 0) (gsF m g) := fun g hg => (G g hg).ne (by omega)
    obtain ⟨h3, e3, f3, a3⟩ := g_gsIn w (K := f_X3_findGuesses_L171 n) (g := k) (by omega) (m 0).toNat 0 _ 2000 (by omega) (by omega) (l.ly fa.1) (t.c hm ct (fa.c (by omega) (by omega))) (G1 k (by omega)) (by rw [sumF]; exact A.put (k := k) (v := 0) (by omega))
    have f13 := fa.tr f3
    obtain ⟨h2, e2, f2, a2⟩ := ih (k + 1) h3 n (by omega) (by omega) (l.ly f13.1) (t.c hm ct (f13.c (by omega) (by omega))) (fun g hg => (G g hg).fz f13 (fun j z => by unfold pA at z; omega)) (a3.cg (fun c z1 z2 => by
      unfold up
      by_cases hc2 : c = k
      · rw [if_pos hc2, if_pos (by omega), hc2]
      · rw [if_neg hc2]
        dsimp only
        by_cases hc : c < k
        · rw [if_pos hc, if_pos (by omega)]
        · rw [if_neg hc, if_neg (by omega)]))
    refine ⟨h2, ?_, f13.tr f2, a2⟩
    show f_X3_findGuesses_B171 (f_X3_findGuesses_L171 n) h C (iN k) = _
    unfold f_X3_findGuesses_B171
    rw [if_neg (nleN (by omega) (by omega) (by omega)), chk_pos l.o, l.r5, chk_pos l.o9, l.w9, ck_in (by omega) (by omega) (by omega), iN_cl (by omega) (by omega), lt_is]
    exact e3.trans e2
def pG (C x _j : Nat) : Prop := C + 5 ≤ x ∧ x ≤ C + 9
theorem FZ.g {C : Nat} {h h2 : Hp} (f : FZ (pG C) h h2) : FZ (pC C) h h2 := f.mo (fun x j z => by unfold pG at z; unfold pC; omega)
theorem gsH_fz {h : Hp} {C k : Nat} {a b c d : Int} : FZ (pG C) h (gsH h C k a b c d) := by
  unfold gsH
  exact (((FZ.pI (by unfold pG; omega)).tr (FZ.pI (by unfold pG; omega))).tr (FZ.pI (by unfold pG; omega))).tr (FZ.pI (by unfold pG; omega))
theorem g_gsCol {C T : Nat} {m : Int → Int} {V : Nat → Int → Int} (w : WF m) : ∀ (d k : Nat) (h : Hp) (n : Nat), (k : Int) + d = m 0 → d < n → LK h C T → TM h T m → AR h (C + 1) (m 0) (msW m).1 → AR h (C + 2) (m 0) (msW m).2 → AR h (C + 3) (m 0) (pcF m) → (∀ g : Nat, g < 4 → AR h (C + 5 + g) (m 0) (fun c => if c < k then gsF m g c else V g c)) →
    ∃ h2, f_X3_findGuesses_L17 n h C (iN (usF m)) (iN k) = some (h2, .inr ()) ∧ FZ (pG C) h h2 ∧ (∀ g : Nat, g < 4 → AR h2 (C + 5 + g) (m 0) (gsF m g)) ∧ AR h2 (C + 9) 4 (gsS m) := by
  have hm := w.1.2.2.2.2.2
  have h0 := w.1.1
  intro d
  induction d with
  | zero =>
    intro k h n hk hn l t A1 A2 A3 G
    obtain ⟨n, rfl⟩ : ∃ z, n = z + 1 := ⟨n - 1, by omega⟩
    obtain ⟨U, A9⟩ := AR.any h (C + 9) 4
    have G2 : ∀ g : Nat, g < 4 → AR h (C + 5 + g) (m 0) (gsF m g) := fun g hg => (G g hg).cg (fun c z1 z2 => by rw [if_pos (by omega)])
    obtain ⟨h2, e2, f2, a2⟩ := g_gsSum w (V := U) 4 0 h 2000 (by omega) (by omega) l t G2 (A9.cg (fun c z1 z2 => by rw [if_neg (by omega)]))
    refine ⟨h2, ?_, f2.mo (fun x j z => by unfold pA at z; unfold pG; omega), fun g hg => (G2 g hg).fz f2 (fun j z => by unfold pA at z; omega), a2⟩
    show f_X3_findGuesses_B17 (f_X3_findGuesses_L17 n) h C _ (iN k) = _
    unfold f_X3_findGuesses_B17
    rw [chk_pos l.o, l.r0, chk_pos t.1.o, t.cs, if_pos (yleN (by omega) (by omega) (by omega))]
    exact e2
  | succ d ih =>
    intro k h n hk hn l t A1 A2 A3 G
    obtain ⟨n, rfl⟩ : ∃ z, n = z + 1 := ⟨n - 1, by omega⟩
    have ct := l.ct
    have ty := (w.2.1 k (by omega) (by omega)).ty
    have pb := pcF_bd w (c := k) (by omega)
    have ub := us_bd w
    have po := por_bd ub pb
    have wb := msW_bd w k (by omega) (by omega)
    have r1 := A1 k (by omega) (by omega)
    have r2 := A2 k (by omega) (by omega)
    have r3 := A3 k (by omega) (by omega)
    have rt : qI h (T + 1) (k : Int).toNat = iN (tyS (m (6 + k))) := t.ty k (by omega) (by omega)
    have rv : qI h (T + 2) (k : Int).toNat = iN (vaS (m (6 + k))) := t.va k (by omega) (by omega)
    have nx : ∀ p f, p = (if tyS (m (6 + k)) = 2 then (usF m * pcF m k).tdiv 100 else 0) → f = (if tyS (m (6 + k)) = 1 then vaS (m (6 + k)) else 0) → ∃ h2, f_X3_findGuesses_L86 (f_X3_findGuesses_L17 n) h C (iN (usF m)) (iN k) (iN (tyS (m (6 + k)))) (iN ((msW m).1 k)) (iN p) (iN f) = some (h2, .inr ()) ∧ FZ (pG C) h h2 ∧ (∀ g : Nat, g < 4 → AR h2 (C + 5 + g) (m 0) (gsF m g)) ∧ AR h2 (C + 9) 4 (gsS m) := by
      intro p f hp hf
      have pbd : -100 ≤ p ∧ p ≤ 100 := by rw [hp]; split <;> omega
      have fbd : 0 ≤ f ∧ f ≤ 100 := by rw [hf]; split <;> omega
      rw [g_gs86 l (by omega) r2 (by omega) (by omega) pbd fbd]
      have e1 : max ((msW m).1 k) p = gs1 m k := by unfold gs1; rw [hp]
      have e2 : max (gs1 m k) f = gs2 m k := by unfold gs2; rw [hf]
      have e3 : (if tyS (m (6 + k)) = 0 then (msW m).2 k else gs2 m k) = gs3 m k := rfl
      rw [e1, e2, e3]
      have fg : FZ (pG C) h (gsH h C k ((msW m).1 k) (gs1 m k) (gs2 m k) (gs3 m k)) := gsH_fz
      obtain ⟨h2, e2, f2, a2, b2⟩ := ih (k + 1) _ n (by omega) (by omega) (l.ly fg.1) (t.c hm ct fg.g) (A1.fz fg (fun j z => by unfold pG at z; omega)) (A2.fz fg (fun j z => by unfold pG at z; omega)) (A3.fz fg (fun j z => by unfold pG at z; omega)) (fun g hg => by
        intro c z1 z2
        have old := G g hg c z1 z2
        dsimp only at old ⊢
        unfold gsH
        by_cases hc2 : c = k
        · rw [if_pos (by omega), hc2]
          have hg4 : g = 0 ∨ g = 1 ∨ g = 2 ∨ g = 3 := by omega
          rcases hg4 with rfl | rfl | rfl | rfl
          · simp (disch := omega) only [rd_ne, rd_eq]; rfl
          · simp (disch := omega) only [rd_ne, rd_eq]; rfl
          · simp (disch := omega) only [rd_ne, rd_eq]; rfl
          · simp (disch := omega) only [rd_ne, rd_eq]; rfl
        · simp (disch := omega) only [rd_nk]
          rw [old]
          by_cases hc : c < k
          · rw [if_pos hc, if_pos (by omega)]
          · rw [if_neg hc, if_neg (by omega)])
      exact ⟨h2, e2, fg.tr f2, a2, b2⟩
    show ∃ h2, f_X3_findGuesses_B17 (f_X3_findGuesses_L17 n) h C _ (iN k) = _ ∧ _
    unfold f_X3_findGuesses_B17 f_X3_findGuesses_L66
    rw [chk_pos l.o, l.r0, chk_pos t.1.o, t.cs, if_neg (nleN (by omega) (by omega) (by omega)), t.1.r6, chk_pos t.1.o1, t.1.w1, ck_in (by omega) (by omega) (by omega), l.r1, chk_pos l.o1, l.w1, ck_in (by omega) (by omega) (by omega), iN_cl (by omega) (by omega), rt, r1]
    by_cases h2 : tyS (m (6 + k)) = 2
    · rw [if_pos (by rw [h2]), l.r3, chk_pos l.o3, l.w3, ck_in (by omega) (by omega) (by omega), chk_pos (by decide), if_neg (neN (by omega) (by omega) (by omega) (by omega) (by omega)), r3, iN_mul, iN_div ⟨by omega, by omega⟩ ⟨by omega, by omega⟩ (by omega) (by omega)]
      exact nx _ 0 (by rw [if_pos h2]) (by rw [if_neg (by omega)])
    · rw [if_neg (neN h2 (by omega) (by omega) (by omega) (by omega))]
      by_cases h1 : tyS (m (6 + k)) = 1
      · rw [if_pos (by rw [h1]), chk_pos l.o, chk_pos t.1.o, t.1.r7, chk_pos t.1.o2, t.1.w2, ck_in (by omega) (by omega) (by omega), rv]
        exact nx 0 _ (by rw [if_neg h2]) (by rw [if_pos h1])
      · rw [if_neg (neN h1 (by omega) (by omega) (by omega) (by omega))]
        exact nx 0 0 (by rw [if_neg h2]) (by rw [if_neg h1])
theorem g_findGuesses {h : Hp} {C T : Nat} {m : Int → Int} (w : WF m) (l : LK h C T) (t : TM h T m) (A1 : AR h (C + 1) (m 0) (msW m).1) (A2 : AR h (C + 2) (m 0) (msW m).2) (A3 : AR h (C + 3) (m 0) (pcF m)) :
    ∃ h2, f_X3_findGuesses h C = some (h2, .inr ()) ∧ FZ (pG C) h h2 ∧ (∀ g : Nat, g < 4 → AR h2 (C + 5 + g) (m 0) (gsF m g)) ∧ AR h2 (C + 9) 4 (gsS m) := by
  have h0 := w.1.1
  obtain ⟨h2, e2, f2, a2, b2⟩ := g_gsCol w (V := fun g c => (qI h (C + 5 + g) c.toNat).toInt) (m 0).toNat 0 h 2000 (by omega) (by omega) l t A1 A2 A3 (fun g hg c z1 z2 => by dsimp only; rw [if_neg (by omega)]; exact (iN_of _).symm)
  refine ⟨h2, ?_, f2, a2, b2⟩
  unfold f_X3_findGuesses
  rw [chk_pos l.o, l.r0, chk_pos t.1.o, t.wd, g_usable t, bnd_ret]
  exact e2
