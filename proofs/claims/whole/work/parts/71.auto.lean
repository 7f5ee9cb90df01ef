/-! ===== STAGE B: the class's automatic layout; measure whole ===== -/
def rcL (m : Int → Int) : Nat → Int
  | 0 => 2
  | k + 1 => min (rcL m k) (tyS (m (6 + k)))
def wRf (m : Int → Int) (f c : Int) : Int := if f < 3 then gsF m (f + 1) c - gsF m f c else if rcL m (m 0).toNat = 2 then pcF m c + 1 else if tyS (m (6 + c)) = rcL m (m 0).toNat then gsF m 3 c else 0
def ftF (m : Int → Int) : Int := if gsS m 3 ≤ usF m then 3 else if gsS m 2 ≤ usF m then 2 else if gsS m 1 ≤ usF m then 1 else 0
def auF (m : Int → Int) (c : Int) : Int := gsF m (ftF m) c + (if gsS m (ftF m) < usF m then shF (usF m - gsS m (ftF m)) (wRf m (ftF m)) (m 0) c else 0)
theorem rcL_bd {m : Int → Int} (w : WF m) : ∀ k : Nat, (k : Int) ≤ 4 → 0 ≤ rcL m k ∧ rcL m k ≤ 2
  | 0, _ => by rw [rcL]; omega
  | k + 1, hk => by
    have := rcL_bd w k (by omega)
    have := (w.2.1 k (by omega) (by omega)).ty
    rw [rcL]
    omega
theorem ft_bd (m : Int → Int) : 0 ≤ ftF m ∧ ftF m ≤ 3 := by
  unfold ftF
  split
  · omega
  · split
    · omega
    · split <;> omega
theorem wRf_bd {m : Int → Int} (w : WF m) {f c : Int} (hf : 0 ≤ f ∧ f ≤ 3) (hc : 0 ≤ c ∧ c < m 0) : 0 ≤ wRf m f c ∧ wRf m f c ≤ 200000 := by
  have h0 := w.1.1
  have pb := pcF_bd w (c := c) (by omega)
  have g3 := gsF_bd w (g := 3) hc
  unfold wRf
  by_cases h : f < 3
  · rw [if_pos h]
    have := gsF_up w (g := f) (by omega) hc
    have := gsF_bd w (g := f) hc
    have := gsF_bd w (g := f + 1) hc
    omega
  · rw [if_neg h]
    split
    · omega
    · split <;> omega
theorem wRf_SW {m : Int → Int} (w : WF m) {f : Int} (hf : 0 ≤ f ∧ f ≤ 3) (h : gsS m f < usF m) : SW (usF m - gsS m f) (wRf m f) (m 0) := by
  have ub := us_bd w
  have gb := gsS_bd w (g := f)
  exact ⟨by omega, w.1.1, fun c z1 z2 => wRf_bd w hf ⟨z1, z2⟩⟩
/-- the arrays of guesses -/
def GA (h : Hp) (C : Nat) (m : Int → Int) : Prop := ∀ g : Nat, g < 4 → AR h (C + 5 + g) (m 0) (gsF m g)
theorem GA.fz {P : Nat → Nat → Prop} {h h2 : Hp} {C : Nat} {m : Int → Int} (G : GA h C m) (f : FZ P h h2) (hp : ∀ x j, C + 5 ≤ x → x ≤ C + 8 → ¬ P x j) : GA h2 C m := fun g hg => (G g hg).fz f (fun j => hp _ j (by omega) (by omega))
theorem LK.gi {h : Hp} {C T : Nat} (l : LK h C T) {g : Int} (hg : 0 ≤ g ∧ g < 4) : qR h (C + 4) (iN g).toNatClampNeg = C + 5 + g.toNat := by
  have := l.ga (g := g.toNat) (by omega)
  rw [Int.toNat_of_nonneg hg.1] at this
  exact this
theorem GA.rd {h : Hp} {C : Nat} {m : Int → Int} (G : GA h C m) {g c : Int} (hg : 0 ≤ g ∧ g < 4) (hc : 0 ≤ c ∧ c < m 0) : qI h (C + 5 + g.toNat) c.toNat = iN (gsF m g c) := by
  have := G g.toNat (by omega) c hc.1 hc.2
  rw [Int.toNat_of_nonneg hg.1] at this
  exact this
theorem g_wRest2 {C T : Nat} {m V : Int → Int} (w : WF m) {f : Int} (hf : 0 ≤ f ∧ f ≤ 3) : ∀ (d k : Nat) (h : Hp) (n : Nat), (k : Int) + d = m 0 → d < n → LK h C T → TM h T m → AR h (C + 3) (m 0) (pcF m) → GA h C m → AR h (C + 11) (m 0) (fun c => if c < k then wRf m f c else V c) →
    ∃ h2, f_X3_weighRest_L37 n h C (iN f) (iN (rcL m (m 0).toNat)) (iN k) = some (h2, .inr ()) ∧ FZ (pA (C + 11)) h h2 ∧ AR h2 (C + 11) (m 0) (wRf m f) := by
  have hm := w.1.2.2.2.2.2
  have h0 := w.1.1
  have rb := rcL_bd w (m 0).toNat (by omega)
  intro d
  induction d with
  | zero =>
    intro k h n hk hn l t A3 G A
    obtain ⟨n, rfl⟩ : ∃ z, n = z + 1 := ⟨n - 1, by omega⟩
    refine ⟨h, ?_, FZ.rf, A.cg (fun c z1 z2 => by rw [if_pos (by omega)])⟩
    show f_X3_weighRest_B37 (f_X3_weighRest_L37 n) h C (iN f) _ (iN k) = _
    unfold f_X3_weighRest_B37
    rw [chk_pos l.o, l.r0, chk_pos t.1.o, t.cs, if_pos (yleN (by omega) (by omega) (by omega))]
  | succ d ih =>
    intro k h n hk hn l t A3 G A
    obtain ⟨n, rfl⟩ : ∃ z, n = z + 1 := ⟨n - 1, by omega⟩
    have ct := l.ct
    have ty := (w.2.1 k (by omega) (by omega)).ty
    have rp := A3 k (by omega) (by omega)
    have rt : qI h (T + 1) (k : Int).toNat = iN (tyS (m (6 + k))) := t.ty k (by omega) (by omega)
    have nx : ∀ v, v = wRf m f k → ∃ h2, f_X3_weighRest_L37 n (putI h (C + 11) (k : Int).toNat (iN v)) C (iN f) (iN (rcL m (m 0).toNat)) (iN k + iN 1) = some (h2, .inr ()) ∧ FZ (pA (C + 11)) h h2 ∧ AR h2 (C + 11) (m 0) (wRf m f) := by
      intro v hv
      have fa : FZ (pA (C + 11)) h (putI h (C + 11) (k : Int).toNat (iN v)) := FZ.pa
      obtain ⟨h2, e2, f2, a2⟩ := ih (k + 1) _ n (by omega) (by omega) (l.ly fa.1) (t.c hm ct (fa.c (by omega) (by omega))) (A3.ne (by omega)) (G.fz fa (fun x j z1 z2 z => by unfold pA at z; omega)) ((A.put (k := k) (v := v) (by omega)).cg (fun c z1 z2 => by
        unfold up
        by_cases hc2 : c = k
        · rw [if_pos hc2, if_pos (by omega), hc2, hv]
        · rw [if_neg hc2]
          dsimp only
          by_cases hc : c < k
          · rw [if_pos hc, if_pos (by omega)]
          · rw [if_neg hc, if_neg (by omega)]))
      refine ⟨h2, ?_, fa.tr f2, a2⟩
      rw [iN_add]
      exact e2
    show ∃ h2, f_X3_weighRest_B37 (f_X3_weighRest_L37 n) h C (iN f) _ (iN k) = _ ∧ _
    unfold f_X3_weighRest_B37 f_X3_weighRest_L133 f_X3_weighRest_L134
    rw [chk_pos l.o, l.r0, chk_pos t.1.o, t.cs, if_neg (nleN (by omega) (by omega) (by omega))]
    have kc : (iN (k : Int)).toNatClampNeg = (k : Int).toNat := iN_cl (by omega) (by omega)
    by_cases hf3 : f < 3
    · have e1 := l.gi (g := f + 1) (by omega)
      have e0 := l.gi (g := f) (by omega)
      have g1 := G.rd (g := f + 1) (c := k) (by omega) (by omega)
      have g0 := G.rd (g := f) (c := k) (by omega) (by omega)
      have o1 := l.go (g := (f + 1).toNat) (by omega)
      have o0 := l.go (g := f.toNat) (by omega)
      have w1 := l.gw (g := (f + 1).toNat) (by omega)
      have w0 := l.gw (g := f.toNat) (by omega)
      rw [if_neg (nleN (by omega) (by omega) (by omega))]
      simp (disch := omega) only [l.r8, chk_pos l.o11, l.r4, chk_pos l.o4, l.w4, l.w11, iN_add, ck_in, e1, e0, chk_pos o1, chk_pos o0, w1, w0, kc, g1, g0, iN_sub, lt_is]
      have := nx _ (show gsF m (f + 1) k - gsF m f k = wRf m f k by unfold wRf; rw [if_pos hf3])
      rw [iN_add] at this
      exact this
    · rw [if_pos (yleN (by omega) (by omega) (by omega))]
      by_cases hr : rcL m (m 0).toNat = 2
      · rw [if_pos (by rw [hr]), l.r8, chk_pos l.o11, l.r3, chk_pos l.o3, l.w3, ck_in (by omega) (by omega) (by omega), l.w11, ck_in (by omega) (by omega) (by omega), kc, rp, iN_add, lt_is]
        exact nx _ (by unfold wRf; rw [if_neg hf3, if_pos hr])
      · rw [if_neg (neN hr (by omega) (by omega) (by omega) (by omega)), l.r8, chk_pos l.o11, t.1.r6, chk_pos t.1.o1, t.1.w1, ck_in (by omega) (by omega) (by omega), kc, rt]
        by_cases ht : tyS (m (6 + k)) = rcL m (m 0).toNat
        · have e3 := l.gi (g := 3) (by omega)
          have g3 := G.rd (g := 3) (c := k) (by omega) (by omega)
          have o3 := l.go (g := (3 : Int).toNat) (by decide)
          have w3 := l.gw (g := (3 : Int).toNat) (by decide)
          rw [if_pos (by rw [ht]), l.r4, chk_pos l.o4, l.w4, ck_in (by omega) (by omega) (by omega), e3, chk_pos o3, w3, ck_in (by omega) (by omega) (by omega), g3, chk_pos l.o11, l.w11, ck_in (by omega) (by omega) (by omega), lt_is]
          exact nx _ (by unfold wRf; rw [if_neg hf3, if_neg hr, if_pos ht])
        · rw [if_neg (neN ht (by omega) (by omega) (by omega) (by omega)), chk_pos l.o11, l.w11, ck_in (by omega) (by omega) (by omega), lt_is]
          exact nx 0 (by unfold wRf; rw [if_neg hf3, if_neg hr, if_neg ht])
theorem g_wRest1 {C T : Nat} {m : Int → Int} (w : WF m) {f : Int} {h : Hp} (l : LK h C T) (t : TM h T m) {Q : Option (Rs Unit)} (hQ : f_X3_weighRest_L37 2000 h C (iN f) (iN (rcL m (m 0).toNat)) (iN 0) = Q) : ∀ (d k : Nat) (n : Nat), (k : Int) + d = m 0 → d < n →
    f_X3_weighRest_L4 n h C (iN f) (iN (rcL m k)) (iN k) = Q := by
  have h0 := w.1.1
  intro d
  induction d with
  | zero =>
    intro k n hk hn
    obtain ⟨n, rfl⟩ : ∃ z, n = z + 1 := ⟨n - 1, by omega⟩
    show f_X3_weighRest_B4 (f_X3_weighRest_L4 n) h C (iN f) _ (iN k) = _
    unfold f_X3_weighRest_B4
    rw [chk_pos l.o, l.r0, chk_pos t.1.o, t.cs, if_pos (yleN (by omega) (by omega) (by omega)), show k = (m 0).toNat by omega]
    exact hQ
  | succ d ih =>
    intro k n hk hn
    obtain ⟨n, rfl⟩ : ∃ z, n = z + 1 := ⟨n - 1, by omega⟩
    have ty := (w.2.1 k (by omega) (by omega)).ty
    have rb := rcL_bd w k (by omega)
    have rt : qI h (T + 1) (k : Int).toNat = iN (tyS (m (6 + k))) := t.ty k (by omega) (by omega)
    show f_X3_weighRest_B4 (f_X3_weighRest_L4 n) h C (iN f) _ (iN k) = _
    unfold f_X3_weighRest_B4
    rw [chk_pos l.o, l.r0, chk_pos t.1.o, t.cs, if_neg (nleN (by omega) (by omega) (by omega)), t.1.r6, chk_pos t.1.o1, t.1.w1, ck_in (by omega) (by omega) (by omega), iN_cl (by omega) (by omega), rt, g_jmin ⟨by omega, by omega⟩ ⟨by omega, by omega⟩, iN_add]
    exact ih (k + 1) n (by omega) (by omega)
theorem g_weighRest {h : Hp} {C T : Nat} {m : Int → Int} (w : WF m) {f : Int} (hf : 0 ≤ f ∧ f ≤ 3) (l : LK h C T) (t : TM h T m) (A3 : AR h (C + 3) (m 0) (pcF m)) (G : GA h C m) :
    ∃ h2, f_X3_weighRest h C (iN f) = some (h2, .inr ()) ∧ FZ (pA (C + 11)) h h2 ∧ AR h2 (C + 11) (m 0) (wRf m f) := by
  have h0 := w.1.1
  obtain ⟨V, A⟩ := AR.any h (C + 11) (m 0)
  obtain ⟨h2, e2, f2, a2⟩ := g_wRest2 (V := V) w hf (m 0).toNat 0 h 2000 (by omega) (by omega) l t A3 G (A.cg (fun c z1 z2 => by rw [if_neg (by omega)]))
  exact ⟨h2, g_wRest1 w l t e2 (m 0).toNat 0 2000 (by omega) (by omega), f2, a2⟩
theorem g_auto63 {C T : Nat} {m V : Int → Int} (w : WF m) {f : Int} (hf : 0 ≤ f ∧ f ≤ 3) : ∀ (d k : Nat) (h : Hp) (n : Nat), (k : Int) + d = m 0 → d < n → LK h C T → TM h T m → AR h (C + 3) (m 0) (pcF m) → GA h C m → AR h (C + 9) 4 (gsS m) → AR h (C + 10) (m 0) (fun c => if c < k then gsF m f c else V c) →
    ∃ h2, f_X3_findAutomatic_L63 n h C (iN (usF m)) (iN f) (iN k) = some (h2, .inr ()) ∧ FZ (fun x _ => x = C + 10 ∨ x = C + 11) h h2 ∧ AR h2 (C + 10) (m 0) (fun c => gsF m f c + (if gsS m f < usF m then shF (usF m - gsS m f) (wRf m f) (m 0) c else 0)) := by
  have hm := w.1.2.2.2.2.2
  have h0 := w.1.1
  have ub := us_bd w
  have gb := gsS_bd w (g := f)
  have fc : (iN f).toNatClampNeg = f.toNat := iN_cl (by omega) (by omega)
  intro d
  induction d with
  | zero =>
    intro k h n hk hn l t A3 G A9 A
    obtain ⟨n, rfl⟩ : ∃ z, n = z + 1 := ⟨n - 1, by omega⟩
    have ct := l.ct
    have rs := A9 f (by omega) (by omega)
    have A' : AR h (C + 10) (m 0) (gsF m f) := A.cg (fun c z1 z2 => by rw [if_pos (by omega)])
    show ∃ h2, f_X3_findAutomatic_B63 (f_X3_findAutomatic_L63 n) h C (iN (usF m)) (iN f) (iN k) = _ ∧ _
    unfold f_X3_findAutomatic_B63
    rw [chk_pos l.o, l.r0, chk_pos t.1.o, t.cs, if_pos (yleN (by omega) (by omega) (by omega)), l.r5, chk_pos l.o9, l.w9, ck_in (by omega) (by omega) (by omega), fc, rs]
    by_cases hs : gsS m f < usF m
    · obtain ⟨h3, e3, f3, a3⟩ := g_weighRest w hf l t A3 G
      have l3 := l.ly f3.1
      have rs3 : qI h3 (C + 9) f.toNat = iN (gsS m f) := (f3.2 _ _ (fun z => by unfold pA at z; omega)).trans rs
      obtain ⟨h2, e2, f2, a2⟩ := g_share ⟨h0, hm⟩ (wRf_SW w hf hs) (arr := C + 10) (by omega) (by omega) (fun c z1 z2 => by have := gsF_bd w (g := f) (c := c) ⟨z1, z2⟩; omega) l3 (t.c hm ct (f3.c (by omega) (by omega))) l3.o10 l3.w10 a3 (A'.fz f3 (fun j z => by unfold pA at z; omega))
      refine ⟨h2, ?_, (f3.mo (fun x j z => Or.inr z)).tr (f2.mo (fun x j z => Or.inl z)), a2.cg (fun c z1 z2 => by rw [if_pos hs])⟩
      rw [if_neg (nleN (by omega) (by omega) (by omega)), e3, bnd_ret, chk_pos l3.o, l3.r5, chk_pos l3.o9, l3.w9, ck_in (by omega) (by omega) (by omega), l3.r6, chk_pos l3.o10, rs3, iN_sub, e2, bnd_ret]
    · exact ⟨h, by rw [if_pos (yleN (by omega) (by omega) (by omega))], FZ.rf, A'.cg (fun c z1 z2 => by rw [if_neg hs]; omega)⟩
  | succ d ih =>
    intro k h n hk hn l t A3 G A9 A
    obtain ⟨n, rfl⟩ : ∃ z, n = z + 1 := ⟨n - 1, by omega⟩
    have ct := l.ct
    have fa : FZ (pA (C + 10)) h (putI h (C + 10) (k : Int).toNat (iN (gsF m f k))) := FZ.pa
    obtain ⟨h2, e2, f2, a2⟩ := ih (k + 1) _ n (by omega) (by omega) (l.ly fa.1) (t.c hm ct (fa.c (by omega) (by omega))) (A3.ne (by omega)) (G.fz fa (fun x j z1 z2 z => by unfold pA at z; omega)) (A9.ne (by omega)) ((A.put (k := k) (v := gsF m f k) (by omega)).cg (fun c z1 z2 => by
      unfold up
      by_cases hc2 : c = k
      · rw [if_pos hc2, if_pos (by omega), hc2]
      · rw [if_neg hc2]
        dsimp only
        by_cases hc : c < k
        · rw [if_pos hc, if_pos (by omega)]
        · rw [if_neg hc, if_neg (by omega)]))
    refine ⟨h2, ?_, (fa.mo (fun x j z => Or.inl z)).tr f2, a2⟩
    have e0 := l.gi (g := f) (by omega)
    have g0 := G.rd (g := f) (c := k) (by omega) (by omega)
    have o0 := l.go (g := f.toNat) (by omega)
    have w0 := l.gw (g := f.toNat) (by omega)
    show f_X3_findAutomatic_B63 (f_X3_findAutomatic_L63 n) h C (iN (usF m)) (iN f) (iN k) = _
    unfold f_X3_findAutomatic_B63
    rw [chk_pos l.o, l.r0, chk_pos t.1.o, t.cs, if_neg (nleN (by omega) (by omega) (by omega)), l.r6, chk_pos l.o10, l.r4, chk_pos l.o4, l.w4, ck_in (by omega) (by omega) (by omega), e0, chk_pos o0, w0, ck_in (by omega) (by omega) (by omega), l.w10, ck_in (by omega) (by omega) (by omega), iN_cl (z := (k : Int)) (by omega) (by omega), g0, lt_is, iN_add]
    exact e2
theorem g_auto38 {h : Hp} {C T : Nat} {m : Int → Int} (w : WF m) (l : LK h C T) (A9 : AR h (C + 9) 4 (gsS m)) : f_X3_findAutomatic_L38 2000 h C (iN (usF m)) (iN 0) (iN 1) = f_X3_findAutomatic_L63 2000 h C (iN (usF m)) (iN (ftF m)) (iN 0) := by
  have ub := us_bd w
  have st : ∀ (n k : Nat) (f : Int), 1 ≤ k → k < 4 → f_X3_findAutomatic_L38 (n + 1) h C (iN (usF m)) (iN f) (iN k) = f_X3_findAutomatic_L38 n h C (iN (usF m)) (iN (if gsS m k ≤ usF m then (k : Int) else f)) (iN (k + 1 : Nat)) := by
    intro n k f h1 h4
    have gb := gsS_bd w (g := k)
    have rs := A9 k (by omega) (by omega)
    show f_X3_findAutomatic_B38 (f_X3_findAutomatic_L38 n) h C (iN (usF m)) (iN f) (iN k) = _
    unfold f_X3_findAutomatic_B38 f_X3_findAutomatic_L55
    rw [if_neg (nleN (by omega) (by omega) (by omega)), chk_pos l.o, l.r5, chk_pos l.o9, l.w9, ck_in (by omega) (by omega) (by omega), iN_cl (by omega) (by omega), rs, iN_add]
    by_cases hh : gsS m k ≤ usF m
    · rw [if_neg (nltN (by omega) (by omega) (by omega)), if_pos hh]; rfl
    · rw [if_pos (yltN (by omega) (by omega) (by omega)), if_neg hh]; rfl
  have e1 := st 1999 1 0 (by omega) (by omega)
  have e2 := st 1998 2 (if gsS m (1 : Nat) ≤ usF m then ((1 : Nat) : Int) else 0) (by omega) (by omega)
  have e3 := st 1997 3 (if gsS m (2 : Nat) ≤ usF m then ((2 : Nat) : Int) else (if gsS m (1 : Nat) ≤ usF m then ((1 : Nat) : Int) else 0)) (by omega) (by omega)
  have e4 : ∀ f : Int, f_X3_findAutomatic_L38 1997 h C (iN (usF m)) (iN f) (iN ((3 + 1 : Nat) : Int)) = f_X3_findAutomatic_L63 2000 h C (iN (usF m)) (iN f) (iN 0) := by
    intro f
    show f_X3_findAutomatic_B38 (f_X3_findAutomatic_L38 1996) h C (iN (usF m)) (iN f) (iN 4) = _
    unfold f_X3_findAutomatic_B38
    rw [if_pos (by decide)]
  exact (e1.trans e2).trans (e3.trans (e4 _))
/-- the columns' object C holds the measures of m -/
def KM (h : Hp) (C : Nat) (m : Int → Int) : Prop := AR h (C + 1) (m 0) (msW m).1 ∧ AR h (C + 2) (m 0) (msW m).2 ∧ AR h (C + 3) (m 0) (pcF m) ∧ GA h C m ∧ AR h (C + 9) 4 (gsS m) ∧ AR h (C + 10) (m 0) (auF m) ∧ qI h C 7 = bN (gsS m 0 ≤ usF m)
theorem KM.fz {P : Nat → Nat → Prop} {h h2 : Hp} {C : Nat} {m : Int → Int} (k : KM h C m) (f : FZ P h h2) (hp : ∀ x j, C ≤ x → x ≤ C + 11 → ¬ P x j) : KM h2 C m := by
  obtain ⟨a1, a2, a3, a4, a9, a10, a7⟩ := k
  exact ⟨a1.fz f (fun j => hp _ j (by omega) (by omega)), a2.fz f (fun j => hp _ j (by omega) (by omega)), a3.fz f (fun j => hp _ j (by omega) (by omega)), a4.fz f (fun x j z1 z2 => hp x j (by omega) (by omega)), a9.fz f (fun j => hp _ j (by omega) (by omega)), a10.fz f (fun j => hp _ j (by omega) (by omega)), (f.2 C 7 (hp _ _ (by omega) (by omega))).trans a7⟩
theorem g_findAuto {h : Hp} {C T : Nat} {m : Int → Int} (w : WF m) (l : LK h C T) (t : TM h T m) (A1 : AR h (C + 1) (m 0) (msW m).1) (A2 : AR h (C + 2) (m 0) (msW m).2) (A3 : AR h (C + 3) (m 0) (pcF m)) (G : GA h C m) (A9 : AR h (C + 9) 4 (gsS m)) :
    ∃ h2, f_X3_findAutomatic h C = some (h2, .inr ()) ∧ FZ (pC C) h h2 ∧ KM h2 C m := by
  have hm := w.1.2.2.2.2.2
  have h0 := w.1.1
  have ct := l.ct
  have ub := us_bd w
  have gb := gsS_bd w (g := 0)
  have rs := A9 0 (by omega) (by omega)
  have nx : ∀ v, v = bN (gsS m 0 ≤ usF m) → (v = 0 ∨ v = 1) → ∃ h2, f_X3_findAutomatic_L31 h C (iN (usF m)) v C = some (h2, .inr ()) ∧ FZ (pC C) h h2 ∧ KM h2 C m := by
    intro v hv hv2
    have fa : FZ (pC C) h (putI h C 7 v) := FZ.pI (by unfold pC; omega)
    have l1 := l.ly fa.1
    have t1 := t.c hm ct fa
    have A19 : AR (putI h C 7 v) (C + 9) 4 (gsS m) := A9.ne (by omega)
    have G1 : GA (putI h C 7 v) C m := fun g hg => (G g hg).ne (by omega)
    obtain ⟨V, A10⟩ := AR.any (putI h C 7 v) (C + 10) (m 0)
    obtain ⟨h2, e2, f2, a2⟩ := g_auto63 (V := V) w (ft_bd m) (m 0).toNat 0 (putI h C 7 v) 2000 (by omega) (by omega) l1 t1 (A3.ne (by omega)) G1 A19 (A10.cg (fun c z1 z2 => by rw [if_neg (by omega)]))
    have f12 := fa.tr (f2.c2 (by omega) (by omega))
    refine ⟨h2, ?_, f12, ?_⟩
    · unfold f_X3_findAutomatic_L31
      rw [chk_pos l.o, chk_pos hv2, lt_is, g_auto38 w l1 A19]
      exact e2
    · refine ⟨?_, ?_, ?_, ?_, ?_, a2, ?_⟩
      · exact (A1.ne (a := C) (by omega)).fz f2 (fun j z => by omega)
      · exact (A2.ne (a := C) (by omega)).fz f2 (fun j z => by omega)
      · exact (A3.ne (a := C) (by omega)).fz f2 (fun j z => by omega)
      · exact G1.fz f2 (fun x j z1 z2 z => by omega)
      · exact A19.fz f2 (fun j z => by omega)
      · rw [f2.2 C 7 (by omega), rd_eq]; exact hv
  unfold f_X3_findAutomatic
  rw [chk_pos l.o, l.r0, chk_pos t.1.o, t.wd, g_usable t, bnd_ret, chk_pos l.o, l.r5, chk_pos l.o9, l.w9, ck_in (by omega) (by omega) (by omega), iN_cl (by omega) (by omega), rs]
  show ∃ h2, (if iN (usF m) < iN (gsS m 0) then _ else _) = _ ∧ _
  by_cases hh : gsS m 0 ≤ usF m
  · rw [if_neg (nltN (by omega) (by omega) (by omega))]
    exact nx (iN 1) (by unfold bN; rw [if_pos hh]) (Or.inr rfl)
  · rw [if_pos (yltN (by omega) (by omega) (by omega))]
    exact nx (iN 0) (by unfold bN; rw [if_neg hh]) (Or.inl rfl)
theorem g_meas6 {C T : Nat} {m : Int → Int} (w : WF m) : ∀ (d k : Nat) (h : Hp) (n : Nat), (k : Int) + d + 1 = m 0 → d < n → LK h C T → TM h T m → AR h (C + 1) (m 0) (mG m k).1 → AR h (C + 2) (m 0) (mG m k).2 →
    ∃ h2, f_X3_measure_L6 n h C (iN (k + 2 : Nat)) = some (h2, .inr ()) ∧ FZ (pC C) h h2 ∧ KM h2 C m := by
  have hm := w.1.2.2.2.2.2
  have h0 := w.1.1
  intro d
  induction d with
  | zero =>
    intro k h n hk hn l t A1 A2
    obtain ⟨n, rfl⟩ : ∃ z, n = z + 1 := ⟨n - 1, by omega⟩
    have ct := l.ct
    have ek : mG m k = msW m := by unfold msW; rw [show (m 0 - 1).toNat = k by omega]
    rw [ek] at A1 A2
    obtain ⟨h3, e3, f3, a3⟩ := g_findPct w l t
    have g3 := f3.c (C := C) (by omega) (by omega)
    have l3 := l.ly f3.1
    have t3 := t.c hm ct g3
    have A13 := A1.fz f3 (fun j z => by unfold pA at z; omega)
    have A23 := A2.fz f3 (fun j z => by unfold pA at z; omega)
    obtain ⟨h4, e4, f4, a4, b4⟩ := g_findGuesses w l3 t3 A13 A23 a3
    have l4 := l3.ly f4.1
    have t4 := t3.c hm ct f4.g
    obtain ⟨h5, e5, f5, k5⟩ := g_findAuto w l4 t4 (A13.fz f4 (fun j z => by unfold pG at z; omega)) (A23.fz f4 (fun j z => by unfold pG at z; omega)) (a3.fz f4 (fun j z => by unfold pG at z; omega)) a4 b4
    refine ⟨h5, ?_, (g3.tr f4.g).tr f5, k5⟩
    show f_X3_measure_B6 (f_X3_measure_L6 n) h C (iN (k + 2 : Nat)) = _
    unfold f_X3_measure_B6
    rw [chk_pos l.o, l.r0, chk_pos t.1.o, t.cs, if_pos (yltN (by omega) (by omega) (by omega)), e3, bnd_ret, chk_pos l3.o, e4, bnd_ret, chk_pos l4.o, e5, bnd_ret]
  | succ d ih =>
    intro k h n hk hn l t A1 A2
    obtain ⟨n, rfl⟩ : ∃ z, n = z + 1 := ⟨n - 1, by omega⟩
    have ct := l.ct
    obtain ⟨h3, e3, f3, a3, b3⟩ := g_mspan w (s := (k : Int) + 2) (B := 1902 + 33600 * k) (p := mG m k) (by omega) (mG_bd w k (by omega)) (by omega) (m 5).toNat 0 h 2000 (by omega) (by omega) l t A1 A2
    rw [show ((0 : Nat) : Int) = 0 from rfl] at e3
    obtain ⟨h2, e2, f2, k2⟩ := ih (k + 1) h3 n (by omega) (by omega) (l.ly f3.1) (t.c hm ct f3) a3 b3
    refine ⟨h2, ?_, f3.tr f2, k2⟩
    show f_X3_measure_B6 (f_X3_measure_L6 n) h C (iN (k + 2 : Nat)) = _
    unfold f_X3_measure_B6 f_X3_measureCellsOfSpan
    rw [chk_pos l.o, l.r0, chk_pos t.1.o, t.cs, if_neg (nltN (by omega) (by omega) (by omega))]
    rw [show ((k + 2 : Nat) : Int) = (k : Int) + 2 from rfl, e3, bnd_ret, iN_add]
    exact e2
theorem g_measure {h : Hp} {C T : Nat} {m : Int → Int} (w : WF m) (l : LK h C T) (t : TM h T m) : ∃ h2, f_X3_measure h C = some (h2, .inr ()) ∧ FZ (pC C) h h2 ∧ KM h2 C m := by
  have hm := w.1.2.2.2.2.2
  have h0 := w.1.1
  have ct := l.ct
  obtain ⟨h3, e3, f3, a3, b3⟩ := g_measureSingle w l t
  have g3 := f3.c2 (C := C) (by omega) (by omega)
  obtain ⟨h2, e2, f2, k2⟩ := g_meas6 w (m 0 - 1).toNat 0 h3 2000 (by omega) (by omega) (l.ly f3.1) (t.c hm ct g3) a3 b3
  refine ⟨h2, ?_, g3.tr f2, k2⟩
  unfold f_X3_measure
  rw [chk_pos l.o, e3, bnd_ret]
  exact e2
