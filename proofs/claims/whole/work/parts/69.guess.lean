/-! ===== STAGE B: percentages, guesses: pure and the class's ===== -/
def usF (m : Int → Int) : Int := m 1 - m 2 * (m 0 + 1)
def pcL (m : Int → Int) : Nat → Int
  | 0 => 100
  | k + 1 => pcL m k - (if tyS (m (6 + k)) = 2 then min (vaS (m (6 + k))) (pcL m k) else 0)
def pcF (m : Int → Int) (c : Int) : Int := if tyS (m (6 + c)) = 2 then min (vaS (m (6 + c))) (pcL m c.toNat) else 0
def gs1 (m : Int → Int) (c : Int) : Int := max ((msW m).1 c) (if tyS (m (6 + c)) = 2 then (usF m * pcF m c).tdiv 100 else 0)
def gs2 (m : Int → Int) (c : Int) : Int := max (gs1 m c) (if tyS (m (6 + c)) = 1 then vaS (m (6 + c)) else 0)
def gs3 (m : Int → Int) (c : Int) : Int := if tyS (m (6 + c)) = 0 then (msW m).2 c else gs2 m c
def gsF (m : Int → Int) (g : Int) : Int → Int := if g = 0 then (msW m).1 else if g = 1 then gs1 m else if g = 2 then gs2 m else gs3 m
def gsS (m : Int → Int) (g : Int) : Int := sumF (gsF m g) 0 (m 0).toNat
theorem pcL_bd {m : Int → Int} (w : WF m) : ∀ k : Nat, (k : Int) ≤ 4 → 0 ≤ pcL m k ∧ pcL m k ≤ 100
  | 0, _ => by rw [pcL]; omega
  | k + 1, hk => by
    have := pcL_bd w k (by omega)
    have := (w.2.1 k (by omega) (by omega)).ty
    rw [pcL]
    split <;> omega
theorem pcF_bd {m : Int → Int} (w : WF m) {c : Int} (hc : 0 ≤ c ∧ c < 4) : 0 ≤ pcF m c ∧ pcF m c ≤ 100 := by
  have := pcL_bd w c.toNat (by omega)
  have := (w.2.1 c hc.1 hc.2).ty
  unfold pcF
  split <;> omega
theorem us_bd {m : Int → Int} (w : WF m) : -2 ≤ usF m ∧ usF m ≤ 36 := by
  have h := w.1
  have a : 0 ≤ m 2 * (m 0 + 1) := Int.mul_nonneg (by omega) (by omega)
  have b : m 2 * (m 0 + 1) ≤ 2 * 5 := Int.mul_le_mul (by omega) (by omega) (by omega) (by omega)
  unfold usF
  omega
theorem por_bd {u p : Int} (hu : -2 ≤ u ∧ u ≤ 36) (hp : 0 ≤ p ∧ p ≤ 100) : (-200 ≤ u * p ∧ u * p ≤ 3600) ∧ (u * p).tdiv 100 ≤ 36 ∧ -36 ≤ (u * p).tdiv 100 := by
  have h1 : u * p ≤ 36 * 100 := by
    by_cases h : 0 ≤ u
    · exact Int.mul_le_mul hu.2 hp.2 hp.1 (by omega)
    · have := Int.mul_nonneg (a := -u) (b := p) (by omega) hp.1
      rw [Int.neg_mul] at this
      omega
  have h2 : -200 ≤ u * p := by
    have := Int.mul_le_mul_of_nonneg_right (c := p) hu.1 hp.1
    omega
  refine ⟨⟨h2, by omega⟩, ?_, ?_⟩
  · by_cases h : 0 ≤ u * p
    · rw [Int.tdiv_eq_ediv_of_nonneg h]; omega
    · have : (u * p).tdiv 100 = -((-(u * p)).tdiv 100) := by rw [Int.neg_tdiv, Int.neg_neg]
      rw [this, Int.tdiv_eq_ediv_of_nonneg (by omega)]
      omega
  · by_cases h : 0 ≤ u * p
    · rw [Int.tdiv_eq_ediv_of_nonneg h]; omega
    · have : (u * p).tdiv 100 = -((-(u * p)).tdiv 100) := by rw [Int.neg_tdiv, Int.neg_neg]
      rw [this, Int.tdiv_eq_ediv_of_nonneg (by omega)]
      omega
theorem gs_bd {m : Int → Int} (w : WF m) {c : Int} (hc : 0 ≤ c ∧ c < m 0) : 1 ≤ (msW m).1 c ∧ (msW m).1 c ≤ gs1 m c ∧ gs1 m c ≤ gs2 m c ∧ gs2 m c ≤ gs3 m c ∧ gs3 m c ≤ 102900 ∧ (msW m).1 c ≤ (msW m).2 c ∧ (msW m).2 c ≤ 102702 := by
  have h0 := w.1.1
  have b := msW_bd w c hc.1 hc.2
  have s := (w.2.1 c hc.1 (by omega)).ty
  have p := por_bd (us_bd w) (pcF_bd w (c := c) (by omega))
  unfold gs3 gs2 gs1
  by_cases h2 : tyS (m (6 + c)) = 2
  · rw [if_pos h2, if_neg (by omega), if_neg (by omega)]; omega
  · rw [if_neg h2]
    by_cases h1 : tyS (m (6 + c)) = 1
    · rw [if_pos h1, if_neg (by omega)]; omega
    · rw [if_neg h1, if_pos (by omega)]; omega
theorem gsF_bd {m : Int → Int} (w : WF m) {g c : Int} (hc : 0 ≤ c ∧ c < m 0) : 1 ≤ gsF m g c ∧ gsF m g c ≤ 102900 := by
  have := gs_bd w hc
  unfold gsF
  split
  · omega
  · split
    · omega
    · split <;> omega
theorem gsF_up {m : Int → Int} (w : WF m) {g c : Int} (hg : 0 ≤ g ∧ g ≤ 2) (hc : 0 ≤ c ∧ c < m 0) : gsF m g c ≤ gsF m (g + 1) c := by
  have := gs_bd w hc
  unfold gsF
  by_cases g0 : g = 0
  · rw [if_pos g0, if_neg (by omega), if_pos (by omega)]; omega
  · rw [if_neg g0]
    by_cases g1 : g = 1
    · rw [if_pos g1, if_neg (by omega), if_neg (by omega), if_pos (by omega)]; omega
    · rw [if_neg g1, if_pos (by omega), if_neg (by omega), if_neg (by omega), if_neg (by omega)]; omega
theorem gsS_bd {m : Int → Int} (w : WF m) {g : Int} : 0 ≤ gsS m g ∧ gsS m g ≤ 411600 := by
  have h0 := w.1.1
  have := sumF_bd (F := gsF m g) (B := 102900) (m 0).toNat (fun j _ z2 => by have := gsF_bd w (g := g) (c := j) (by omega); omega)
  unfold gsS
  omega
theorem gsP_bd {m : Int → Int} (w : WF m) {g : Int} {n : Nat} (hn : (n : Int) ≤ m 0) : 0 ≤ sumF (gsF m g) 0 n ∧ sumF (gsF m g) 0 n ≤ 411600 := by
  have h0 := w.1.1
  have := sumF_bd (F := gsF m g) (B := 102900) n (fun j _ z2 => by have := gsF_bd w (g := g) (c := j) (by omega); omega)
  omega
theorem g_pct {C T : Nat} {m : Int → Int} (w : WF m) : ∀ (d k : Nat) (h : Hp) (n : Nat) (V : Int → Int), (k : Int) + d = m 0 → d < n → LK h C T → TM h T m → AR h (C + 3) (m 0) (fun c => if c < k then pcF m c else V c) →
    ∃ h2, f_X3_findPercentages_L5 n h C (iN (pcL m k)) (iN k) = some (h2, .inr ()) ∧ FZ (pA (C + 3)) h h2 ∧ AR h2 (C + 3) (m 0) (pcF m) := by
  have hm := w.1.2.2.2.2.2
  have h0 := w.1.1
  intro d
  induction d with
  | zero =>
    intro k h n V hk hn l t A
    obtain ⟨n, rfl⟩ : ∃ z, n = z + 1 := ⟨n - 1, by omega⟩
    refine ⟨h, ?_, FZ.rf, A.cg (fun c z1 z2 => by rw [if_pos (by omega)])⟩
    show f_X3_findPercentages_B5 (f_X3_findPercentages_L5 n) h C _ (iN k) = _
    unfold f_X3_findPercentages_B5
    rw [chk_pos l.o, l.r0, chk_pos t.1.o, t.cs, if_pos (yleN (by omega) (by omega) (by omega))]
  | succ d ih =>
    intro k h n V hk hn l t A
    obtain ⟨n, rfl⟩ : ∃ z, n = z + 1 := ⟨n - 1, by omega⟩
    have ct := l.ct
    have ty := (w.2.1 k (by omega) (by omega)).ty
    have pb := pcL_bd w k (by omega)
    have nx : ∀ v, v = pcF m k → ∃ h2, f_X3_findPercentages_L61 (f_X3_findPercentages_L5 n) h C (iN (pcL m k)) (iN k) (iN v) (iN k) (C + 3) = some (h2, .inr ()) ∧ FZ (pA (C + 3)) h h2 ∧ AR h2 (C + 3) (m 0) (pcF m) := by
      intro v hv
      have fa : FZ (pA (C + 3)) h (putI h (C + 3) (k : Int).toNat (iN v)) := FZ.pa
      have l4 := l.ly fa.1
      obtain ⟨h2, e2, f2, a2⟩ := ih (k + 1) _ n V (by omega) (by omega) l4 (t.c hm ct (fa.c (by omega) (by omega))) ((A.put (k := k) (v := v) (by omega)).cg (fun c z1 z2 => by
        unfold up
        by_cases hc2 : c = k
        · rw [if_pos hc2, if_pos (by omega), hc2, hv]
        · rw [if_neg hc2]
          dsimp only
          by_cases hc : c < k
          · rw [if_pos hc, if_pos (by omega)]
          · rw [if_neg hc, if_neg (by omega)]))
      refine ⟨h2, ?_, fa.tr f2, a2⟩
      have ev : pcL m (k + 1) = pcL m k - v := by rw [hv, pcL]; unfold pcF; rw [Int.toNat_natCast]
      unfold f_X3_findPercentages_L61
      rw [chk_pos l.o3, l.w3, ck_in (by omega) (by omega) (by omega), iN_cl (by omega) (by omega), lt_is, chk_pos l4.o, l4.r3, chk_pos l4.o3, l4.w3, ck_in (by omega) (by omega) (by omega), rd_eq, iN_sub, iN_add, ← ev]
      exact e2
    show ∃ h2, f_X3_findPercentages_B5 (f_X3_findPercentages_L5 n) h C _ (iN k) = _ ∧ _
    unfold f_X3_findPercentages_B5 f_X3_findPercentages_L34
    rw [chk_pos l.o, l.r0, chk_pos t.1.o, t.cs, if_neg (nleN (by omega) (by omega) (by omega)), t.1.r6, chk_pos t.1.o1, t.1.w1, ck_in (by omega) (by omega) (by omega), iN_cl (by omega) (by omega), t.ty k (by omega) (by omega)]
    dsimp only
    have i00 : iN 0 = 0 := rfl
    have i10 : ¬ iN 1 = 0 := by decide
    by_cases h1 : tyS (m (6 + k)) = 2
    · have rv : qI h (T + 2) (k : Int).toNat = iN (vaS (m (6 + k))) := t.va k (by omega) (by omega)
      rw [if_pos (by rw [h1]), chk_pos l.o, l.r3, chk_pos l.o3, if_neg i10, chk_pos t.1.o, t.1.r7, chk_pos t.1.o2, t.1.w2, ck_in (by omega) (by omega) (by omega), rv, g_jmin ⟨by omega, by omega⟩ ⟨by omega, by omega⟩]
      exact nx _ (by unfold pcF; rw [if_pos h1, Int.toNat_natCast])
    · rw [if_neg (neN h1 (by omega) (by omega) (by omega) (by omega)), chk_pos l.o, l.r3, chk_pos l.o3, if_pos i00]
      exact nx 0 (by unfold pcF; rw [if_neg h1])
theorem g_findPct {h : Hp} {C T : Nat} {m : Int → Int} (w : WF m) (l : LK h C T) (t : TM h T m) : ∃ h2, f_X3_findPercentages h C = some (h2, .inr ()) ∧ FZ (pA (C + 3)) h h2 ∧ AR h2 (C + 3) (m 0) (pcF m) := by
  have h0 := w.1.1
  obtain ⟨V, A⟩ := AR.any h (C + 3) (m 0)
  exact g_pct w (m 0).toNat 0 h 2000 V (by omega) (by omega) l t (A.cg (fun c z1 z2 => by rw [if_neg (by omega)]))
theorem LK.ga {h : Hp} {C T : Nat} (l : LK h C T) {g : Nat} (hg : g < 4) : qR h (C + 4) (iN g).toNatClampNeg = C + 5 + g := by rw [iN_clN (by omega)]; exact (l.2.2.2.2 g hg).1
theorem LK.go {h : Hp} {C T : Nat} (l : LK h C T) {g : Nat} (hg : g < 4) : okr h (C + 5 + g) 20 := (l.2.2.2.2 g hg).2.1
theorem LK.gw {h : Hp} {C T : Nat} (l : LK h C T) {g : Nat} (hg : g < 4) : qW h (C + 5 + g) = 4 := (l.2.2.2.2 g hg).2.2
def gsH (h : Hp) (C k : Nat) (a b c d : Int) : Hp := putI (putI (putI (putI h (C + 5 + 0) (k : Int).toNat (iN a)) (C + 5 + 1) (k : Int).toNat (iN b)) (C + 5 + 2) (k : Int).toNat (iN c)) (C + 5 + 3) (k : Int).toNat (iN d)
theorem g_gs86 {K : Hp → Nat → Int32 → Int32 → Option (Rs Unit)} {h : Hp} {C T k : Nat} {us ty lo hi po fx : Int} (l : LK h C T) (hk : k < 4) (hi2 : qI h (C + 2) (k : Int).toNat = iN hi) (h1 : 0 ≤ ty ∧ ty ≤ 2) (h2 : 0 ≤ lo ∧ lo ≤ 200000) (h3 : -100 ≤ po ∧ po ≤ 100) (h4 : 0 ≤ fx ∧ fx ≤ 100) :
    f_X3_findGuesses_L86 K h C (iN us) (iN k) (iN ty) (iN lo) (iN po) (iN fx) = K (gsH h C k lo (max lo po) (max (max lo po) fx) (if ty = 0 then hi else max (max lo po) fx)) C (iN us) (iN (k + 1 : Nat)) := by
  have e0 := l.ga (g := 0) (by omega)
  have e1 := l.ga (g := 1) (by omega)
  have e2 := l.ga (g := 2) (by omega)
  have e3 := l.ga (g := 3) (by omega)
  have o0 := l.go (g := 0) (by omega)
  have o1 := l.go (g := 1) (by omega)
  have o2 := l.go (g := 2) (by omega)
  have o3 := l.go (g := 3) (by omega)
  have w0 := l.gw (g := 0) (by omega)
  have w1 := l.gw (g := 1) (by omega)
  have w2 := l.gw (g := 2) (by omega)
  have w3 := l.gw (g := 3) (by omega)
  rw [show ((0 : Nat) : Int) = 0 from rfl] at e0
  rw [show ((1 : Nat) : Int) = 1 from rfl] at e1
  rw [show ((2 : Nat) : Int) = 2 from rfl] at e2
  rw [show ((3 : Nat) : Int) = 3 from rfl] at e3
  have j1 : jmax (iN lo) (iN po) = iN (max lo po) := g_jmax ⟨by omega, by omega⟩ ⟨by omega, by omega⟩
  have j2 : jmax (iN (max lo po)) (iN fx) = iN (max (max lo po) fx) := g_jmax ⟨by omega, by omega⟩ ⟨by omega, by omega⟩
  have kc : (iN (k : Int)).toNatClampNeg = (k : Int).toNat := iN_cl (by omega) (by omega)
  have ks : ((k + 1 : Nat) : Int) = (k : Int) + 1 := rfl
  unfold f_X3_findGuesses_L86 f_X3_findGuesses_L162 gsH
  by_cases ht : ty = 0
  · have hz : iN ty = 0 := by rw [ht]; rfl
    simp (disch := omega) only [lt_is, okr_pIi, qR_pI, qW_pI, l.r4, l.r2, chk_pos l.o, chk_pos l.o4, chk_pos l.o2, l.w4, l.w2, e0, e1, e2, e3, chk_pos o0, chk_pos o1, chk_pos o2, chk_pos o3, w0, w1, w2, w3, ck_in, kc, rd_eq, rd_ne, j1, j2, if_pos hz, hi2, iN_add, ks, if_pos ht]
  · have hz : ¬ iN ty = 0 := fun z => ht ((iN_eq0 (by omega) (by omega)).mp z)
    simp (disch := omega) only [lt_is, okr_pIi, qR_pI, qW_pI, l.r4, l.r2, chk_pos l.o, chk_pos l.o4, chk_pos l.o2, l.w4, l.w2, e0, e1, e2, e3, chk_pos o0, chk_pos o1, chk_pos o2, chk_pos o3, w0, w1, w2, w3, ck_in, kc, rd_eq, rd_ne, j1, j2, if_neg hz, iN_add, ks, if_neg ht]
