/-! ===== STAGE B: the reference's automatic layout ===== -/
theorem rcL_le {m : Int → Int} : ∀ (k : Nat) (c : Int), 0 ≤ c → c < k → rcL m k ≤ tyS (m (6 + c))
  | 0, c, h1, h2 => by omega
  | k + 1, c, h1, h2 => by
    rw [rcL]
    by_cases e : c = k
    · rw [e]; omega
    · have := rcL_le (m := m) k c h1 (by omega); omega
theorem rcL_at {m : Int → Int} : ∀ k : Nat, rcL m k = 2 ∨ ∃ c : Int, 0 ≤ c ∧ c < k ∧ rcL m k = tyS (m (6 + c))
  | 0 => Or.inl rfl
  | k + 1 => by
    rw [rcL]
    by_cases h : rcL m k ≤ tyS (m (6 + k))
    · rw [Int.min_eq_left h]
      exact (rcL_at k).imp id (fun ⟨c, h1, h2, h3⟩ => ⟨c, h1, by omega, h3⟩)
    · rw [Int.min_eq_right (by omega)]
      exact Or.inr ⟨k, by omega, by omega, rfl⟩
theorem Msk.le0 {S : Int32} {f : Int → Prop} (a : Msk S f) : S ≤ 0 ↔ ∀ c, 0 ≤ c → c < 4 → ¬ f c := by
  rw [← a.ne]
  obtain ⟨⟨z, hz, rfl⟩, -⟩ := a
  rw [iN_le0 (by omega) (by omega), iN_eq0 (by omega) (by omega)]
  omega
theorem g_wr60 {M : Nat} {m V : Int → Int} (w : WF m) {S1 S2 : Int32} (m1 : Msk S1 (fun c => c < m 0 ∧ tyS (m (6 + c)) = 0)) (m2 : Msk S2 (fun c => c < m 0 ∧ tyS (m (6 + c)) = 1)) {wt : Int → Int} (hwt : ∀ c, 0 ≤ c → c < m 0 → wt c = if S1 ≤ 0 then (if S2 ≤ 0 then pcF m c + 1 else gsF m 3 c) else (msW m).2 c) : ∀ (d k : Nat) (h : Hp) (n : Nat), (k : Int) + d = m 0 → d < n → RM h M m → VM h M m → AR h (M + 15) (m 0) (fun c => if c < k then wt c else V c) →
    ∃ h2, f_X9_weighsRest_L60 n h M S1 S2 (iN k) = some (h2, .inr (if S1 ≤ 0 then (if S2 ≤ 0 then iN 15 else S2) else S1)) ∧ FZ (pA (M + 15)) h h2 ∧ AR h2 (M + 15) (m 0) wt := by
  have h0 := w.1.1
  intro d
  induction d with
  | zero =>
    intro k h n hk hn r v A
    obtain ⟨n, rfl⟩ : ∃ z, n = z + 1 := ⟨n - 1, by omega⟩
    refine ⟨h, ?_, FZ.rf, A.cg (fun c z1 z2 => by rw [if_pos (by omega)])⟩
    show f_X9_weighsRest_B60 (f_X9_weighsRest_L60 n) h M S1 S2 (iN k) = _
    unfold f_X9_weighsRest_B60
    rw [chk_pos r.1.1, r.1.r1, chk_pos r.1.o1, r.1.w1, ck_in (by omega) (by omega) (by omega), g_rd r (by omega) (by omega), if_pos (yleN (by omega) (by omega) (by omega))]
    split
    · split <;> rfl
    · rfl
  | succ d ih =>
    intro k h n hk hn r v A
    obtain ⟨n, rfl⟩ : ∃ z, n = z + 1 := ⟨n - 1, by omega⟩
    have rm := v.2.1 k (by omega) (by omega)
    have rp := v.2.2.1 k (by omega) (by omega)
    have rg := v.2.2.2 3 k (by omega) (by omega) (by omega) (by omega)
    have kc : (iN (k : Int)).toNatClampNeg = (k : Int).toNat := iN_cl (by omega) (by omega)
    have nx : ∀ x, x = wt k → ∃ h2, f_X9_weighsRest_L112 (f_X9_weighsRest_L60 n) h M S1 S2 (iN k) (iN x) (iN k) (M + 15) = some (h2, .inr (if S1 ≤ 0 then (if S2 ≤ 0 then iN 15 else S2) else S1)) ∧ FZ (pA (M + 15)) h h2 ∧ AR h2 (M + 15) (m 0) wt := by
      intro x hx
      have fa : FZ (pA (M + 15)) h (putI h (M + 15) (k : Int).toNat (iN x)) := FZ.pa
      obtain ⟨h2, e2, f2, a2⟩ := ih (k + 1) _ n (by omega) (by omega) (r.a fa (by omega)) (v.fz fa (fun a j z z2 => by unfold pA at z2; omega)) ((A.put (k := k) (v := x) (by omega)).cg (fun c z1 z2 => by
        unfold up
        by_cases hc2 : c = k
        · rw [if_pos hc2, if_pos (by omega), hc2, hx]
        · rw [if_neg hc2]
          dsimp only
          by_cases hc : c < k
          · rw [if_pos hc, if_pos (by omega)]
          · rw [if_neg hc, if_neg (by omega)]))
      refine ⟨h2, ?_, fa.tr f2, a2⟩
      unfold f_X9_weighsRest_L112
      rw [chk_pos r.1.o24, r.1.w24, ck_in (by omega) (by omega) (by omega), kc, lt_is, iN_add]
      exact e2
    have hw := hwt k (by omega) (by omega)
    show ∃ h2, f_X9_weighsRest_B60 (f_X9_weighsRest_L60 n) h M S1 S2 (iN k) = _ ∧ _
    unfold f_X9_weighsRest_B60
    rw [chk_pos r.1.1, r.1.r1, chk_pos r.1.o1, r.1.w1, ck_in (by omega) (by omega) (by omega), g_rd r (by omega) (by omega), if_neg (nleN (by omega) (by omega) (by omega)), r.1.r24, chk_pos r.1.o24]
    by_cases q1 : S1 ≤ 0
    · rw [if_pos q1] at hw
      rw [if_pos q1]
      by_cases q2 : S2 ≤ 0
      · rw [if_pos q2] at hw
        rw [if_pos q2, r.1.r23, chk_pos r.1.o23, r.1.w23, ck_in (by omega) (by omega) (by omega), kc, rp, iN_add]
        have := nx _ hw.symm
        rw [if_pos q1, if_pos q2] at this
        rw [if_pos q1, if_pos q2]
        exact this
      · rw [if_neg q2] at hw
        rw [if_neg q2, r.1.r26, chk_pos r.1.o26, iN_add, r.1.w26, ck_in (by omega) (by omega) (by omega), iN_cl (z := 12 + (k : Int)) (by omega) (by omega), show (12 + (k : Int)).toNat = (4 * 3 + (k : Int)).toNat by omega, rg]
        have := nx _ hw.symm
        rw [if_pos q1, if_neg q2] at this
        rw [if_pos q1, if_neg q2]
        exact this
    · rw [if_neg q1] at hw
      rw [if_neg q1, r.1.r22, chk_pos r.1.o22, r.1.w22, ck_in (by omega) (by omega) (by omega), kc, rm]
      have := nx _ hw.symm
      rw [if_neg q1] at this
      rw [if_neg q1]
      exact this
theorem g_wr6 {M : Nat} {m : Int → Int} (w : WF m) {h : Hp} (r : RM h M m) {Q : Option (Rs Int32) → Prop} (hQ : ∀ S1 S2, Msk S1 (fun c => c < m 0 ∧ tyS (m (6 + c)) = 0) → Msk S2 (fun c => c < m 0 ∧ tyS (m (6 + c)) = 1) → Q (f_X9_weighsRest_L60 2000 h M S1 S2 (iN 0))) : ∀ (d k : Nat) (n : Nat) (S1 S2 : Int32), (k : Int) + d = m 0 → d < n → Msk S1 (fun c => c < k ∧ tyS (m (6 + c)) = 0) → Msk S2 (fun c => c < k ∧ tyS (m (6 + c)) = 1) → Q (f_X9_weighsRest_L6 n h M S1 S2 (iN k)) := by
  have h0 := w.1.1
  intro d
  induction d with
  | zero =>
    intro k n S1 S2 hk hn m1 m2
    obtain ⟨n, rfl⟩ : ∃ z, n = z + 1 := ⟨n - 1, by omega⟩
    have e : (k : Int) = m 0 := by omega
    rw [e] at m1 m2
    show Q (f_X9_weighsRest_B6 (f_X9_weighsRest_L6 n) h M S1 S2 (iN k))
    unfold f_X9_weighsRest_B6
    rw [chk_pos r.1.1, r.1.r1, chk_pos r.1.o1, r.1.w1, ck_in (by omega) (by omega) (by omega), g_rd r (by omega) (by omega), if_pos (yleN (by omega) (by omega) (by omega))]
    exact hQ S1 S2 m1 m2
  | succ d ih =>
    intro k n S1 S2 hk hn m1 m2
    obtain ⟨n, rfl⟩ : ∃ z, n = z + 1 := ⟨n - 1, by omega⟩
    have ns : ∀ (S : Int32) (t : Int), Msk S (fun c => c < k ∧ tyS (m (6 + c)) = t) → tyS (m (6 + k)) ≠ t → Msk S (fun c => c < (k + 1 : Nat) ∧ tyS (m (6 + c)) = t) := fun S t a ht => a.cg (fun c z1 z2 => by
      constructor
      · intro z; exact ⟨by omega, z.2⟩
      · intro z
        refine ⟨?_, z.2⟩
        have : c ≠ k := fun e => ht (by rw [← e]; exact z.2)
        omega)
    have ys : ∀ (S : Int32) (t : Int), Msk S (fun c => c < k ∧ tyS (m (6 + c)) = t) → tyS (m (6 + k)) = t → Msk (S ||| (iN 1 <<< (iN k &&& 31))) (fun c => c < (k + 1 : Nat) ∧ tyS (m (6 + c)) = t) := fun S t a ht => (a.or (c := k) (by omega)).cg (fun c z1 z2 => by
      constructor
      · intro z
        rcases z with z | z
        · exact ⟨by omega, z.2⟩
        · exact ⟨by omega, by rw [z]; exact ht⟩
      · intro z
        by_cases e : c = k
        · exact Or.inr e
        · exact Or.inl ⟨by omega, z.2⟩)
    show Q (f_X9_weighsRest_B6 (f_X9_weighsRest_L6 n) h M S1 S2 (iN k))
    unfold f_X9_weighsRest_B6 f_X9_weighsRest_L32 f_X9_weighsRest_L50
    rw [chk_pos r.1.1, r.1.r1, chk_pos r.1.o1, r.1.w1, ck_in (by omega) (by omega) (by omega), g_rd r (by omega) (by omega), if_neg (nleN (by omega) (by omega) (by omega)), g_isAuto9 r w (by omega), bnd_ret]
    by_cases t0 : tyS (m (6 + k)) = 0
    · rw [if_neg (fun z => bN0.mp z t0), chk_pos r.1.1, g_isFixed9 r w (by omega), bnd_ret, if_pos (bN0.mpr (by omega)), or_iN0, iN_add]
      exact ih (k + 1) n _ _ (by omega) (by omega) (ys S1 0 m1 t0) (ns S2 1 m2 (by omega))
    · rw [if_pos (bN0.mpr t0), chk_pos r.1.1, g_isFixed9 r w (by omega), bnd_ret, or_iN0]
      by_cases t1 : tyS (m (6 + k)) = 1
      · rw [if_neg (fun z => bN0.mp z t1), iN_add]
        exact ih (k + 1) n _ _ (by omega) (by omega) (ns S1 0 m1 t0) (ys S2 1 m2 t1)
      · rw [if_pos (bN0.mpr t1), or_iN0, iN_add]
        exact ih (k + 1) n _ _ (by omega) (by omega) (ns S1 0 m1 t0) (ns S2 1 m2 t1)
theorem g_weighsRest9 {h : Hp} {M : Nat} {m : Int → Int} (w : WF m) (r : RM h M m) (v : VM h M m) : ∃ h2 S wt, f_X9_weighsRest h M = some (h2, .inr S) ∧ FZ (pA (M + 15)) h h2 ∧ AR h2 (M + 15) (m 0) wt ∧ wms S wt (wRf m 3) (m 0) := by
  have h0 := w.1.1
  refine g_wr6 w r (Q := fun o => ∃ h2 S wt, o = some (h2, .inr S) ∧ FZ (pA (M + 15)) h h2 ∧ AR h2 (M + 15) (m 0) wt ∧ wms S wt (wRf m 3) (m 0)) (fun S1 S2 m1 m2 => ?_) (m 0).toNat 0 2000 (iN 0) (iN 0) (by omega) (by omega) (Msk.z.cg (fun c z1 z2 => ⟨fun z => z.elim, fun z => by omega⟩)) (Msk.z.cg (fun c z1 z2 => ⟨fun z => z.elim, fun z => by omega⟩))
  obtain ⟨V, A⟩ := AR.any h (M + 15) (m 0)
  obtain ⟨h2, e2, f2, a2⟩ := g_wr60 (V := V) w m1 m2 (wt := fun c => if S1 ≤ 0 then (if S2 ≤ 0 then pcF m c + 1 else gsF m 3 c) else (msW m).2 c) (fun c z1 z2 => rfl) (m 0).toNat 0 h 2000 (by omega) (by omega) r v (A.cg (fun c z1 z2 => by rw [if_neg (by omega)]))
  refine ⟨h2, _, _, e2, f2, a2, fun c z1 z2 => ?_⟩
  have ty := (w.2.1 c z1 (by omega)).ty
  have le := rcL_le (m := m) (m 0).toNat c z1 (by omega)
  have rb := rcL_bd w (m 0).toNat (by omega)
  have at2 := rcL_at (m := m) (m 0).toNat
  have ew : wRf m 3 c = if rcL m (m 0).toNat = 2 then pcF m c + 1 else if tyS (m (6 + c)) = rcL m (m 0).toNat then gsF m 3 c else 0 := by
    unfold wRf
    rw [if_neg (by omega)]
  have g3 : gsF m 3 c = gs3 m c := by unfold gsF; rw [if_neg (by omega), if_neg (by omega), if_neg (by omega)]
  rw [ew]
  by_cases q1 : S1 ≤ 0
  · have n1 := m1.le0.mp q1
    rw [if_pos q1, if_pos q1]
    have c0 : tyS (m (6 + c)) ≠ 0 := fun z => n1 c z1 (by omega) ⟨z2, z⟩
    have r0 : rcL m (m 0).toNat ≠ 0 := by
      rcases at2 with z | ⟨x, x1, x2, x3⟩
      · omega
      · intro z
        rw [z] at x3
        exact n1 x x1 (by omega) ⟨by omega, x3.symm⟩
    by_cases q2 : S2 ≤ 0
    · have n2 := m2.le0.mp q2
      have r1 : rcL m (m 0).toNat = 2 := by
        rcases at2 with z | ⟨x, x1, x2, x3⟩
        · exact z
        · have tx := (w.2.1 x x1 (by omega)).ty
          have n2x := n2 x x1 (by omega)
          by_cases z : tyS (m (6 + x)) = 1
          · exact absurd ⟨by omega, z⟩ n2x
          · omega
      rw [if_pos q2, if_pos q2, if_pos r1]
      exact Or.inl ⟨(Msk.f15.2 c z1 (by omega)).mpr trivial, rfl⟩
    · have r1 : rcL m (m 0).toNat = 1 := by
        by_cases z : rcL m (m 0).toNat = 1
        · exact z
        · exfalso
          refine q2 (m2.le0.mpr (fun x x1 x2 x3 => ?_))
          have := rcL_le (m := m) (m 0).toNat x x1 (by omega)
          omega
      rw [if_neg q2, if_neg q2, if_neg (by omega), r1]
      by_cases t1 : tyS (m (6 + c)) = 1
      · exact Or.inl ⟨(m2.2 c z1 (by omega)).mpr ⟨z2, t1⟩, by rw [if_pos t1]⟩
      · exact Or.inr ⟨fun z => t1 ((m2.2 c z1 (by omega)).mp z).2, by rw [if_neg t1]⟩
  · have r0 : rcL m (m 0).toNat = 0 := by
      by_cases z : rcL m (m 0).toNat = 0
      · exact z
      · exfalso
        refine q1 (m1.le0.mpr (fun x x1 x2 x3 => ?_))
        have := rcL_le (m := m) (m 0).toNat x x1 (by omega)
        omega
    rw [if_neg q1, if_neg q1, if_neg (by omega), r0]
    by_cases t0 : tyS (m (6 + c)) = 0
    · exact Or.inl ⟨(m1.2 c z1 (by omega)).mpr ⟨z2, t0⟩, by rw [if_pos t0, g3]; unfold gs3; rw [if_pos t0]⟩
    · exact Or.inr ⟨fun z => t0 ((m1.2 c z1 (by omega)).mp z).2, by rw [if_neg t0]⟩
/-! the sums rise -/
theorem sumF_mo {F G : Int → Int} : ∀ n : Nat, (∀ j : Nat, j < n → F j ≤ G j) → sumF F 0 n ≤ sumF G 0 n
  | 0, _ => Int.le_refl _
  | n + 1, h => by
    have := sumF_mo n (fun j hj => h j (by omega))
    have := h n (by omega)
    rw [sumF, sumF, show (0 : Int) + (n : Int) = n by omega]
    omega
theorem sumF_eq {F G : Int → Int} : ∀ n : Nat, (∀ j : Nat, j < n → F j ≤ G j) → sumF G 0 n ≤ sumF F 0 n → ∀ j : Nat, j < n → F j = G j
  | 0, _, _, j, hj => by omega
  | n + 1, h, e, j, hj => by
    have h1 := sumF_mo n (fun j hj => h j (by omega))
    have h2 := h n (by omega)
    rw [sumF, sumF, show (0 : Int) + (n : Int) = n by omega] at e
    by_cases q : j = n
    · rw [q]; omega
    · exact sumF_eq n (fun j hj => h j (by omega)) (by omega) j (by omega)
theorem gsS_up {m : Int → Int} (w : WF m) {g : Int} (hg : 0 ≤ g ∧ g ≤ 2) : gsS m g ≤ gsS m (g + 1) := by
  have h0 := w.1.1
  exact sumF_mo _ (fun j hj => gsF_up w hg (by omega))
theorem gsF_eq {m : Int → Int} (w : WF m) {g : Int} (hg : 0 ≤ g ∧ g ≤ 2) (h : gsS m (g + 1) ≤ gsS m g) {c : Int} (hc : 0 ≤ c ∧ c < m 0) : gsF m g c = gsF m (g + 1) c := by
  have h0 := w.1.1
  have := sumF_eq _ (fun j hj => gsF_up w (g := g) hg (c := (j : Int)) (by omega)) h c.toNat (by omega)
  rw [Int.toNat_of_nonneg hc.1] at this
  exact this
theorem shF_0 {a : Int} {wt : Int → Int} {K : Int} (hw : ∀ c, 0 ≤ c → c < K → wt c = 0) {c : Int} (hc : 0 ≤ c ∧ c < K) : shF a wt K c = 0 := by
  have h1 := hw c hc.1 hc.2
  unfold shF shX
  rw [if_neg (fun z => by omega)]
  unfold shP
  rw [h1, Int.mul_zero, Int.zero_ediv]
  split <;> rfl
def kkF (m : Int → Int) : Int := if usF m ≤ gsS m 0 then 0 else if usF m ≤ gsS m 1 then 1 else if usF m ≤ gsS m 2 then 2 else if usF m ≤ gsS m 3 then 3 else 4
def bsF (m : Int → Int) : Int := if kkF m < 4 ∧ gsS m (kkF m) = usF m then kkF m else kkF m - 1
def wkF (m : Int → Int) (c : Int) : Int := if kkF m < 4 then gsF m (kkF m) c - gsF m (bsF m) c else wRf m 3 c
/-- both layouts agree -/
theorem au_eq {m : Int → Int} (w : WF m) (h : gsS m 0 ≤ usF m) {c : Int} (hc : 0 ≤ c ∧ c < m 0) : 0 ≤ bsF m ∧ bsF m ≤ 3 ∧ gsS m (bsF m) ≤ usF m ∧ gsF m (bsF m) c + shF (usF m - gsS m (bsF m)) (wkF m) (m 0) c = auF m c := by
  have u0 := gsS_up w (g := 0) (by omega)
  have u1 := gsS_up w (g := 1) (by omega)
  have u2 := gsS_up w (g := 2) (by omega)
  rw [show (0 : Int) + 1 = 1 from rfl] at u0
  rw [show (1 : Int) + 1 = 2 from rfl] at u1
  rw [show (2 : Int) + 1 = 3 from rfl] at u2
  have q0 := fun z => gsF_eq w (g := 0) (by omega) z hc
  have q1 := fun z => gsF_eq w (g := 1) (by omega) z hc
  have q2 := fun z => gsF_eq w (g := 2) (by omega) z hc
  rw [show (0 : Int) + 1 = 1 from rfl] at q0
  rw [show (1 : Int) + 1 = 2 from rfl] at q1
  rw [show (2 : Int) + 1 = 3 from rfl] at q2
  have eqc : ∀ k : Int, kkF m = k → k < 4 → gsS m k = usF m → bsF m = k ∧ shF (usF m - gsS m k) (wkF m) (m 0) c = 0 := fun k hk h4 he => by
    have hb : bsF m = k := by unfold bsF; rw [hk, if_pos ⟨h4, he⟩]
    refine ⟨hb, shF_0 (fun x _ _ => ?_) hc⟩
    unfold wkF
    rw [hk, hb, if_pos h4]
    omega
  have ltc : ∀ k : Int, kkF m = k → k < 4 → gsS m k ≠ usF m → bsF m = k - 1 := fun k hk h4 he => by
    unfold bsF; rw [hk, if_neg (fun z => he z.2)]
  have wk : ∀ k : Int, kkF m = k → 1 ≤ k → k < 4 → gsS m k ≠ usF m → wkF m = wRf m (k - 1) := fun k hk h1 h4 he => by
    funext x
    unfold wkF wRf
    rw [hk, ltc k hk h4 he, if_pos h4, if_pos (by omega), show k - 1 + 1 = k by omega]
  by_cases a0 : usF m ≤ gsS m 0
  · have hk : kkF m = 0 := by unfold kkF; rw [if_pos a0]
    obtain ⟨hb, hs⟩ := eqc 0 hk (by omega) (by omega)
    rw [hb]
    refine ⟨by omega, by omega, by omega, ?_⟩
    rw [hs]
    unfold auF ftF
    by_cases g3 : gsS m 3 ≤ usF m
    · rw [if_pos g3, if_neg (by omega)]; rw [q0 (by omega), q1 (by omega), q2 (by omega)]
    · rw [if_neg g3]
      by_cases g2 : gsS m 2 ≤ usF m
      · rw [if_pos g2, if_neg (by omega)]; rw [q0 (by omega), q1 (by omega)]
      · rw [if_neg g2]
        by_cases g1 : gsS m 1 ≤ usF m
        · rw [if_pos g1, if_neg (by omega)]; rw [q0 (by omega)]
        · rw [if_neg g1, if_neg (by omega)]
  · by_cases a1 : usF m ≤ gsS m 1
    · have hk : kkF m = 1 := by unfold kkF; rw [if_neg a0, if_pos a1]
      by_cases he : gsS m 1 = usF m
      · obtain ⟨hb, hs⟩ := eqc 1 hk (by omega) he
        rw [hb]
        refine ⟨by omega, by omega, by omega, ?_⟩
        rw [hs]
        unfold auF ftF
        by_cases g3 : gsS m 3 ≤ usF m
        · rw [if_pos g3, if_neg (by omega)]; rw [q1 (by omega), q2 (by omega)]
        · rw [if_neg g3]
          by_cases g2 : gsS m 2 ≤ usF m
          · rw [if_pos g2, if_neg (by omega)]; rw [q1 (by omega)]
          · rw [if_neg g2, if_pos (by omega), if_neg (by omega)]
      · have hb := ltc 1 hk (by omega) he
        have hw := wk 1 hk (by omega) (by omega) he
        rw [hb, hw]
        refine ⟨by omega, by omega, by show gsS m 0 ≤ _; omega, ?_⟩
        have ft : ftF m = 0 := by unfold ftF; rw [if_neg (by omega), if_neg (by omega), if_neg (by omega)]
        unfold auF
        rw [ft, if_pos (by omega)]
        rfl
    · by_cases a2 : usF m ≤ gsS m 2
      · have hk : kkF m = 2 := by unfold kkF; rw [if_neg a0, if_neg a1, if_pos a2]
        by_cases he : gsS m 2 = usF m
        · obtain ⟨hb, hs⟩ := eqc 2 hk (by omega) he
          rw [hb]
          refine ⟨by omega, by omega, by omega, ?_⟩
          rw [hs]
          unfold auF ftF
          by_cases g3 : gsS m 3 ≤ usF m
          · rw [if_pos g3, if_neg (by omega)]; rw [q2 (by omega)]
          · rw [if_neg g3, if_pos (by omega), if_neg (by omega)]
        · have hb := ltc 2 hk (by omega) he
          have hw := wk 2 hk (by omega) (by omega) he
          rw [hb, hw]
          refine ⟨by omega, by omega, by show gsS m 1 ≤ _; omega, ?_⟩
          have ft : ftF m = 1 := by unfold ftF; rw [if_neg (by omega), if_neg (by omega), if_pos (by omega)]
          unfold auF
          rw [ft, if_pos (by omega)]
          rfl
      · by_cases a3 : usF m ≤ gsS m 3
        · have hk : kkF m = 3 := by unfold kkF; rw [if_neg a0, if_neg a1, if_neg a2, if_pos a3]
          by_cases he : gsS m 3 = usF m
          · obtain ⟨hb, hs⟩ := eqc 3 hk (by omega) he
            rw [hb]
            refine ⟨by omega, by omega, by omega, ?_⟩
            rw [hs]
            unfold auF ftF
            rw [if_pos (by omega), if_neg (by omega)]
          · have hb := ltc 3 hk (by omega) he
            have hw := wk 3 hk (by omega) (by omega) he
            rw [hb, hw]
            refine ⟨by omega, by omega, by show gsS m 2 ≤ _; omega, ?_⟩
            have ft : ftF m = 2 := by unfold ftF; rw [if_neg (by omega), if_pos (by omega)]
            unfold auF
            rw [ft, if_pos (by omega)]
            rfl
        · have hk : kkF m = 4 := by unfold kkF; rw [if_neg a0, if_neg a1, if_neg a2, if_neg a3]
          have hb : bsF m = 3 := by unfold bsF; rw [hk, if_neg (by omega)]; rfl
          have hw : wkF m = wRf m 3 := by funext x; unfold wkF; rw [hk, if_neg (by omega)]
          rw [hb, hw]
          refine ⟨by omega, by omega, by omega, ?_⟩
          have ft : ftF m = 3 := by unfold ftF; rw [if_pos (by omega)]
          unfold auF
          rw [ft, if_pos (by omega)]
