/-! ===== STAGE B: the measuring, pure; the class's ===== -/
theorem S_my_bd : ∀ (r : List (Int × Int)) (m u : Int), 0 ≤ m → 0 ≤ u → (∀ p ∈ r, (1 ≤ p.1 ∧ p.1 ≤ 156) ∧ 0 ≤ p.2 ∧ p.2 ≤ 3) → m ≤ S_my r m u ∧ S_my r m u ≤ m + u + 158 * r.length
  | [], m, u, hm, hu, _ => by
    rw [S_my]
    simp only [List.length_nil]
    omega
  | (l, b) :: r, m, u, hm, hu, h => by
    have h1 := h (l, b) (List.mem_cons_self ..)
    simp only at h1
    have hE : 0 ≤ kE1 l b ∧ kE1 l b ≤ 157 := by unfold kE1; split <;> omega
    have hP : 0 ≤ kP1 l b ∧ kP1 l b ≤ 157 := by unfold kP1; split <;> omega
    have hr := fun p hp => h p (List.mem_cons_of_mem _ hp)
    rw [S_my]
    have hcl : ((((l, b) :: r).length : Nat) : Int) = r.length + 1 := by rw [List.length_cons]; rfl
    rw [hcl]
    split
    · have := S_my_bd r (max m (u + kE1 l b)) 0 (by omega) (by omega) hr
      omega
    · have := S_my_bd r m (u + kP1 l b) hm (by omega) hr
      omega
theorem mxB_bd {b : Int → Int} (w : WB b) : 0 ≤ mxB b ∧ mxB b ≤ 1898 := by
  have w3 := w.2.2.1
  have i2 := indOf_bd (b 3)
  have po := psB_ok w
  unfold mxB S_max
  by_cases h3 : b 3 ≤ 3
  · rw [if_pos h3]
    have h1 := S_my_bd (psB b) 0 0 (by omega) (by omega) po.1
    have := po.2.1
    omega
  · rw [if_neg h3]; omega
theorem mC_bd {m : Int → Int} (w : WF m) {i : Int} (hi : 0 ≤ i ∧ i < m 5) : (0 ≤ mnC m i ∧ mnC m i ≤ 163) ∧ 0 ≤ mxC m i ∧ mxC m i ≤ 1902 := by
  have h3 := w.1.2.2.2.1
  have wb := (w.2.2.1 i hi.1 hi.2).2
  have := mnB_bd wb
  have := mxB_bd wb
  unfold mnC mxC
  omega
def stLo (m : Int → Int) (i : Int) (lo hi : Int → Int) : Int → Int := if 0 < mnC m i - wC m i lo then fun c => lo c + shF (mnC m i - wC m i lo) (wtM m i hi) (m 0) c else lo
def stMi (m : Int → Int) (i : Int) (lo hi : Int → Int) : Int → Int := fun c => max (hi c) (stLo m i lo hi c)
def stHi (m : Int → Int) (i : Int) (lo hi : Int → Int) : Int → Int := if 0 < mxC m i - wC m i (stMi m i lo hi) then fun c => stMi m i lo hi c + shF (mxC m i - wC m i (stMi m i lo hi)) (wtM m i (stMi m i lo hi)) (m 0) c else stMi m i lo hi
abbrev P2 : Type := (Int → Int) × (Int → Int)
def stp (m : Int → Int) (i : Int) (p : P2) : P2 := (stLo m i p.1 p.2, stHi m i p.1 p.2)
def mF (m : Int → Int) (s : Int) (p : P2) : Nat → P2
  | 0 => p
  | k + 1 => if blk m k 2 = s then stp m k (mF m s p k) else mF m s p k
def msL (m : Int → Int) (c : Int) : Nat → Int
  | 0 => 1
  | k + 1 => if blk m k 2 = 1 ∧ blk m k 1 = c then max (msL m c k) (mnC m k) else msL m c k
def msH (m : Int → Int) (s c : Int) : Nat → Int
  | 0 => s
  | k + 1 => if blk m k 2 = 1 ∧ blk m k 1 = c then max (msH m s c k) (mxC m k) else msH m s c k
def mIni (m : Int → Int) : P2 := (fun c => msL m c (m 5).toNat, fun c => max (if tyS (m (6 + c)) = 1 then vaS (m (6 + c)) else msH m 0 c (m 5).toNat) (msL m c (m 5).toNat))
def mG (m : Int → Int) : Nat → P2
  | 0 => mIni m
  | k + 1 => mF m (k + 2) (mG m k) (m 5).toNat
def msW (m : Int → Int) : P2 := mG m (m 0 - 1).toNat
/-- bounds of the measures -/
def JB (m : Int → Int) (B : Int) (p : P2) : Prop := ∀ c, 0 ≤ c → c < m 0 → 1 ≤ p.1 c ∧ p.1 c ≤ p.2 c ∧ p.2 c ≤ B
theorem sumF_nn {F : Int → Int} {c K : Int} (hc : 0 ≤ c) (h : ∀ j, 0 ≤ j → j < K → 0 ≤ F j) : ∀ n : Nat, c + n ≤ K → 0 ≤ sumF F c n
  | 0, _ => by rw [sumF]; omega
  | n + 1, hn => by
    have := sumF_nn hc h n (by omega)
    have := h (c + n) (by omega) (by omega)
    rw [sumF]; omega
theorem wC_nn {m W : Int → Int} (w : WF m) {i : Int} (hi : 0 ≤ i ∧ i < m 5) (h : ∀ c, 0 ≤ c → c < m 0 → 0 ≤ W c) : 0 ≤ wC m i W := by
  have co := (w.2.2.1 i hi.1 hi.2).1
  have h2 := w.1.2.2.1
  unfold CO at co
  have := sumF_nn (K := m 0) co.2.1 h (blk m i 2).toNat (by omega)
  have : 0 ≤ m 2 * (blk m i 2 - 1) := Int.mul_nonneg h2.1 (by omega)
  unfold wC
  omega
theorem wtM_bd {m hi : Int → Int} {B : Int} {i : Int} (hB : 0 ≤ B) (h : ∀ c, 0 ≤ c → c < m 0 → 0 ≤ hi c ∧ hi c ≤ B) : ∀ c, 0 ≤ c → c < m 0 → 0 ≤ wtM m i hi c ∧ wtM m i hi c ≤ B := fun c h1 h2 => by
  have := h c h1 h2
  unfold wtM
  split <;> omega
theorem SW_lo {m : Int → Int} (w : WF m) {i : Int} (hi : 0 ≤ i ∧ i < m 5) {B : Int} {p : P2} (j : JB m B p) (hB : B ≤ 190000) (h : 0 < mnC m i - wC m i p.1) : SW (mnC m i - wC m i p.1) (wtM m i p.2) (m 0) := by
  have mb := mC_bd w hi
  have wn := wC_nn w hi (W := p.1) (fun c z1 z2 => by have := j c z1 z2; omega)
  refine ⟨by omega, w.1.1, wtM_bd (by omega) (fun c z1 z2 => by have := j c z1 z2; omega)⟩
theorem stLo_bd {m : Int → Int} (w : WF m) {i : Int} (hi : 0 ≤ i ∧ i < m 5) {B : Int} {p : P2} (j : JB m B p) (hB : B ≤ 190000) : ∀ c, 0 ≤ c → c < m 0 → p.1 c ≤ stLo m i p.1 p.2 c ∧ stLo m i p.1 p.2 c ≤ p.1 c + 164 := fun c h1 h2 => by
  unfold stLo
  by_cases h : 0 < mnC m i - wC m i p.1
  · have mb := mC_bd w hi
    have wn := wC_nn w hi (W := p.1) (fun c z1 z2 => by have := j c z1 z2; omega)
    have := shF_bd (SW_lo w hi j hB h) ⟨h1, h2⟩
    rw [if_pos h]
    omega
  · rw [if_neg h]; omega
theorem stMi_bd {m : Int → Int} (w : WF m) {i : Int} (hi : 0 ≤ i ∧ i < m 5) {B : Int} {p : P2} (j : JB m B p) (hB : B ≤ 190000) : ∀ c, 0 ≤ c → c < m 0 → 1 ≤ stMi m i p.1 p.2 c ∧ stLo m i p.1 p.2 c ≤ stMi m i p.1 p.2 c ∧ p.2 c ≤ stMi m i p.1 p.2 c ∧ stMi m i p.1 p.2 c ≤ B + 164 := fun c h1 h2 => by
  have := stLo_bd w hi j hB c h1 h2
  have := j c h1 h2
  unfold stMi
  omega
theorem SW_hi {m : Int → Int} (w : WF m) {i : Int} (hi : 0 ≤ i ∧ i < m 5) {B : Int} {p : P2} (j : JB m B p) (hB : B ≤ 190000) (h : 0 < mxC m i - wC m i (stMi m i p.1 p.2)) : SW (mxC m i - wC m i (stMi m i p.1 p.2)) (wtM m i (stMi m i p.1 p.2)) (m 0) := by
  have mb := mC_bd w hi
  have sb := stMi_bd w hi j hB
  have wn := wC_nn w hi (W := stMi m i p.1 p.2) (fun c z1 z2 => by have := sb c z1 z2; omega)
  refine ⟨by omega, w.1.1, fun c z1 z2 => ?_⟩
  exact wtM_bd (B := 200000) (by omega) (fun c z1 z2 => by have := sb c z1 z2; omega) c z1 z2
theorem stp_bd {m : Int → Int} (w : WF m) {i : Int} (hi : 0 ≤ i ∧ i < m 5) {B : Int} {p : P2} (j : JB m B p) (hB : B ≤ 190000) : JB m (B + 2100) (stp m i p) := fun c h1 h2 => by
  have a1 := stLo_bd w hi j hB c h1 h2
  have a2 := stMi_bd w hi j hB c h1 h2
  have a3 := j c h1 h2
  unfold stp
  dsimp only
  unfold stHi
  by_cases h : 0 < mxC m i - wC m i (stMi m i p.1 p.2)
  · have mb := mC_bd w hi
    have sb := stMi_bd w hi j hB
    have wn := wC_nn w hi (W := stMi m i p.1 p.2) (fun c z1 z2 => by have := sb c z1 z2; omega)
    have := shF_bd (SW_hi w hi j hB h) ⟨h1, h2⟩
    rw [if_pos h]
    omega
  · rw [if_neg h]; omega
theorem mF_bd {m : Int → Int} (w : WF m) {s B : Int} {p : P2} (j : JB m B p) (hB : B ≤ 150000) : ∀ k : Nat, (k : Int) ≤ m 5 → JB m (B + 2100 * k) (mF m s p k)
  | 0, _ => by
    rw [mF]
    exact fun c h1 h2 => by have := j c h1 h2; omega
  | k + 1, hk => by
    have h5 := w.1.2.2.2.2.2
    have ih := mF_bd w (s := s) j hB k (by omega)
    rw [mF]
    by_cases h : blk m k 2 = s
    · rw [if_pos h]
      have := stp_bd w (i := k) (by omega) ih (by omega)
      exact fun c h1 h2 => by have := this c h1 h2; omega
    · rw [if_neg h]
      exact fun c h1 h2 => by have := ih c h1 h2; omega
theorem msL_bd {m : Int → Int} (w : WF m) {c : Int} : ∀ k : Nat, (k : Int) ≤ m 5 → 1 ≤ msL m c k ∧ msL m c k ≤ 163
  | 0, _ => by rw [msL]; omega
  | k + 1, hk => by
    have := msL_bd w (c := c) k (by omega)
    have := mC_bd w (i := k) (by omega)
    rw [msL]
    split <;> omega
theorem msH_bd {m : Int → Int} (w : WF m) {s c : Int} (hs : 0 ≤ s ∧ s ≤ 1) : ∀ k : Nat, (k : Int) ≤ m 5 → 0 ≤ msH m s c k ∧ msH m s c k ≤ 1902
  | 0, _ => by rw [msH]; omega
  | k + 1, hk => by
    have := msH_bd w (c := c) hs k (by omega)
    have := mC_bd w (i := k) (by omega)
    rw [msH]
    split <;> omega
theorem msH_1 {m : Int → Int} {c : Int} : ∀ k : Nat, msH m 1 c k = max 1 (msH m 0 c k)
  | 0 => by rw [msH, msH]; omega
  | k + 1 => by
    have := msH_1 (m := m) (c := c) k
    rw [msH, msH]
    split <;> omega
theorem mIni_bd {m : Int → Int} (w : WF m) : JB m 1902 (mIni m) := fun c h1 h2 => by
  have h5 := w.1.2.2.2.2.2
  have h0 := w.1.1
  have a := msL_bd w (c := c) (m 5).toNat (by omega)
  have b := msH_bd w (s := 0) (c := c) (by omega) (m 5).toNat (by omega)
  have s := (w.2.1 c h1 (by omega)).ty
  unfold mIni
  dsimp only
  split <;> omega
theorem mG_bd {m : Int → Int} (w : WF m) : ∀ k : Nat, k ≤ 3 → JB m (1902 + 33600 * k) (mG m k)
  | 0, _ => by
    rw [mG]
    exact fun c h1 h2 => by have := mIni_bd w c h1 h2; omega
  | k + 1, hk => by
    have h5 := w.1.2.2.2.2.2
    have := mF_bd w (s := (k : Int) + 2) (mG_bd w k (by omega)) (by omega) (m 5).toNat (by omega)
    rw [mG]
    exact fun c h1 h2 => by have := this c h1 h2; omega
theorem msW_bd {m : Int → Int} (w : WF m) : JB m 102702 (msW m) := fun c h1 h2 => by
  have h0 := w.1.1
  have := mG_bd w (m 0 - 1).toNat (by omega) c h1 h2
  unfold msW
  omega
theorem g_widen {C T arr : Nat} {m hi V W : Int → Int} (w : WF m) {i wanted : Int} (hi1 : 0 ≤ i ∧ i < m 5) {h : Hp} (l : LK h C T) (t : TM h T m) (A2 : AR h (C + 2) (m 0) hi) (A11 : AR h (C + 11) (m 0) V) (hA : arr = C + 1 ∨ arr = C + 2) (A : AR h arr (m 0) W) (oa : okr h arr 20) (wa : qW h arr = 4) (hw : -10000 ≤ wanted ∧ wanted ≤ 10000) (hW : ∀ c, 0 ≤ c → c < m 0 → 0 ≤ W c ∧ W c ≤ 500000) (hs : 0 < wanted - wC m i W → SW (wanted - wC m i W) (wtM m i hi) (m 0)) (hwc : -1000000 ≤ wC m i W ∧ wC m i W ≤ 10000000) :
    ∃ h2 V2, f_X3_widen h C (cA h T i) (iN wanted) arr = some (h2, .inr ()) ∧ FZ (fun x _ => x = arr ∨ x = C + 11) h h2 ∧ AR h2 arr (m 0) (if 0 < wanted - wC m i W then fun c => W c + shF (wanted - wC m i W) (wtM m i hi) (m 0) c else W) ∧ AR h2 (C + 11) (m 0) V2 := by
  have hm := w.1.2.2.2.2.2
  have h0 := w.1.1
  have ct := l.ct
  unfold f_X3_widen
  rw [chk_pos l.o, l.r0, chk_pos t.1.o, g_widthIn t w hi1 oa wa A, bnd_ret, iN_sub]
  by_cases hl : 0 < wanted - wC m i W
  · rw [if_neg (fun z => by have := (iN_le0 (by omega) (by omega)).mp z; omega), chk_pos l.o]
    obtain ⟨h3, e3, f3, a3⟩ := g_weigh w hi1 l t A2 A11
    have l3 := l.ly f3.1
    have t3 := t.c hm ct (f3.c (by omega) (by omega))
    have A3 : AR h3 arr (m 0) W := A.fz f3 (fun j z => by unfold pA at z; omega)
    obtain ⟨h2, e2, f2, a2⟩ := g_share ⟨h0, hm⟩ (hs hl) (by omega) (by omega) (fun c z1 z2 => by have := hW c z1 z2; omega) l3 t3 (f3.1.ok.mpr oa) (by rw [f3.1.2.2.1]; exact wa) a3 A3
    refine ⟨h2, wtM m i hi, ?_, (f3.mo (fun x j z => Or.inr z)).tr (f2.mo (fun x j z => Or.inl z)), by rw [if_pos hl]; exact a2, a3.fz f2 (fun j z => by unfold pA at z; omega)⟩
    rw [e3, bnd_ret, chk_pos l3.o, e2, bnd_ret]
  · refine ⟨h, V, by rw [if_pos ((iN_le0 (by omega) (by omega)).mpr (by omega))], FZ.rf, by rw [if_neg hl]; exact A, A11⟩
theorem wC_le {m W : Int → Int} (w : WF m) {i B : Int} (hi : 0 ≤ i ∧ i < m 5) (h : ∀ c, 0 ≤ c → c < m 0 → 0 ≤ W c ∧ W c ≤ B) (hB : 0 ≤ B) : wC m i W ≤ 6 + 4 * B := by
  have co := (w.2.2.1 i hi.1 hi.2).1
  have h2 := w.1.2.2.1
  have h0 := w.1.1
  unfold CO at co
  have : ∀ n : Nat, blk m i 1 + n ≤ m 0 → sumF W (blk m i 1) n ≤ B * n := by
    intro n
    induction n with
    | zero => intro _; rw [sumF]; simp
    | succ n ih =>
      intro hn
      have := ih (by omega)
      have := h (blk m i 1 + n) (by omega) (by omega)
      rw [sumF, show B * ((n + 1 : Nat) : Int) = B * n + B by rw [Int.natCast_add, Int.mul_add]; simp]
      omega
  have h5 := this (blk m i 2).toNat (by omega)
  have h6 : B * ((blk m i 2).toNat : Int) ≤ B * 4 := Int.mul_le_mul_of_nonneg_left (by omega) hB
  have h7 : m 2 * (blk m i 2 - 1) ≤ 2 * 3 := Int.mul_le_mul h2.2 (by omega) (by omega) (by omega)
  unfold wC
  omega
