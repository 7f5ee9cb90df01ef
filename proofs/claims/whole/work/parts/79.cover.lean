/-! ===== STAGE B: every cell has its minimum ===== -/
theorem sumF_add {F G : Int → Int} {c : Int} : ∀ n : Nat, sumF (fun x => F x + G x) c n = sumF F c n + sumF G c n
  | 0 => rfl
  | n + 1 => by
    rw [sumF, sumF, sumF, sumF_add n]
    omega
theorem sumF_split {F : Int → Int} {c : Int} (a : Nat) : ∀ b : Nat, sumF F c (a + b) = sumF F c a + sumF F (c + a) b
  | 0 => by rw [Nat.add_zero, sumF.eq_1 F (c + a), Int.add_zero]
  | b + 1 => by
    rw [← Nat.add_assoc, sumF, sumF, sumF_split a b, show c + (a : Int) + (b : Int) = c + ((a + b : Nat) : Int) by omega]
    omega
theorem sumF_z {F : Int → Int} {c : Int} : ∀ n : Nat, (∀ j, c ≤ j → j < c + n → F j = 0) → sumF F c n = 0
  | 0, _ => rfl
  | n + 1, h => by
    rw [sumF, sumF_z n (fun j h1 h2 => h j h1 (by omega)), h (c + n) (by omega) (by omega)]
    rfl
theorem sumF_in {F : Int → Int} {c s K : Int} (hc : 0 ≤ c) (hs : 0 ≤ s) (hk : c + s ≤ K) (h : ∀ j, 0 ≤ j → j < K → (j < c ∨ c + s ≤ j) → F j = 0) : sumF F 0 K.toNat = sumF F c s.toNat := by
  rw [show K.toNat = c.toNat + (s.toNat + (K - c - s).toNat) by omega, sumF_split, sumF_split, sumF_z c.toNat (fun j h1 h2 => h j (by omega) (by omega) (by omega)), sumF_z (K - c - s).toNat (fun j h1 h2 => h j (by omega) (by omega) (by omega)), show (0 : Int) + (c.toNat : Int) = c by omega]
  omega
def cntP (wt : Int → Int) : Nat → Int
  | 0 => 0
  | n + 1 => cntP wt n + (if 0 < wt n then 1 else 0)
theorem shP_sum {a : Int} {wt : Int → Int} {K : Int} (s : SW a wt K) (ht : 0 < shT wt K) : ∀ n : Nat, (n : Int) ≤ K → shT wt K * sumF (shP a wt K) 0 n ≤ a * sumF wt 0 n ∧ a * sumF wt 0 n ≤ shT wt K * (sumF (shP a wt K) 0 n + cntP wt n)
  | 0, _ => by rw [sumF, sumF, cntP]; simp
  | n + 1, hn => by
    obtain ⟨h1, h2⟩ := shP_sum s ht n (by omega)
    have hw := s.2.2 n (by omega) (by omega)
    have ep : shP a wt K n = a * wt n / shT wt K := by unfold shP; rw [if_pos ht]
    have d1 : shT wt K * (a * wt n / shT wt K) ≤ a * wt n := Int.mul_ediv_self_le (by omega)
    have d2 : a * wt n < shT wt K * (a * wt n / shT wt K) + shT wt K := Int.lt_mul_ediv_self_add ht
    rw [sumF, sumF, cntP, show (0 : Int) + (n : Int) = n by omega, ep, Int.mul_add, Int.mul_add, Int.mul_add, Int.mul_add, Int.mul_add]
    rw [Int.mul_add] at h2
    by_cases hz : 0 < wt n
    · rw [if_pos hz, Int.mul_one]; omega
    · have : wt n = 0 := by omega
      rw [if_neg hz, this, Int.mul_zero, Int.zero_ediv, Int.mul_zero]
      omega
theorem cntP_nn (wt : Int → Int) : ∀ n : Nat, 0 ≤ cntP wt n
  | 0 => Int.le_refl 0
  | n + 1 => by
    have := cntP_nn wt n
    rw [cntP]
    split <;> omega
theorem shL_val {a : Int} {wt : Int → Int} {K : Int} (h0 : 0 ≤ shL a wt K 0) : ∀ n : Nat, shL a wt K n = max 0 (shL a wt K 0 - cntP wt n) ∧ sumF (shX a wt K) 0 n = shL a wt K 0 - shL a wt K n
  | 0 => by
    rw [cntP, sumF]
    omega
  | n + 1 => by
    obtain ⟨h1, h2⟩ := shL_val h0 n
    have hx : shX a wt K n = if 0 < shL a wt K n ∧ 0 < wt n then 1 else 0 := by unfold shX; rw [Int.toNat_natCast]
    have es : shL a wt K (n + 1) = if 0 < shL a wt K n ∧ 0 < wt n then shL a wt K n - 1 else shL a wt K n := by rw [shL]
    rw [sumF, show (0 : Int) + (n : Int) = n by omega, hx, es, cntP, h2]
    by_cases hc : 0 < shL a wt K n ∧ 0 < wt n
    · rw [if_pos hc, if_pos hc, if_pos hc.2]; omega
    · rw [if_neg hc, if_neg hc]
      split <;> omega
theorem shSum {a : Int} {wt : Int → Int} {K : Int} (s : SW a wt K) (ht : 0 < shT wt K) : sumF (shF a wt K) 0 K.toNat = a := by
  have hK := s.2.1
  obtain ⟨h1, h2⟩ := shP_sum s ht K.toNat (by omega)
  have eT : sumF wt 0 K.toNat = shT wt K := rfl
  rw [eT, Int.mul_comm a] at h1 h2
  have l1 := Int.le_of_mul_le_mul_left h1 ht
  have l2 := Int.le_of_mul_le_mul_left h2 ht
  have e0 : shL a wt K 0 = a - sumF (shP a wt K) 0 K.toNat := by rw [shL]
  obtain ⟨v1, v2⟩ := shL_val (a := a) (wt := wt) (K := K) (by omega) K.toNat
  have es : sumF (shF a wt K) 0 K.toNat = sumF (shP a wt K) 0 K.toNat + sumF (shX a wt K) 0 K.toNat := sumF_add K.toNat
  rw [es, v2, v1]
  omega
theorem shF_z {a : Int} {wt : Int → Int} {K c : Int} (h : wt c = 0) : shF a wt K c = 0 := by
  unfold shF shX
  rw [if_neg (fun z => by omega)]
  unfold shP
  rw [h, Int.mul_zero, Int.zero_ediv]
  split <;> rfl
/-- somebody takes part -/
theorem shM_ex {m : Int → Int} (w : WF m) {i : Int} (hi : 0 ≤ i ∧ i < m 5) : ∃ c, 0 ≤ c ∧ c < m 0 ∧ shM m i c := by
  have co := (w.2.2.1 i hi.1 hi.2).1
  unfold CO at co
  by_cases al : alB m i (m 0).toNat = true
  · exact ⟨blk m i 1, by omega, by omega, by omega, Or.inl al⟩
  · have : ¬ ∀ c : Int, 0 ≤ c → c < (m 0).toNat → inS m i c → tyS (m (6 + c)) = 1 := fun z => al ((alB_iff _).mpr z)
    have h0 := w.1.1
    by_cases e : ∃ c, 0 ≤ c ∧ c < m 0 ∧ shM m i c
    · exact e
    · exfalso
      refine this (fun c z1 z2 z3 => ?_)
      by_cases t : tyS (m (6 + c)) = 1
      · exact t
      · exact absurd ⟨c, z1, by omega, z3, Or.inr t⟩ e
theorem stLo_cov {m : Int → Int} (w : WF m) {i : Int} (hi : 0 ≤ i ∧ i < m 5) {B : Int} {p : P2} (j : JB m B p) (hB : B ≤ 190000) : mnC m i ≤ wC m i (stLo m i p.1 p.2) := by
  have h0 := w.1.1
  have co := (w.2.2.1 i hi.1 hi.2).1
  unfold CO at co
  unfold stLo
  by_cases h : 0 < mnC m i - wC m i p.1
  · rw [if_pos h]
    have s := SW_lo w hi j hB h
    obtain ⟨c, c1, c2, c3⟩ := shM_ex w hi
    have ht : 0 < shT (wtM m i p.2) (m 0) := by
      have ge := sumF_ge (F := wtM m i p.2) (m 0).toNat (fun x hx => (s.2.2 x (by omega) (by omega)).1) c.toNat (by omega)
      rw [Int.toNat_of_nonneg c1] at ge
      have hp : 1 ≤ wtM m i p.2 c := by
        have := j c c1 c2
        unfold wtM
        rw [if_pos c3]
        omega
      have : sumF (wtM m i p.2) 0 (m 0).toNat = shT (wtM m i p.2) (m 0) := rfl
      omega
    have sm := shSum s ht
    rw [sumF_in (c := blk m i 1) (s := blk m i 2) (by omega) (by omega) (by omega) (fun x x1 x2 x3 => shF_z (by unfold wtM; rw [if_neg (fun z => by have := z.1; omega)]))] at sm
    generalize hF : shF (mnC m i - wC m i p.1) (wtM m i p.2) (m 0) = F at sm
    have sm2 : sumF F (blk m i 1) (blk m i 2).toNat = mnC m i - wC m i p.1 := sm
    have e2 : wC m i (fun c => p.1 c + F c) = wC m i p.1 + sumF F (blk m i 1) (blk m i 2).toNat := by
      unfold wC
      rw [show sumF (fun c => p.1 c + F c) (blk m i 1) (blk m i 2).toNat = sumF p.1 (blk m i 1) (blk m i 2).toNat + sumF F (blk m i 1) (blk m i 2).toNat from sumF_add _]
      omega
    rw [e2]
    omega
  · rw [if_neg h]; omega
theorem wC_mo {m V W : Int → Int} (w : WF m) {i : Int} (hi : 0 ≤ i ∧ i < m 5) (h : ∀ c, 0 ≤ c → c < m 0 → V c ≤ W c) : wC m i V ≤ wC m i W := by
  have co := (w.2.2.1 i hi.1 hi.2).1
  unfold CO at co
  have : ∀ n : Nat, blk m i 1 + n ≤ m 0 → sumF V (blk m i 1) n ≤ sumF W (blk m i 1) n := by
    intro n
    induction n with
    | zero => intro _; exact Int.le_refl _
    | succ n ih =>
      intro hn
      have := ih (by omega)
      have := h (blk m i 1 + n) (by omega) (by omega)
      rw [sumF, sumF]
      omega
  have := this (blk m i 2).toNat (by omega)
  unfold wC
  omega
theorem mF_mo {m : Int → Int} (w : WF m) {s B : Int} {p : P2} (j : JB m B p) (hB : B ≤ 150000) : ∀ (d k : Nat), ((k + d : Nat) : Int) ≤ m 5 → ∀ c, 0 ≤ c → c < m 0 → (mF m s p k).1 c ≤ (mF m s p (k + d)).1 c
  | 0, k, _, c, h1, h2 => Int.le_refl _
  | d + 1, k, hk, c, h1, h2 => by
    have h5 := w.1.2.2.2.2.2
    have a := mF_mo w (s := s) j hB d k (by omega) c h1 h2
    rw [← Nat.add_assoc, mF]
    by_cases hs : blk m ((k + d : Nat) : Int) 2 = s
    · rw [if_pos hs]
      have := stLo_bd w (i := ((k + d : Nat) : Int)) (by omega) (mF_bd w (s := s) j hB (k + d) (by omega)) (by omega) c h1 h2
      unfold stp
      dsimp only
      omega
    · rw [if_neg hs]; exact a
theorem mG_mo {m : Int → Int} (w : WF m) : ∀ (d k : Nat), k + d ≤ 3 → ∀ c, 0 ≤ c → c < m 0 → (mG m k).1 c ≤ (mG m (k + d)).1 c
  | 0, k, _, c, h1, h2 => Int.le_refl _
  | d + 1, k, hk, c, h1, h2 => by
    have h5 := w.1.2.2.2.2.2
    have a := mG_mo w d k (by omega) c h1 h2
    rw [← Nat.add_assoc, mG]
    have := mF_mo w (s := ((k + d : Nat) : Int) + 2) (mG_bd w (k + d) (by omega)) (by omega) (m 5).toNat 0 (by omega) c h1 h2
    rw [mF, Nat.zero_add] at this
    omega
theorem msL_ge {m : Int → Int} (c : Int) : ∀ (k i : Nat), i < k → blk m i 2 = 1 → blk m i 1 = c → mnC m i ≤ msL m c k
  | 0, i, h, _, _ => by omega
  | k + 1, i, h, h2, h1 => by
    rw [msL]
    by_cases e : i = k
    · subst e
      rw [if_pos ⟨h2, h1⟩]
      omega
    · have := msL_ge c k i (by omega) h2 h1
      split <;> omega
/-- the least widths give every cell its minimum -/
theorem cov {m : Int → Int} (w : WF m) {i : Int} (hi : 0 ≤ i ∧ i < m 5) : mnC m i ≤ wC m i (msW m).1 := by
  have h0 := w.1.1
  have h5 := w.1.2.2.2.2.2
  have co := (w.2.2.1 i hi.1 hi.2).1
  unfold CO at co
  by_cases h1 : blk m i 2 = 1
  · have a := msL_ge (m := m) (blk m i 1) (m 5).toNat i.toNat (by omega) (by rw [Int.toNat_of_nonneg hi.1]; exact h1) (by rw [Int.toNat_of_nonneg hi.1])
    rw [Int.toNat_of_nonneg hi.1] at a
    have b := mG_mo w (m 0 - 1).toNat 0 (by omega) (blk m i 1) (by omega) (by omega)
    rw [Nat.zero_add] at b
    have e1 : (mG m 0).1 (blk m i 1) = msL m (blk m i 1) (m 5).toNat := rfl
    have e2 : wC m i (msW m).1 = (msW m).1 (blk m i 1) := by
      unfold wC
      rw [h1, show ((1 : Int)).toNat = 1 from rfl, sumF, sumF]
      simp
    unfold msW at e2 ⊢
    omega
  · obtain ⟨k, hk⟩ : ∃ k : Nat, blk m i 2 = k + 2 := ⟨(blk m i 2 - 2).toNat, by omega⟩
    have jb := mG_bd w k (by omega)
    have jf := mF_bd w (s := (k : Int) + 2) jb (by omega) i.toNat (by omega)
    have st := stLo_cov w hi jf (by omega)
    have ef : mF m ((k : Int) + 2) (mG m k) (i.toNat + 1) = stp m i (mF m ((k : Int) + 2) (mG m k) i.toNat) := by
      rw [mF, Int.toNat_of_nonneg hi.1, if_pos hk]
    have m1 := mF_mo w (s := (k : Int) + 2) jb (by omega) ((m 5).toNat - (i.toNat + 1)) (i.toNat + 1) (by omega)
    rw [show i.toNat + 1 + ((m 5).toNat - (i.toNat + 1)) = (m 5).toNat by omega, ef] at m1
    have eg : mG m (k + 1) = mF m ((k : Int) + 2) (mG m k) (m 5).toNat := by rw [mG]
    have m2 := mG_mo w ((m 0 - 1).toNat - (k + 1)) (k + 1) (by omega)
    rw [show k + 1 + ((m 0 - 1).toNat - (k + 1)) = (m 0 - 1).toNat by omega, eg] at m2
    have := wC_mo w hi (V := (stp m i (mF m ((k : Int) + 2) (mG m k) i.toNat)).1) (W := (msW m).1) (fun c z1 z2 => by
      have q1 := m1 c z1 z2
      have q2 := m2 c z1 z2
      unfold msW
      omega)
    exact Int.le_trans st this
theorem GW_of {m W : Int → Int} (w : WF m) (h : ∀ c, 0 ≤ c → c < m 0 → (msW m).1 c ≤ W c ∧ W c ≤ 1000) : GW m W := fun i z1 z2 => by
  have h1 := cov w ⟨z1, z2⟩
  have h2 := wC_mo w (V := (msW m).1) (W := W) ⟨z1, z2⟩ (fun c q1 q2 => (h c q1 q2).1)
  have h3 := wC_le w (W := W) (B := 1000) ⟨z1, z2⟩ (fun c q1 q2 => by have := h c q1 q2; have := msW_bd w c q1 q2; omega) (by omega)
  omega
