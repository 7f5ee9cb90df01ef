/-! ===== STAGE B: the reference spreads and measures ===== -/
theorem Msk.cg {S : Int32} {f g : Int → Prop} (a : Msk S f) (e : ∀ c, 0 ≤ c → c < 4 → (f c ↔ g c)) : Msk S g := ⟨a.1, fun c h1 h2 => (a.2 c h1 h2).trans (e c h1 h2)⟩
theorem alB_iff {m : Int → Int} {i : Int} : ∀ k : Nat, alB m i k = true ↔ ∀ c : Int, 0 ≤ c → c < k → inS m i c → tyS (m (6 + c)) = 1
  | 0 => ⟨fun _ c h1 h2 => by omega, fun _ => rfl⟩
  | k + 1 => by
    rw [alB, Bool.and_eq_true, alB_iff k, decide_eq_true_eq]
    constructor
    · intro z c h1 h2
      by_cases e : c = k
      · rw [e]; exact z.2
      · exact z.1 c h1 (by omega)
    · intro z
      exact ⟨fun c h1 h2 => z c h1 (by omega), z k (by omega) (by omega)⟩
theorem or_iN0 (S : Int32) : S ||| iN 0 = S := Int32.or_zero
theorem g_sharingL {h : Hp} {M : Nat} {m : Int → Int} (w : WF m) {i : Int} (hi : 0 ≤ i ∧ i < m 5) (r : RM h M m) : ∀ (d k : Nat) (n : Nat) (S L : Int32), (k : Int) + d = blk m i 2 → d < n → Msk S (fun c => blk m i 1 ≤ c ∧ c < blk m i 1 + k) → Msk L (fun c => (blk m i 1 ≤ c ∧ c < blk m i 1 + k) ∧ tyS (m (6 + c)) ≠ 1) →
    ∃ R, f_X9_sharing_L12 n h M (iN i) S L (iN (blk m i 1 + k)) = some (h, .inr R) ∧ Msk R (shM m i) := by
  have hm := w.1.2.2.2.2.2
  have h0 := w.1.1
  have co := (w.2.2.1 i hi.1 hi.2).1
  unfold CO at co
  have hi2 : 0 ≤ i ∧ i < 16 := by omega
  intro d
  induction d with
  | zero =>
    intro k n S L hk hn mS mL
    obtain ⟨n, rfl⟩ : ∃ z, n = z + 1 := ⟨n - 1, by omega⟩
    show ∃ R, f_X9_sharing_B12 (f_X9_sharing_L12 n) h M (iN i) S L _ = _ ∧ _
    unfold f_X9_sharing_B12
    rw [chk_pos r.1.1, g_ofA r hi2 (by omega), bnd_ret, chk_pos r.1.1, g_ofA r hi2 (by omega), bnd_ret, iN_add, if_pos (yleN (by omega) (by omega) (by omega))]
    by_cases hL : L = 0
    · rw [if_pos hL]
      refine ⟨S, rfl, mS.cg (fun c z1 z2 => ?_)⟩
      have nl := mL.ne.mp hL
      have al : alB m i (m 0).toNat = true := (alB_iff _).mpr (fun c q1 q2 q3 => by
        have := nl c q1 (by omega)
        by_cases e : tyS (m (6 + c)) = 1
        · exact e
        · exact absurd ⟨by omega, e⟩ this)
      constructor
      · intro z; exact ⟨by omega, Or.inl al⟩
      · intro z; have := z.1; omega
    · rw [if_neg hL]
      refine ⟨L, rfl, mL.cg (fun c z1 z2 => ?_)⟩
      have nal : ¬ alB m i (m 0).toNat = true := fun z => hL (mL.ne.mpr (fun c q1 q2 q3 => by
        have := (alB_iff _).mp z c q1 (by omega) (by omega)
        exact q3.2 this))
      constructor
      · intro z; exact ⟨by omega, Or.inr z.2⟩
      · intro z
        exact ⟨by have := z.1; omega, z.2.resolve_left nal⟩
  | succ d ih =>
    intro k n S L hk hn mS mL
    obtain ⟨n, rfl⟩ : ∃ z, n = z + 1 := ⟨n - 1, by omega⟩
    show ∃ R, f_X9_sharing_B12 (f_X9_sharing_L12 n) h M (iN i) S L _ = _ ∧ _
    unfold f_X9_sharing_B12 f_X9_sharing_L55
    have S' := (mS.or (c := blk m i 1 + k) (by omega)).cg (g := fun c => blk m i 1 ≤ c ∧ c < blk m i 1 + (k + 1 : Nat)) (fun c z1 z2 => by
      constructor
      · intro z; rcases z with z | z <;> omega
      · intro z
        by_cases e : c = blk m i 1 + k
        · exact Or.inr e
        · exact Or.inl (by omega))
    rw [chk_pos r.1.1, g_ofA r hi2 (by omega), bnd_ret, chk_pos r.1.1, g_ofA r hi2 (by omega), bnd_ret, iN_add, if_neg (nleN (by omega) (by omega) (by omega)), chk_pos r.1.1, g_isFixed9 r w (by omega), bnd_ret, iN_add]
    rw [show blk m i 1 + (k : Int) + 1 = blk m i 1 + ((k + 1 : Nat) : Int) by omega]
    by_cases hf : tyS (m (6 + (blk m i 1 + k))) = 1
    · rw [if_neg (fun z => bN0.mp z hf), or_iN0]
      refine ih (k + 1) n _ L (by omega) (by omega) S' (mL.cg (fun c z1 z2 => ?_))
      constructor
      · intro z; exact ⟨by omega, z.2⟩
      · intro z
        refine ⟨?_, z.2⟩
        have : c ≠ blk m i 1 + k := fun e => z.2 (by rw [e]; exact hf)
        omega
    · rw [if_pos (bN0.mpr hf)]
      refine ih (k + 1) n _ _ (by omega) (by omega) S' ((mL.or (c := blk m i 1 + k) (by omega)).cg (fun c z1 z2 => ?_))
      constructor
      · intro z
        rcases z with z | z
        · exact ⟨by omega, z.2⟩
        · exact ⟨by omega, by rw [z]; exact hf⟩
      · intro z
        by_cases e : c = blk m i 1 + k
        · exact Or.inr e
        · exact Or.inl ⟨by omega, z.2⟩
theorem g_sharing {h : Hp} {M : Nat} {m : Int → Int} (w : WF m) {i : Int} (hi : 0 ≤ i ∧ i < m 5) (r : RM h M m) : ∃ R, f_X9_sharing h M (iN i) = some (h, .inr R) ∧ Msk R (shM m i) := by
  have hm := w.1.2.2.2.2.2
  have h0 := w.1.1
  have co := (w.2.2.1 i hi.1 hi.2).1
  unfold CO at co
  have hi2 : 0 ≤ i ∧ i < 16 := by omega
  obtain ⟨R, e, mR⟩ := g_sharingL w hi r (blk m i 2).toNat 0 2000 (iN 0) (iN 0) (by omega) (by omega) (Msk.z.cg (fun c z1 z2 => ⟨fun z => z.elim, fun z => by omega⟩)) (Msk.z.cg (fun c z1 z2 => ⟨fun z => z.elim, fun z => by omega⟩))
  refine ⟨R, ?_, mR⟩
  rw [show blk m i 1 + ((0 : Nat) : Int) = blk m i 1 by omega] at e
  unfold f_X9_sharing
  rw [chk_pos r.1.1, g_ofA r hi2 (by omega), bnd_ret]
  exact e
theorem Msk.w {S : Int32} {m hi : Int → Int} {i : Int} (h0 : m 0 ≤ 4) (a : Msk S (shM m i)) : wms S hi (wtM m i hi) (m 0) := fun c h1 h2 => by
  unfold wtM
  by_cases h : shM m i c
  · exact Or.inl ⟨(a.2 c h1 (by omega)).mpr h, if_pos h⟩
  · exact Or.inr ⟨fun z => h ((a.2 c h1 (by omega)).mp z), if_neg h⟩
theorem g_sp231 {M : Nat} {m F G : Int → Int} (w : WF m) : ∀ (d k : Nat) (h : Hp) (n : Nat), (k : Int) + d = m 0 → d < n → RM h M m → AR h (M + 16) (m 0) G → AR h (M + 13) (m 0) (fun c => if c < k then F c + G c else F c) →
    ∃ h2, f_X9_spreads_L231 n h M (iN k) = some (h2, .inr ()) ∧ FZ (pA (M + 13)) h h2 ∧ AR h2 (M + 13) (m 0) (fun c => F c + G c) := by
  have h0 := w.1.1
  intro d
  induction d with
  | zero =>
    intro k h n hk hn r B A
    obtain ⟨n, rfl⟩ : ∃ z, n = z + 1 := ⟨n - 1, by omega⟩
    refine ⟨h, ?_, FZ.rf, A.cg (fun c z1 z2 => by rw [if_pos (by omega)])⟩
    show f_X9_spreads_B231 (f_X9_spreads_L231 n) h M (iN k) = _
    unfold f_X9_spreads_B231
    rw [chk_pos r.1.1, r.1.r1, chk_pos r.1.o1, r.1.w1, ck_in (by omega) (by omega) (by omega), g_rd r (by omega) (by omega), if_pos (yleN (by omega) (by omega) (by omega))]
  | succ d ih =>
    intro k h n hk hn r B A
    obtain ⟨n, rfl⟩ : ∃ z, n = z + 1 := ⟨n - 1, by omega⟩
    have bk := B k (by omega) (by omega)
    have ak := A k (by omega) (by omega)
    simp only [Int.lt_irrefl, if_false] at ak
    have fa : FZ (pA (M + 13)) h (putI h (M + 13) (k : Int).toNat (iN (F k + G k))) := FZ.pa
    obtain ⟨h2, e2, f2, a2⟩ := ih (k + 1) _ n (by omega) (by omega) (r.a fa (by omega)) (B.ne (by omega)) ((A.put (k := k) (v := F k + G k) (by omega)).cg (fun c z1 z2 => by
      unfold up
      by_cases hc2 : c = k
      · rw [if_pos hc2, if_pos (by omega), hc2]
      · rw [if_neg hc2]
        dsimp only
        by_cases hc : c < k
        · rw [if_pos hc, if_pos (by omega)]
        · rw [if_neg hc, if_neg (by omega)]))
    refine ⟨h2, ?_, fa.tr f2, a2⟩
    show f_X9_spreads_B231 (f_X9_spreads_L231 n) h M (iN k) = _
    unfold f_X9_spreads_B231
    rw [chk_pos r.1.1, r.1.r1, chk_pos r.1.o1, r.1.w1, ck_in (by omega) (by omega) (by omega), g_rd r (by omega) (by omega), if_neg (nleN (by omega) (by omega) (by omega)), r.1.r22, chk_pos r.1.o22, r.1.w22, ck_in (by omega) (by omega) (by omega), r.1.r25, chk_pos r.1.o25, r.1.w25, ck_in (by omega) (by omega) (by omega), iN_cl (by omega) (by omega), ak, bk, iN_add, lt_is, iN_add]
    exact e2
theorem g_sp176 {h : Hp} {M : Nat} {m F : Int → Int} {S : Int32} (w : WF m) {i B : Int} (hi : 0 ≤ i ∧ i < m 5) (r : RM h M m) (A : AR h (M + 13) (m 0) F) (hF : ∀ c, 0 ≤ c → c < m 0 → 0 ≤ F c ∧ F c ≤ 200000) (mS : Msk S (shM m i)) (hs : 0 < mxC m i - wC m i F → SW (mxC m i - wC m i F) (wtM m i F) (m 0)) : ∀ (d k : Nat) (n : Nat), (k : Int) + d = blk m i 2 → d < n →
    ∃ h2, f_X9_spreads_L176 n h M (iN i) S (iN (mxC m i - m 2 * (blk m i 2 - 1) - sumF F (blk m i 1) k)) (iN (blk m i 1 + k)) = some (h2, .inr ()) ∧ FZ (fun x _ => x = M + 13 ∨ x = M + 15 ∨ x = M + 16) h h2 ∧ AR h2 (M + 13) (m 0) (if 0 < mxC m i - wC m i F then fun c => F c + shF (mxC m i - wC m i F) (wtM m i F) (m 0) c else F) := by
  have hm := w.1.2.2.2.2.2
  have h0 := w.1.1
  have co := (w.2.2.1 i hi.1 hi.2).1
  unfold CO at co
  have hi2 : 0 ≤ i ∧ i < 16 := by omega
  have mb := mC_bd w hi
  have wn := wC_nn w hi (W := F) (fun c z1 z2 => (hF c z1 z2).1)
  have wl := wC_le w (B := 200000) hi (W := F) hF (by omega)
  intro d
  induction d with
  | zero =>
    intro k n hk hn
    obtain ⟨n, rfl⟩ : ∃ z, n = z + 1 := ⟨n - 1, by omega⟩
    have ev : mxC m i - m 2 * (blk m i 2 - 1) - sumF F (blk m i 1) k = mxC m i - wC m i F := by
      unfold wC; rw [show (blk m i 2).toNat = k by omega]; omega
    rw [ev]
    show ∃ h2, f_X9_spreads_B176 (f_X9_spreads_L176 n) h M (iN i) S _ _ = _ ∧ _
    unfold f_X9_spreads_B176
    rw [chk_pos r.1.1, g_ofA r hi2 (by omega), bnd_ret, chk_pos r.1.1, g_ofA r hi2 (by omega), bnd_ret, iN_add, if_pos (yleN (by omega) (by omega) (by omega))]
    by_cases hh : 0 < mxC m i - wC m i F
    · obtain ⟨h3, e3, f3, a3⟩ := g_weighsByMost (K := m 0) (by omega) r.1 A
      have r3 := r.a f3 (by omega)
      obtain ⟨h4, e4, f4, a4⟩ := g_shares w (hs hh) (mS.w (by omega)) r3 a3
      have r4 := r3.a f4 (by omega)
      have A4 : AR h4 (M + 13) (m 0) F := (A.fz f3 (fun j z => by unfold pA at z; omega)).fz f4 (fun j z => by unfold pA at z; omega)
      obtain ⟨h2, e2, f2, a2⟩ := g_sp231 w (F := F) (m 0).toNat 0 h4 2000 (by omega) (by omega) r4 a4 (A4.cg (fun c z1 z2 => by rw [if_neg (by omega)]))
      refine ⟨h2, ?_, ((f3.mo (fun x j z => Or.inr (Or.inl z))).tr (f4.mo (fun x j z => Or.inr (Or.inr z)))).tr (f2.mo (fun x j z => Or.inl z)), by rw [if_pos hh]; exact a2⟩
      rw [if_neg (fun z => by have := (iN_le0 (by omega) (by omega)).mp z; omega), chk_pos r.1.1, e3, bnd_ret, chk_pos r3.1.1, e4, bnd_ret]
      exact e2
    · exact ⟨h, by rw [if_pos ((iN_le0 (by omega) (by omega)).mpr (by omega))], FZ.rf, by rw [if_neg hh]; exact A⟩
  | succ d ih =>
    intro k n hk hn
    obtain ⟨n, rfl⟩ : ∃ z, n = z + 1 := ⟨n - 1, by omega⟩
    obtain ⟨h2, e2, f2, a2⟩ := ih (k + 1) n (by omega) (by omega)
    refine ⟨h2, ?_, f2, a2⟩
    rw [sumF, ← Int.sub_sub] at e2
    show f_X9_spreads_B176 (f_X9_spreads_L176 n) h M (iN i) S _ _ = _
    unfold f_X9_spreads_B176
    rw [chk_pos r.1.1, g_ofA r hi2 (by omega), bnd_ret, chk_pos r.1.1, g_ofA r hi2 (by omega), bnd_ret, iN_add, if_neg (nleN (by omega) (by omega) (by omega)), chk_pos r.1.1, r.1.r22, chk_pos r.1.o22, r.1.w22, ck_in (by omega) (by omega) (by omega), iN_cl (by omega) (by omega), A (blk m i 1 + k) (by omega) (by omega), iN_sub, iN_add, show blk m i 1 + (k : Int) + 1 = blk m i 1 + ((k + 1 : Nat) : Int) by omega]
    exact e2
theorem g_sp110 {M : Nat} {m F H G : Int → Int} {S : Int32} (w : WF m) {i hg : Int} (hF : ∀ c, 0 ≤ c → c < m 0 → (0 ≤ F c + G c ∧ F c + G c ≤ 1000000) ∧ 0 ≤ H c ∧ H c ≤ 1000000) {Q : Hp → Prop} {P : Nat → Nat → Prop} (hP : ∀ x j, (x = M + 12 ∨ x = M + 13) → P x j) {h00 : Hp} (fin : ∀ h3, RM h3 M m → FZ P h00 h3 → AR h3 (M + 12) (m 0) (fun c => F c + G c) → AR h3 (M + 13) (m 0) (fun c => max (H c) (F c + G c)) → ∃ h2, f_X9_spreads_L168 h3 M (iN i) S (iN hg) = some (h2, .inr ()) ∧ Q h2) : ∀ (d k : Nat) (h : Hp) (n : Nat), (k : Int) + d = m 0 → d < n → RM h M m → FZ P h00 h → AR h (M + 16) (m 0) G → AR h (M + 12) (m 0) (fun c => if c < k then F c + G c else F c) → AR h (M + 13) (m 0) (fun c => if c < k then max (H c) (F c + G c) else H c) →
    ∃ h2, f_X9_spreads_L110 n h M (iN i) S (iN hg) (iN k) = some (h2, .inr ()) ∧ Q h2 := by
  have h0 := w.1.1
  intro d
  induction d with
  | zero =>
    intro k h n hk hn r f0 B A1 A2
    obtain ⟨n, rfl⟩ : ∃ z, n = z + 1 := ⟨n - 1, by omega⟩
    obtain ⟨h2, e2, q2⟩ := fin h r f0 (A1.cg (fun c z1 z2 => by rw [if_pos (by omega)])) (A2.cg (fun c z1 z2 => by rw [if_pos (by omega)]))
    refine ⟨h2, ?_, q2⟩
    show f_X9_spreads_B110 (f_X9_spreads_L110 n) h M (iN i) S (iN hg) (iN k) = _
    unfold f_X9_spreads_B110
    rw [chk_pos r.1.1, r.1.r1, chk_pos r.1.o1, r.1.w1, ck_in (by omega) (by omega) (by omega), g_rd r (by omega) (by omega), if_pos (yleN (by omega) (by omega) (by omega))]
    exact e2
  | succ d ih =>
    intro k h n hk hn r f0 B A1 A2
    obtain ⟨n, rfl⟩ : ∃ z, n = z + 1 := ⟨n - 1, by omega⟩
    have bk := B k (by omega) (by omega)
    have a1k := A1 k (by omega) (by omega)
    have a2k := A2 k (by omega) (by omega)
    simp only [Int.lt_irrefl, if_false] at a1k a2k
    have fb := hF k (by omega) (by omega)
    have kc : (iN (k : Int)).toNatClampNeg = (k : Int).toNat := iN_cl (by omega) (by omega)
    have st : ∀ (X Y : Int → Int) (c : Int), up (fun c => if c < k then X c else Y c) k (X k) c = if c < ((k + 1 : Nat) : Int) then X c else Y c := fun X Y c => by
      unfold up
      by_cases hc2 : c = k
      · rw [if_pos hc2, if_pos (by omega), hc2]
      · rw [if_neg hc2]
        dsimp only
        by_cases hc : c < k
        · rw [if_pos hc, if_pos (by omega)]
        · rw [if_neg hc, if_neg (by omega)]
    have fa : FZ (pA (M + 12)) h (putI h (M + 12) (k : Int).toNat (iN (F k + G k))) := FZ.pa
    have r1 := r.a fa (by omega)
    have fb2 : FZ (pA (M + 13)) (putI h (M + 12) (k : Int).toNat (iN (F k + G k))) (putI (putI h (M + 12) (k : Int).toNat (iN (F k + G k))) (M + 13) (k : Int).toNat (iN (max (H k) (F k + G k)))) := FZ.pa
    have r2 := r1.a fb2 (by omega)
    obtain ⟨h2, e2, q2⟩ := ih (k + 1) _ n (by omega) (by omega) r2 ((f0.tr (fa.mo (fun x j z => hP x j (Or.inl z)))).tr (fb2.mo (fun x j z => hP x j (Or.inr z)))) ((B.ne (by omega)).ne (by omega)) (((A1.put (k := k) (v := F k + G k) (by omega)).ne (by omega)).cg (fun c z1 z2 => st (fun c => F c + G c) F c)) (((A2.ne (a := M + 12) (by omega)).put (k := k) (v := max (H k) (F k + G k)) (by omega)).cg (fun c z1 z2 => st (fun c => max (H c) (F c + G c)) H c))
    refine ⟨h2, ?_, q2⟩
    show f_X9_spreads_B110 (f_X9_spreads_L110 n) h M (iN i) S (iN hg) (iN k) = _
    unfold f_X9_spreads_B110
    rw [chk_pos r.1.1, r.1.r1, chk_pos r.1.o1, r.1.w1, ck_in (by omega) (by omega) (by omega), g_rd r (by omega) (by omega), if_neg (nleN (by omega) (by omega) (by omega)), r.1.r21, chk_pos r.1.o21, r.1.w21, ck_in (by omega) (by omega) (by omega), r.1.r25, chk_pos r.1.o25, r.1.w25, ck_in (by omega) (by omega) (by omega), kc, a1k, bk, iN_add, lt_is, r1.1.r22, chk_pos r1.1.o22, r1.1.w22, ck_in (by omega) (by omega) (by omega), r1.1.r21, chk_pos r1.1.o21, r1.1.w21, ck_in (by omega) (by omega) (by omega), rd_eq, rd_ne (by omega), a2k, g_greater ⟨by omega, by omega⟩ ⟨by omega, by omega⟩, bnd_ret, chk_pos r1.1.o22, r1.1.w22, ck_in (by omega) (by omega) (by omega), lt_is, iN_add]
    exact e2
