/-! ===== STAGE B: the reference shares ===== -/
def pV (M x j : Nat) : Prop := pB M x j ∨ (M + 12 ≤ x ∧ x ≤ M + 18)
theorem RM.fz {P : Nat → Nat → Prop} {h h2 : Hp} {M : Nat} {m : Int → Int} (r : RM h M m) (F : FZ P h h2) (hp : ∀ j, ¬ P (M + 1) j) : RM h2 M m := ⟨r.1.ly F.1, r.2.fz F hp⟩
theorem RM.a {h h2 : Hp} {M a : Nat} {m : Int → Int} (r : RM h M m) (F : FZ (pA a) h h2) (ha : a ≠ M + 1) : RM h2 M m := r.fz F (fun j z => ha (by unfold pA at z; exact z.symm))
theorem RM.v {h h2 : Hp} {M : Nat} {m : Int → Int} (r : RM h M m) (F : FZ (pV M) h h2) : RM h2 M m := r.fz F (fun j z => by unfold pV pB at z; omega)
theorem FZ.v {M a : Nat} {h h2 : Hp} (f : FZ (pA a) h h2) (h1 : M + 12 ≤ a) (h3 : a ≤ M + 18) : FZ (pV M) h h2 := f.mo (fun x j z => by unfold pA at z; exact Or.inr (by omega))
theorem FZ.bv {M : Nat} {h h2 : Hp} (f : FZ (pB M) h h2) : FZ (pV M) h h2 := f.mo (fun x j z => Or.inl z)
def bt (S : Int32) (c : Int) : Prop := ((S >>> (iN c &&& 31)) &&& iN 1) = iN 1
def wms (S : Int32) (wt wm : Int → Int) (K : Int) : Prop := ∀ c, 0 ≤ c → c < K → (bt S c ∧ wm c = wt c) ∨ (¬ bt S c ∧ wm c = 0)
theorem g_sh126 {M : Nat} {m wt wm : Int → Int} {a : Int} {S : Int32} (w : WF m) (s : SW a wm (m 0)) (hS : wms S wt wm (m 0)) : ∀ (d k : Nat) (h : Hp) (n : Nat), (k : Int) + d = m 0 → d < n → RM h M m → AR h (M + 15) (m 0) wt → AR h (M + 16) (m 0) (fun c => shP a wm (m 0) c + (if c < k then shX a wm (m 0) c else 0)) →
    ∃ h2, f_X9_shares_L126 n h M S (iN (shL a wm (m 0) k)) (iN k) = some (h2, .inr ()) ∧ FZ (pA (M + 16)) h h2 ∧ AR h2 (M + 16) (m 0) (shF a wm (m 0)) := by
  have h0 := w.1.1
  have i00 : iN 0 = 0 := rfl
  have i10 : ¬ iN 1 = 0 := by decide
  intro d
  induction d with
  | zero =>
    intro k h n hk hn r B A
    obtain ⟨n, rfl⟩ : ∃ z, n = z + 1 := ⟨n - 1, by omega⟩
    refine ⟨h, ?_, FZ.rf, A.cg (fun c z1 z2 => by unfold shF; rw [if_pos (by omega)])⟩
    show f_X9_shares_B126 (f_X9_shares_L126 n) h M S _ (iN k) = _
    unfold f_X9_shares_B126
    rw [chk_pos r.1.1, r.1.r1, chk_pos r.1.o1, r.1.w1, ck_in (by omega) (by omega) (by omega), g_rd r (by omega) (by omega), if_pos (yleN (by omega) (by omega) (by omega))]
  | succ d ih =>
    intro k h n hk hn r B A
    obtain ⟨n, rfl⟩ : ∃ z, n = z + 1 := ⟨n - 1, by omega⟩
    have lb := shL_bd s k
    have pb := shP_bd s (c := k) (by omega)
    have sa := s.1
    have wb := s.2.2 k (by omega) (by omega)
    have hk2 := hS k (by omega) (by omega)
    have bk := B k (by omega) (by omega)
    have ak := A k (by omega) (by omega)
    simp only [Int.lt_irrefl, if_false, Int.add_zero] at ak
    have kc : (iN (k : Int)).toNatClampNeg = (k : Int).toNat := iN_cl (by omega) (by omega)
    show ∃ h2, f_X9_shares_B126 (f_X9_shares_L126 n) h M S _ (iN k) = _ ∧ _
    unfold f_X9_shares_B126 f_X9_shares_L166 f_X9_shares_L167 f_X9_shares_L187 f_X9_shares_L201
    rw [chk_pos r.1.1, r.1.r1, chk_pos r.1.o1, r.1.w1, ck_in (by omega) (by omega) (by omega), g_rd r (by omega) (by omega), if_neg (nleN (by omega) (by omega) (by omega))]
    by_cases hl : shL a wm (m 0) k ≤ 0
    · refine ⟨h, by rw [if_pos ((iN_le0 (by omega) (by omega)).mpr hl)], FZ.rf, A.cg (fun c z1 z2 => ?_)⟩
      unfold shF
      by_cases hc : c < k
      · rw [if_pos hc]
      · rw [if_neg hc]
        have := shL_stay (a := a) (wt := wm) (K := m 0) hl (c.toNat - k)
        rw [show k + (c.toNat - k) = c.toNat by omega] at this
        unfold shX
        rw [if_neg (fun z => by omega)]
    · rw [if_neg (fun z => hl ((iN_le0 (by omega) (by omega)).mp z))]
      have nx : ∀ v : Int, v = shX a wm (m 0) k → ∃ h2, f_X9_shares_L126 n (putI h (M + 16) (k : Int).toNat (iN (shP a wm (m 0) k + v))) M S (iN (shL a wm (m 0) k - v)) (iN k + iN 1) = some (h2, .inr ()) ∧ FZ (pA (M + 16)) h h2 ∧ AR h2 (M + 16) (m 0) (shF a wm (m 0)) := by
        intro v hv
        have fa : FZ (pA (M + 16)) h (putI h (M + 16) (k : Int).toNat (iN (shP a wm (m 0) k + v))) := FZ.pa
        obtain ⟨h2, e2, f2, a2⟩ := ih (k + 1) _ n (by omega) (by omega) (r.a fa (by omega)) (B.ne (by omega)) ((A.put (k := k) (v := shP a wm (m 0) k + v) (by omega)).cg (fun c z1 z2 => by
          unfold up
          by_cases hc2 : c = k
          · rw [if_pos hc2, if_pos (by omega), hc2, hv]
          · rw [if_neg hc2]
            dsimp only
            by_cases hc : c < k
            · rw [if_pos hc, if_pos (by omega)]
            · rw [if_neg hc, if_neg (by omega)]))
        refine ⟨h2, ?_, fa.tr f2, a2⟩
        have e : shL a wm (m 0) (k + 1) = shL a wm (m 0) k - v := by
          rw [hv, shL]
          unfold shX
          rw [Int.toNat_natCast]
          split <;> omega
        rw [iN_add, ← e]
        exact e2
      have z0 : ∀ x, shX a wm (m 0) k = x → x = shX a wm (m 0) k := fun x hx => hx.symm
      rcases hk2 with ⟨b1, b2⟩ | ⟨b1, b2⟩
      · unfold bt at b1
        rw [if_pos b1, r.1.r24, chk_pos r.1.o24, r.1.w24, ck_in (by omega) (by omega) (by omega), kc, bk, ← b2]
        by_cases hw : wm k ≤ 0
        · have e : shX a wm (m 0) k = 0 := by unfold shX; rw [if_neg (fun z => by omega)]
          rw [if_pos ((iN_le0 (by omega) (by omega)).mpr hw), chk_pos r.1.1, r.1.r25, chk_pos r.1.o25, r.1.w25, ck_in (by omega) (by omega) (by omega), if_pos i00, chk_pos r.1.o25, ck_in (by omega) (by omega) (by omega), ak, lt_is, if_pos i00, iN_add, iN_sub]
          exact nx 0 e.symm
        · have e : shX a wm (m 0) k = 1 := by unfold shX; rw [Int.toNat_natCast, if_pos (by omega)]
          rw [if_neg (fun z => hw ((iN_le0 (by omega) (by omega)).mp z)), chk_pos r.1.1, r.1.r25, chk_pos r.1.o25, r.1.w25, ck_in (by omega) (by omega) (by omega), if_neg i10, chk_pos r.1.o25, ck_in (by omega) (by omega) (by omega), ak, lt_is, if_neg i10, iN_add, iN_sub]
          exact nx 1 e.symm
      · unfold bt at b1
        have e : shX a wm (m 0) k = 0 := by unfold shX; rw [if_neg (fun z => by omega)]
        rw [if_neg b1, chk_pos r.1.1, r.1.r25, chk_pos r.1.o25, r.1.w25, ck_in (by omega) (by omega) (by omega), if_pos i00, chk_pos r.1.o25, ck_in (by omega) (by omega) (by omega), kc, ak, lt_is, if_pos i00, iN_add, iN_sub]
        exact nx 0 e.symm
theorem g_sh52b {M : Nat} {m wt wm : Int → Int} {a tot : Int} {S : Int32} (w : WF m) (s : SW a wm (m 0)) (hS : wms S wt wm (m 0)) : ∀ (d k : Nat) (h : Hp) (n : Nat), k + d = 4 → m 0 ≤ k → d < n → RM h M m → AR h (M + 15) (m 0) wt → AR h (M + 16) (m 0) (shP a wm (m 0)) →
    ∃ h2, f_X9_shares_L52 n h M (iN a) S (iN tot) (iN (shL a wm (m 0) 0)) (iN k) = some (h2, .inr ()) ∧ FZ (pA (M + 16)) h h2 ∧ AR h2 (M + 16) (m 0) (shF a wm (m 0)) := by
  have h0 := w.1.1
  intro d
  induction d with
  | zero =>
    intro k h n hk hk2 hn r B A
    obtain ⟨n, rfl⟩ : ∃ z, n = z + 1 := ⟨n - 1, by omega⟩
    obtain ⟨h2, e2, f2, a2⟩ := g_sh126 w s hS (m 0).toNat 0 h 2000 (by omega) (by omega) r B (A.cg (fun c z1 z2 => by rw [if_neg (by omega)]; omega))
    refine ⟨h2, ?_, f2, a2⟩
    show f_X9_shares_B52 (f_X9_shares_L52 n) h M (iN a) S (iN tot) _ (iN k) = _
    unfold f_X9_shares_B52
    rw [if_pos (yleN (by omega) (by omega) (by omega))]
    exact e2
  | succ d ih =>
    intro k h n hk hk2 hn r B A
    obtain ⟨n, rfl⟩ : ∃ z, n = z + 1 := ⟨n - 1, by omega⟩
    have fa : FZ (pA (M + 16)) h (putI h (M + 16) (k : Int).toNat (iN 0)) := FZ.pa
    have r1 := r.a fa (by omega)
    obtain ⟨h2, e2, f2, a2⟩ := ih (k + 1) _ n (by omega) (by omega) (by omega) r1 (B.ne (by omega)) ((A.put (k := k) (v := 0) (by omega)).cg (fun c z1 z2 => up_ne (by omega)))
    refine ⟨h2, ?_, fa.tr f2, a2⟩
    show f_X9_shares_B52 (f_X9_shares_L52 n) h M (iN a) S (iN tot) _ (iN k) = _
    unfold f_X9_shares_B52 f_X9_shares_L103 f_X9_shares_L104
    rw [if_neg (nleN (by omega) (by omega) (by omega)), chk_pos r.1.1, r.1.r25, chk_pos r.1.o25, r.1.r1, chk_pos r.1.o1, r.1.w1, ck_in (by omega) (by omega) (by omega), g_rd r (by omega) (by omega), if_pos (yleN (by omega) (by omega) (by omega)), chk_pos r.1.o25, r.1.w25, ck_in (by omega) (by omega) (by omega), iN_cl (by omega) (by omega), lt_is, chk_pos r1.1.1, r1.1.r25, chk_pos r1.1.o25, r1.1.w25, ck_in (by omega) (by omega) (by omega), rd_eq, iN_sub, iN_add, Int.sub_zero]
    exact e2
theorem g_sh52a {M : Nat} {m wt wm : Int → Int} {a : Int} {S : Int32} (w : WF m) (s : SW a wm (m 0)) (hS : wms S wt wm (m 0)) : ∀ (d k : Nat) (h : Hp) (n : Nat) (V : Int → Int), (k : Int) + d = m 0 → d + 5 < n → RM h M m → AR h (M + 15) (m 0) wt → AR h (M + 16) (m 0) (fun c => if c < k then shP a wm (m 0) c else V c) →
    ∃ h2, f_X9_shares_L52 n h M (iN a) S (iN (shT wm (m 0))) (iN (a - sumF (shP a wm (m 0)) 0 k)) (iN k) = some (h2, .inr ()) ∧ FZ (pA (M + 16)) h h2 ∧ AR h2 (M + 16) (m 0) (shF a wm (m 0)) := by
  have h0 := w.1.1
  have tb := shT_bd s
  intro d
  induction d with
  | zero =>
    intro k h n V hk hn r B A
    have := g_sh52b (tot := shT wm (m 0)) w s hS (4 - k) k h n (by omega) (by omega) (by omega) r B (A.cg (fun c z1 z2 => by rw [if_pos (by omega)]))
    rw [shL, show (m 0).toNat = k by omega] at this
    exact this
  | succ d ih =>
    intro k h n V hk hn r B A
    obtain ⟨n, rfl⟩ : ∃ z, n = z + 1 := ⟨n - 1, by omega⟩
    have pb := shP_bd s (c := k) (by omega)
    have sa := s.1
    have wb := s.2.2 k (by omega) (by omega)
    have hk2 := hS k (by omega) (by omega)
    have bk := B k (by omega) (by omega)
    have kc : (iN (k : Int)).toNatClampNeg = (k : Int).toNat := iN_cl (by omega) (by omega)
    have fa : FZ (pA (M + 16)) h (putI h (M + 16) (k : Int).toNat (iN (shP a wm (m 0) k))) := FZ.pa
    have r1 := r.a fa (by omega)
    obtain ⟨h2, e2, f2, a2⟩ := ih (k + 1) _ n V (by omega) (by omega) r1 (B.ne (by omega)) ((A.put (k := k) (v := shP a wm (m 0) k) (by omega)).cg (fun c z1 z2 => by
      unfold up
      by_cases hc2 : c = k
      · rw [if_pos hc2, if_pos (by omega), hc2]
      · rw [if_neg hc2]
        dsimp only
        by_cases hc : c < k
        · rw [if_pos hc, if_pos (by omega)]
        · rw [if_neg hc, if_neg (by omega)]))
    refine ⟨h2, ?_, fa.tr f2, a2⟩
    rw [sumF, show (0 : Int) + (k : Int) = k by omega, ← Int.sub_sub] at e2
    have fin : ∀ v : Int, v = shP a wm (m 0) k → f_X9_shares_L104 (f_X9_shares_L52 n) h M (iN a) S (iN (shT wm (m 0))) (iN (a - sumF (shP a wm (m 0)) 0 k)) (iN k) (iN v) (iN k) (M + 16) = some (h2, .inr ()) := by
      intro v hv
      unfold f_X9_shares_L104
      rw [chk_pos r.1.o25, r.1.w25, ck_in (by omega) (by omega) (by omega), kc, lt_is, hv, chk_pos r1.1.1, r1.1.r25, chk_pos r1.1.o25, r1.1.w25, ck_in (by omega) (by omega) (by omega), rd_eq, iN_sub, iN_add]
      exact e2
    show f_X9_shares_B52 (f_X9_shares_L52 n) h M (iN a) S (iN (shT wm (m 0))) _ (iN k) = _
    unfold f_X9_shares_B52 f_X9_shares_L103
    rw [if_neg (nleN (by omega) (by omega) (by omega)), chk_pos r.1.1, r.1.r25, chk_pos r.1.o25, r.1.r1, chk_pos r.1.o1, r.1.w1, ck_in (by omega) (by omega) (by omega), g_rd r (by omega) (by omega), if_neg (nleN (by omega) (by omega) (by omega))]
    rcases hk2 with ⟨b1, b2⟩ | ⟨b1, b2⟩
    · unfold bt at b1
      rw [if_pos b1]
      by_cases ht : shT wm (m 0) ≤ 0
      · rw [if_pos ((iN_le0 (by omega) (by omega)).mpr ht)]
        exact fin 0 (by unfold shP; rw [if_neg (by omega)])
      · rw [if_neg (fun z => ht ((iN_le0 (by omega) (by omega)).mp z)), r.1.r24, chk_pos r.1.o24, r.1.w24, ck_in (by omega) (by omega) (by omega), chk_pos (fun z => by have := (iN_eq0 (by omega) (by omega)).mp z; omega), kc, bk, ← b2, dvP s (by omega) (by omega)]
        exact fin _ rfl
    · unfold bt at b1
      rw [if_neg b1]
      exact fin 0 (by unfold shP; rw [b2, Int.mul_zero, Int.zero_ediv]; split <;> rfl)
theorem g_sh5 {M : Nat} {m wt wm : Int → Int} {a : Int} {S : Int32} (w : WF m) (s : SW a wm (m 0)) (hS : wms S wt wm (m 0)) {h : Hp} (r : RM h M m) (B : AR h (M + 15) (m 0) wt) : ∀ (d k : Nat) (n : Nat), (k : Int) + d = m 0 → d < n →
    ∃ h2, f_X9_shares_L5 n h M (iN a) S (iN (sumF wm 0 k)) (iN k) = some (h2, .inr ()) ∧ FZ (pA (M + 16)) h h2 ∧ AR h2 (M + 16) (m 0) (shF a wm (m 0)) := by
  have h0 := w.1.1
  intro d
  induction d with
  | zero =>
    intro k n hk hn
    obtain ⟨n, rfl⟩ : ∃ z, n = z + 1 := ⟨n - 1, by omega⟩
    obtain ⟨V, A⟩ := AR.any h (M + 16) (m 0)
    obtain ⟨h2, e2, f2, a2⟩ := g_sh52a w s hS (m 0).toNat 0 h 2000 V (by omega) (by omega) r B (A.cg (fun c z1 z2 => by rw [if_neg (by omega)]))
    refine ⟨h2, ?_, f2, a2⟩
    show f_X9_shares_B5 (f_X9_shares_L5 n) h M (iN a) S _ (iN k) = _
    unfold f_X9_shares_B5
    rw [chk_pos r.1.1, r.1.r1, chk_pos r.1.o1, r.1.w1, ck_in (by omega) (by omega) (by omega), g_rd r (by omega) (by omega), if_pos (yleN (by omega) (by omega) (by omega))]
    rw [sumF, Int.sub_zero] at e2
    unfold shT at e2
    rw [show (m 0).toNat = k by omega] at e2
    exact e2
  | succ d ih =>
    intro k n hk hn
    obtain ⟨n, rfl⟩ : ∃ z, n = z + 1 := ⟨n - 1, by omega⟩
    have hk2 := hS k (by omega) (by omega)
    have bk := B k (by omega) (by omega)
    have kc : (iN (k : Int)).toNatClampNeg = (k : Int).toNat := iN_cl (by omega) (by omega)
    obtain ⟨h2, e2, f2, a2⟩ := ih (k + 1) n (by omega) (by omega)
    rw [sumF, show (0 : Int) + (k : Int) = k by omega] at e2
    refine ⟨h2, ?_, f2, a2⟩
    show f_X9_shares_B5 (f_X9_shares_L5 n) h M (iN a) S _ (iN k) = _
    unfold f_X9_shares_B5 f_X9_shares_L38
    rw [chk_pos r.1.1, r.1.r1, chk_pos r.1.o1, r.1.w1, ck_in (by omega) (by omega) (by omega), g_rd r (by omega) (by omega), if_neg (nleN (by omega) (by omega) (by omega))]
    rcases hk2 with ⟨b1, b2⟩ | ⟨b1, b2⟩
    · unfold bt at b1
      rw [if_pos b1, r.1.r24, chk_pos r.1.o24, r.1.w24, ck_in (by omega) (by omega) (by omega), kc, bk, ← b2, iN_add, iN_add]
      exact e2
    · unfold bt at b1
      rw [if_neg b1, iN_add, iN_add]
      rw [b2] at e2
      exact e2
theorem g_shares {h : Hp} {M : Nat} {m wt wm : Int → Int} {a : Int} {S : Int32} (w : WF m) (s : SW a wm (m 0)) (hS : wms S wt wm (m 0)) (r : RM h M m) (B : AR h (M + 15) (m 0) wt) :
    ∃ h2, f_X9_shares h M (iN a) S = some (h2, .inr ()) ∧ FZ (pA (M + 16)) h h2 ∧ AR h2 (M + 16) (m 0) (shF a wm (m 0)) := by
  have h0 := w.1.1
  exact g_sh5 w s hS r B (m 0).toNat 0 2000 (by omega) (by omega)
theorem g_wByMost {M : Nat} {hi : Int → Int} : ∀ (d k : Nat) (h : Hp) (n : Nat), k + d = 4 → d < n → LM h M → AR h (M + 13) 4 hi → AR h (M + 15) k hi →
    ∃ h2, f_X9_weighsByMost_L2 n h M (iN k) = some (h2, .inr ()) ∧ FZ (pA (M + 15)) h h2 ∧ AR h2 (M + 15) 4 hi := by
  intro d
  induction d with
  | zero =>
    intro k h n hk hn l A B
    obtain ⟨n, rfl⟩ : ∃ z, n = z + 1 := ⟨n - 1, by omega⟩
    refine ⟨h, ?_, FZ.rf, B.sh (by omega)⟩
    show f_X9_weighsByMost_B2 (f_X9_weighsByMost_L2 n) h M (iN k) = _
    unfold f_X9_weighsByMost_B2
    rw [if_pos (yleN (by omega) (by omega) (by omega))]
  | succ d ih =>
    intro k h n hk hn l A B
    obtain ⟨n, rfl⟩ : ∃ z, n = z + 1 := ⟨n - 1, by omega⟩
    have ak := A k (by omega) (by omega)
    have fa : FZ (pA (M + 15)) h (putI h (M + 15) (k : Int).toNat (iN (hi k))) := FZ.pa
    obtain ⟨h2, e2, f2, a2⟩ := ih (k + 1) _ n (by omega) (by omega) (l.ly fa.1) (A.ne (by omega)) (fun c z1 z2 => by
      by_cases hc : c = k
      · rw [hc, rd_eq]
      · rw [rd_nk (by omega)]; exact B c z1 (by omega))
    refine ⟨h2, ?_, fa.tr f2, a2⟩
    show f_X9_weighsByMost_B2 (f_X9_weighsByMost_L2 n) h M (iN k) = _
    unfold f_X9_weighsByMost_B2
    rw [if_neg (nleN (by omega) (by omega) (by omega)), chk_pos l.1, l.r24, chk_pos l.o24, l.r22, chk_pos l.o22, l.w22, ck_in (by omega) (by omega) (by omega), l.w24, ck_in (by omega) (by omega) (by omega), iN_cl (by omega) (by omega), ak, lt_is, iN_add]
    exact e2
theorem g_weighsByMost {h : Hp} {M : Nat} {hi : Int → Int} {K : Int} (hK : K ≤ 4) (l : LM h M) (A : AR h (M + 13) K hi) : ∃ h2, f_X9_weighsByMost h M = some (h2, .inr ()) ∧ FZ (pA (M + 15)) h h2 ∧ AR h2 (M + 15) K hi := by
  obtain ⟨V, A4⟩ := AR.any h (M + 13) 4
  obtain ⟨h2, e2, f2, a2⟩ := g_wByMost 4 0 h 2000 (by omega) (by omega) l A4 (fun c z1 z2 => by omega)
  refine ⟨h2, e2, f2, fun c z1 z2 => ?_⟩
  rw [a2 c z1 (by omega), ← A4 c z1 (by omega)]
  exact A c z1 z2
/-! the mask of who takes part -/
theorem mask_tab : ((List.range 16).all fun z => (List.range 4).all fun c => (List.range 16).any (fun y => decide ((iN z ||| (iN 1 <<< (iN c &&& 31))) = iN y)) && (List.range 4).all fun j => decide (((((iN z ||| (iN 1 <<< (iN c &&& 31))) >>> (iN j &&& 31)) &&& iN 1) = iN 1) ↔ ((((iN z) >>> (iN j &&& 31)) &&& iN 1) = iN 1 ∨ j = c))) = true := by decide +kernel
def Msk (S : Int32) (f : Int → Prop) : Prop := (∃ z : Nat, z < 16 ∧ S = iN z) ∧ ∀ c, 0 ≤ c → c < 4 → (bt S c ↔ f c)
theorem Msk.or {S : Int32} {f : Int → Prop} (a : Msk S f) {c : Int} (hc : 0 ≤ c ∧ c < 4) : Msk (S ||| (iN 1 <<< (iN c &&& 31))) (fun j => f j ∨ j = c) := by
  obtain ⟨⟨z, hz, rfl⟩, hf⟩ := a
  have t := List.all_eq_true.mp (List.all_eq_true.mp mask_tab z (List.mem_range.mpr hz)) c.toNat (List.mem_range.mpr (by omega))
  rw [Bool.and_eq_true] at t
  obtain ⟨t1, t2⟩ := t
  rw [Int.toNat_of_nonneg hc.1] at t1 t2
  obtain ⟨y, hy, ey⟩ := List.any_eq_true.mp t1
  refine ⟨⟨y, List.mem_range.mp hy, of_decide_eq_true ey⟩, fun j h1 h2 => ?_⟩
  have t3 := of_decide_eq_true (List.all_eq_true.mp t2 j.toNat (List.mem_range.mpr (by omega)))
  rw [Int.toNat_of_nonneg h1] at t3
  unfold bt
  rw [t3]
  have := hf j h1 h2
  unfold bt at this
  rw [this]
  constructor
  · intro z; exact z.imp id (fun q => by omega)
  · intro z; exact z.imp id (fun q => by omega)
theorem Msk.z : Msk (iN 0) (fun _ => False) := by
  refine ⟨⟨0, by decide, rfl⟩, fun c h1 h2 => ?_⟩
  have : c = 0 ∨ c = 1 ∨ c = 2 ∨ c = 3 := by omega
  unfold bt
  rcases this with rfl | rfl | rfl | rfl <;> decide
theorem Msk.f15 : Msk (iN 15) (fun _ => True) := by
  refine ⟨⟨15, by decide, rfl⟩, fun c h1 h2 => ?_⟩
  have : c = 0 ∨ c = 1 ∨ c = 2 ∨ c = 3 := by omega
  unfold bt
  rcases this with rfl | rfl | rfl | rfl <;> decide
theorem mask_0 : ((List.range 16).all fun z => decide (z = 0) || (List.range 4).any fun j => decide ((((iN z) >>> (iN j &&& 31)) &&& iN 1) = iN 1)) = true := by decide +kernel
theorem Msk.ne {S : Int32} {f : Int → Prop} (a : Msk S f) : S = 0 ↔ ∀ c, 0 ≤ c → c < 4 → ¬ f c := by
  constructor
  · intro e c h1 h2 hf
    have := (a.2 c h1 h2).mpr hf
    rw [e] at this
    have hc : c = 0 ∨ c = 1 ∨ c = 2 ∨ c = 3 := by omega
    unfold bt at this
    rcases hc with rfl | rfl | rfl | rfl <;> exact absurd this (by decide)
  · intro hn
    obtain ⟨⟨z, hz, rfl⟩, hf⟩ := a
    have t := List.all_eq_true.mp mask_0 z (List.mem_range.mpr hz)
    rw [Bool.or_eq_true] at t
    rcases t with t | t
    · rw [of_decide_eq_true t]; rfl
    · obtain ⟨j, hj, ej⟩ := List.any_eq_true.mp t
      have := List.mem_range.mp hj
      have e2 := of_decide_eq_true ej
      exact absurd ((hf j (by omega) (by omega)).mp e2) (hn j (by omega) (by omega))
