/-! ===== STAGE B: the reference's spreads and measuresColumns whole ===== -/
theorem g_sp168 {h : Hp} {M : Nat} {m F : Int → Int} {S : Int32} (w : WF m) {i : Int} (hi : 0 ≤ i ∧ i < m 5) (r : RM h M m) (A : AR h (M + 13) (m 0) F) (hF : ∀ c, 0 ≤ c → c < m 0 → 0 ≤ F c ∧ F c ≤ 200000) (mS : Msk S (shM m i)) (hs : 0 < mxC m i - wC m i F → SW (mxC m i - wC m i F) (wtM m i F) (m 0)) :
    ∃ h2, f_X9_spreads_L168 h M (iN i) S (iN (mxC m i - m 2 * (blk m i 2 - 1))) = some (h2, .inr ()) ∧ FZ (fun x _ => x = M + 13 ∨ x = M + 15 ∨ x = M + 16) h h2 ∧ AR h2 (M + 13) (m 0) (if 0 < mxC m i - wC m i F then fun c => F c + shF (mxC m i - wC m i F) (wtM m i F) (m 0) c else F) := by
  have hm := w.1.2.2.2.2.2
  have h0 := w.1.1
  have co := (w.2.2.1 i hi.1 hi.2).1
  unfold CO at co
  have hi2 : 0 ≤ i ∧ i < 16 := by omega
  obtain ⟨h2, e2, f2, a2⟩ := g_sp176 (B := 0) w hi r A hF mS hs (blk m i 2).toNat 0 2000 (by omega) (by omega)
  refine ⟨h2, ?_, f2, a2⟩
  rw [sumF, Int.sub_zero, show blk m i 1 + ((0 : Nat) : Int) = blk m i 1 by omega] at e2
  unfold f_X9_spreads_L168
  rw [chk_pos r.1.1, g_ofA r hi2 (by omega), bnd_ret]
  exact e2
theorem g_sp59 {h : Hp} {M : Nat} {m : Int → Int} {S : Int32} (w : WF m) {i B : Int} (hi : 0 ≤ i ∧ i < m 5) (r : RM h M m) {p : P2} (jb : JB m B p) (hB : B ≤ 190000) (A1 : AR h (M + 12) (m 0) p.1) (A2 : AR h (M + 13) (m 0) p.2) (mS : Msk S (shM m i)) : ∀ (d k : Nat) (n : Nat), (k : Int) + d = blk m i 2 → d < n →
    ∃ h2, f_X9_spreads_L59 n h M (iN i) S (iN (mnC m i - m 2 * (blk m i 2 - 1) - sumF p.1 (blk m i 1) k)) (iN (mxC m i - m 2 * (blk m i 2 - 1))) (iN (blk m i 1 + k)) = some (h2, .inr ()) ∧ FZ (pV M) h h2 ∧ AR h2 (M + 12) (m 0) (stLo m i p.1 p.2) ∧ AR h2 (M + 13) (m 0) (stHi m i p.1 p.2) := by
  have hm := w.1.2.2.2.2.2
  have h0 := w.1.1
  have co := (w.2.2.1 i hi.1 hi.2).1
  unfold CO at co
  have hi2 : 0 ≤ i ∧ i < 16 := by omega
  have mb := mC_bd w hi
  have b1 := stLo_bd w hi jb hB
  have b2 := stMi_bd w hi jb hB
  have wn := wC_nn w hi (W := p.1) (fun c z1 z2 => by have := jb c z1 z2; omega)
  have wl := wC_le w (B := 190000) hi (W := p.1) (fun c z1 z2 => by have := jb c z1 z2; omega) (by omega)
  have fin : ∀ h3, RM h3 M m → FZ (pV M) h h3 → AR h3 (M + 12) (m 0) (stLo m i p.1 p.2) → AR h3 (M + 13) (m 0) (stMi m i p.1 p.2) → ∃ h2, f_X9_spreads_L168 h3 M (iN i) S (iN (mxC m i - m 2 * (blk m i 2 - 1))) = some (h2, .inr ()) ∧ FZ (pV M) h h2 ∧ AR h2 (M + 12) (m 0) (stLo m i p.1 p.2) ∧ AR h2 (M + 13) (m 0) (stHi m i p.1 p.2) := by
    intro h3 r3 f3 B1 B2
    obtain ⟨h2, e2, f2, a2⟩ := g_sp168 w hi r3 B2 (fun c z1 z2 => by have := b2 c z1 z2; omega) mS (SW_hi w hi jb hB)
    exact ⟨h2, e2, f3.tr (f2.mo (fun x j z => Or.inr (by omega))), B1.fz f2 (fun j z => by omega), a2⟩
  intro d
  induction d with
  | zero =>
    intro k n hk hn
    obtain ⟨n, rfl⟩ : ∃ z, n = z + 1 := ⟨n - 1, by omega⟩
    have ev : mnC m i - m 2 * (blk m i 2 - 1) - sumF p.1 (blk m i 1) k = mnC m i - wC m i p.1 := by
      unfold wC; rw [show (blk m i 2).toNat = k by omega]; omega
    rw [ev]
    show ∃ h2, f_X9_spreads_B59 (f_X9_spreads_L59 n) h M (iN i) S _ _ _ = _ ∧ _
    unfold f_X9_spreads_B59
    rw [chk_pos r.1.1, g_ofA r hi2 (by omega), bnd_ret, chk_pos r.1.1, g_ofA r hi2 (by omega), bnd_ret, iN_add, if_pos (yleN (by omega) (by omega) (by omega))]
    by_cases hh : 0 < mnC m i - wC m i p.1
    · have eLo : stLo m i p.1 p.2 = fun c => p.1 c + shF (mnC m i - wC m i p.1) (wtM m i p.2) (m 0) c := by unfold stLo; rw [if_pos hh]
      obtain ⟨h3, e3, f3, a3⟩ := g_weighsByMost (K := m 0) (by omega) r.1 A2
      have r3 := r.a f3 (by omega)
      obtain ⟨h4, e4, f4, a4⟩ := g_shares w (SW_lo w hi jb hB hh) (mS.w (by omega)) r3 a3
      have r4 := r3.a f4 (by omega)
      have A14 : AR h4 (M + 12) (m 0) p.1 := (A1.fz f3 (fun j z => by unfold pA at z; omega)).fz f4 (fun j z => by unfold pA at z; omega)
      have A24 : AR h4 (M + 13) (m 0) p.2 := (A2.fz f3 (fun j z => by unfold pA at z; omega)).fz f4 (fun j z => by unfold pA at z; omega)
      have f34 : FZ (pV M) h h4 := (f3.v (by omega) (by omega)).tr (f4.v (by omega) (by omega))
      rw [if_neg (fun z => by have := (iN_le0 (by omega) (by omega)).mp z; omega), chk_pos r.1.1, e3, bnd_ret, chk_pos r3.1.1, e4, bnd_ret]
      refine g_sp110 w (F := p.1) (H := p.2) (G := shF (mnC m i - wC m i p.1) (wtM m i p.2) (m 0)) (P := pV M) (h00 := h) (fun c z1 z2 => ?_) (fun x j z => Or.inr (by omega)) (fun h5 r5 f5 B1 B2 => ?_) (m 0).toNat 0 h4 2000 (by omega) (by omega) r4 f34 a4 (A14.cg (fun c z1 z2 => by rw [if_neg (by omega)])) (A24.cg (fun c z1 z2 => by rw [if_neg (by omega)]))
      · have := b1 c z1 z2
        have := jb c z1 z2
        rw [eLo] at b1
        have := b1 c z1 z2
        dsimp only at this
        omega
      · refine fin h5 r5 f5 (by rw [eLo]; exact B1) (B2.cg (fun c z1 z2 => ?_))
        unfold stMi
        rw [eLo]
    · have eLo : stLo m i p.1 p.2 = p.1 := by unfold stLo; rw [if_neg hh]
      rw [if_pos ((iN_le0 (by omega) (by omega)).mpr (by omega))]
      refine fin h r FZ.rf (by rw [eLo]; exact A1) (A2.cg (fun c z1 z2 => ?_))
      unfold stMi
      rw [eLo]
      have := jb c z1 z2
      omega
  | succ d ih =>
    intro k n hk hn
    obtain ⟨n, rfl⟩ : ∃ z, n = z + 1 := ⟨n - 1, by omega⟩
    obtain ⟨h2, e2, f2, a2⟩ := ih (k + 1) n (by omega) (by omega)
    refine ⟨h2, ?_, f2, a2⟩
    rw [sumF, ← Int.sub_sub] at e2
    show f_X9_spreads_B59 (f_X9_spreads_L59 n) h M (iN i) S _ _ _ = _
    unfold f_X9_spreads_B59
    rw [chk_pos r.1.1, g_ofA r hi2 (by omega), bnd_ret, chk_pos r.1.1, g_ofA r hi2 (by omega), bnd_ret, iN_add, if_neg (nleN (by omega) (by omega) (by omega)), chk_pos r.1.1, r.1.r21, chk_pos r.1.o21, r.1.w21, ck_in (by omega) (by omega) (by omega), iN_cl (by omega) (by omega), A1 (blk m i 1 + k) (by omega) (by omega), iN_sub, iN_add, show blk m i 1 + (k : Int) + 1 = blk m i 1 + ((k + 1 : Nat) : Int) by omega]
    exact e2
theorem g_spreads {h : Hp} {M : Nat} {m : Int → Int} (w : WF m) {i B : Int} (hi : 0 ≤ i ∧ i < m 5) (r : RM h M m) {p : P2} (jb : JB m B p) (hB : B ≤ 190000) (A1 : AR h (M + 12) (m 0) p.1) (A2 : AR h (M + 13) (m 0) p.2) :
    ∃ h2, f_X9_spreads h M (iN i) = some (h2, .inr ()) ∧ FZ (pV M) h h2 ∧ AR h2 (M + 12) (m 0) (stp m i p).1 ∧ AR h2 (M + 13) (m 0) (stp m i p).2 := by
  have hm := w.1.2.2.2.2.2
  have h0 := w.1.1
  have co := (w.2.2.1 i hi.1 hi.2).1
  have wb := (w.2.2.1 i hi.1 hi.2).2
  unfold CO at co
  have hi2 : 0 ≤ i ∧ i < 16 := by omega
  obtain ⟨R, eR, mR⟩ := g_sharing w hi r
  obtain ⟨h3, e3, f3⟩ := g_leastOf r hi2 wb
  have r3 := r.b f3
  obtain ⟨h4, e4, f4⟩ := g_mostOf r3 hi2 wb
  have r4 := r3.b f4
  have f34 : FZ (pB M) h h4 := f3.tr f4
  obtain ⟨h2, e2, f2, a2, b2⟩ := g_sp59 w hi r4 jb hB (A1.fz f34 (fun j z => by unfold pB at z; omega)) (A2.fz f34 (fun j z => by unfold pB at z; omega)) mR (blk m i 2).toNat 0 2000 (by omega) (by omega)
  refine ⟨h2, ?_, f34.bv.tr f2, a2, b2⟩
  rw [sumF, Int.sub_zero, show blk m i 1 + ((0 : Nat) : Int) = blk m i 1 by omega] at e2
  unfold f_X9_spreads
  rw [chk_pos r.1.1, eR, bnd_ret, chk_pos r.1.1, e3, bnd_ret, chk_pos r3.1.1, r3.1.r1, chk_pos r3.1.o1, r3.1.w1, ck_in (by omega) (by omega) (by omega), g_ofA r3 hi2 (by omega), bnd_ret, chk_pos r3.1.1, e4, bnd_ret, chk_pos r4.1.1, r4.1.r1, chk_pos r4.1.o1, r4.1.w1, ck_in (by omega) (by omega) (by omega), g_ofA r4 hi2 (by omega), bnd_ret, chk_pos r4.1.1, g_ofA r4 hi2 (by omega), bnd_ret, g_rd r3 (by omega) (by omega), g_rd r4 (by omega) (by omega), iN_sub, iN_mul, iN_sub, iN_sub]
  exact e2
theorem g_mc251 {M : Nat} {m : Int → Int} (w : WF m) : ∀ (d k : Nat) (h : Hp) (n : Nat) (V : Int → Int), (k : Int) + d = m 0 → d < n → RM h M m → AR h (M + 14) (m 0) (fun c => if c < k then pcF m c else V c) →
    ∃ h2, f_X9_measuresColumns_L251 n h M (iN (pcL m k)) (iN k) = some (h2, .inr ()) ∧ FZ (pA (M + 14)) h h2 ∧ AR h2 (M + 14) (m 0) (pcF m) := by
  have h0 := w.1.1
  intro d
  induction d with
  | zero =>
    intro k h n V hk hn r A
    obtain ⟨n, rfl⟩ : ∃ z, n = z + 1 := ⟨n - 1, by omega⟩
    refine ⟨h, ?_, FZ.rf, A.cg (fun c z1 z2 => by rw [if_pos (by omega)])⟩
    show f_X9_measuresColumns_B251 (f_X9_measuresColumns_L251 n) h M _ (iN k) = _
    unfold f_X9_measuresColumns_B251
    rw [chk_pos r.1.1, r.1.r1, chk_pos r.1.o1, r.1.w1, ck_in (by omega) (by omega) (by omega), g_rd r (by omega) (by omega), if_pos (yleN (by omega) (by omega) (by omega))]
  | succ d ih =>
    intro k h n V hk hn r A
    obtain ⟨n, rfl⟩ : ∃ z, n = z + 1 := ⟨n - 1, by omega⟩
    have sp := (w.2.1 k (by omega) (by omega))
    have ty := sp.ty
    have sb := sp.bd
    have pb := pcL_bd w k (by omega)
    have nx : ∀ v, v = pcF m k → ∃ h2, f_X9_measuresColumns_L312 (f_X9_measuresColumns_L251 n) h M (iN (pcL m k)) (iN k) (iN v) (iN k) (M + 14) = some (h2, .inr ()) ∧ FZ (pA (M + 14)) h h2 ∧ AR h2 (M + 14) (m 0) (pcF m) := by
      intro v hv
      have fa : FZ (pA (M + 14)) h (putI h (M + 14) (k : Int).toNat (iN v)) := FZ.pa
      have r1 := r.a fa (by omega)
      obtain ⟨h2, e2, f2, a2⟩ := ih (k + 1) _ n V (by omega) (by omega) r1 ((A.put (k := k) (v := v) (by omega)).cg (fun c z1 z2 => by
        unfold up
        by_cases hc2 : c = k
        · rw [if_pos hc2, if_pos (by omega), hc2, hv]
        · rw [if_neg hc2]
          dsimp only
          by_cases hc : c < k
          · rw [if_pos hc, if_pos (by omega)]
          · rw [if_neg hc, if_neg (by omega)]))
      refine ⟨h2, ?_, fa.tr f2, a2⟩
      have ev : pcL m (k + 1) = pcL m k - v := by rw [hv, pcL]; unfold pcF; rw [Int.toNat_natCast]
      unfold f_X9_measuresColumns_L312
      rw [chk_pos r.1.o23, r.1.w23, ck_in (by omega) (by omega) (by omega), iN_cl (by omega) (by omega), lt_is, chk_pos r1.1.1, r1.1.r23, chk_pos r1.1.o23, r1.1.w23, ck_in (by omega) (by omega) (by omega), rd_eq, iN_sub, iN_add, ← ev]
      exact e2
    show ∃ h2, f_X9_measuresColumns_B251 (f_X9_measuresColumns_L251 n) h M _ (iN k) = _ ∧ _
    unfold f_X9_measuresColumns_B251
    rw [chk_pos r.1.1, r.1.r1, chk_pos r.1.o1, r.1.w1, ck_in (by omega) (by omega) (by omega), g_rd r (by omega) (by omega), if_neg (nleN (by omega) (by omega) (by omega)), r.1.r23, chk_pos r.1.o23, g_isShared9 r w (by omega), bnd_ret]
    by_cases h1 : tyS (m (6 + k)) = 2
    · rw [if_neg (fun z => bN0.mp z h1), chk_pos r.1.1, r.1.r1, chk_pos r.1.o1, r.1.w1, iN_add, ck_in (by omega) (by omega) (by omega), g_rd r (by omega) (by omega), iN_sub]
      have ev : pcF m k = min (m (6 + k) - 200) (pcL m k) := by unfold pcF; rw [if_pos h1, Int.toNat_natCast, ty.2.2.2.2.2.2.1 h1]
      by_cases hl : pcL m k ≤ m (6 + k) - 200
      · rw [if_pos (yleN (by omega) (by omega) (by omega))]
        exact nx _ (by rw [ev]; omega)
      · rw [if_neg (nleN (by omega) (by omega) (by omega))]
        exact nx _ (by rw [ev]; omega)
    · rw [if_pos (bN0.mpr h1)]
      exact nx 0 (by unfold pcF; rw [if_neg h1])
theorem g_mc209 {M : Nat} {m : Int → Int} (w : WF m) {K : Hp → Nat → Int32 → Option (Rs Unit)} {s B : Int} (hs : 2 ≤ s ∧ s ≤ 4) {p : P2} (jb : JB m B p) (hB : B ≤ 150000) : ∀ (d k : Nat) (h : Hp) (n : Nat), (k : Int) + d = m 5 → d < n → RM h M m → AR h (M + 12) (m 0) (mF m s p k).1 → AR h (M + 13) (m 0) (mF m s p k).2 →
    ∃ h2, f_X9_measuresColumns_L209 K n h M (iN s) (iN k) = K h2 M (iN (s + 1)) ∧ FZ (pV M) h h2 ∧ AR h2 (M + 12) (m 0) (mF m s p (m 5).toNat).1 ∧ AR h2 (M + 13) (m 0) (mF m s p (m 5).toNat).2 := by
  have hm := w.1.2.2.2.2.2
  intro d
  induction d with
  | zero =>
    intro k h n hk hn r A1 A2
    obtain ⟨n, rfl⟩ : ∃ z, n = z + 1 := ⟨n - 1, by omega⟩
    have ek : (m 5).toNat = k := by omega
    refine ⟨h, ?_, FZ.rf, by rw [ek]; exact A1, by rw [ek]; exact A2⟩
    show f_X9_measuresColumns_B209 K (f_X9_measuresColumns_L209 K n) h M (iN s) (iN k) = _
    unfold f_X9_measuresColumns_B209
    rw [chk_pos r.1.1, r.1.r1, chk_pos r.1.o1, r.1.w1, ck_in (by omega) (by omega) (by omega), g_rd r (by omega) (by omega), if_pos (yleN (by omega) (by omega) (by omega)), iN_add]
  | succ d ih =>
    intro k h n hk hn r A1 A2
    obtain ⟨n, rfl⟩ : ∃ z, n = z + 1 := ⟨n - 1, by omega⟩
    have hki : 0 ≤ (k : Int) ∧ (k : Int) < m 5 := by omega
    have h0 := w.1.1
    have co := (w.2.2.1 k hki.1 hki.2).1
    unfold CO at co
    show ∃ h2, f_X9_measuresColumns_B209 K (f_X9_measuresColumns_L209 K n) h M (iN s) (iN k) = _ ∧ _
    unfold f_X9_measuresColumns_B209 f_X9_measuresColumns_L234
    rw [chk_pos r.1.1, r.1.r1, chk_pos r.1.o1, r.1.w1, ck_in (by omega) (by omega) (by omega), g_rd r (by omega) (by omega), if_neg (nleN (by omega) (by omega) (by omega)), g_ofA r (by omega) (by omega), bnd_ret]
    by_cases h1 : blk m k 2 = s
    · have eF : mF m s p (k + 1) = stp m k (mF m s p k) := by rw [mF, if_pos h1]
      obtain ⟨h3, e3, f3, a3, b3⟩ := g_spreads w hki r (mF_bd w (s := s) jb hB k (by omega)) (by omega) A1 A2
      obtain ⟨h2, e2, f2, a2, b2⟩ := ih (k + 1) h3 n (by omega) (by omega) (r.v f3) (by rw [eF]; exact a3) (by rw [eF]; exact b3)
      refine ⟨h2, ?_, f3.tr f2, a2, b2⟩
      rw [if_pos (by rw [h1]), chk_pos r.1.1, e3, bnd_ret, iN_add]
      exact e2
    · obtain ⟨h2, e2, f2, a2, b2⟩ := ih (k + 1) h n (by omega) (by omega) r (by rw [mF, if_neg h1]; exact A1) (by rw [mF, if_neg h1]; exact A2)
      refine ⟨h2, ?_, f2, a2, b2⟩
      rw [if_neg (neN h1 (by omega) (by omega) (by omega) (by omega)), iN_add]
      exact e2
theorem g_mc197 {M : Nat} {m : Int → Int} (w : WF m) : ∀ (d k : Nat) (h : Hp) (n : Nat), (k : Int) + d + 1 = m 0 → d < n → RM h M m → AR h (M + 12) (m 0) (mG m k).1 → AR h (M + 13) (m 0) (mG m k).2 →
    ∃ h2, f_X9_measuresColumns_L197 n h M (iN (k + 2 : Nat)) = some (h2, .inr ()) ∧ FZ (pV M) h h2 ∧ AR h2 (M + 12) (m 0) (msW m).1 ∧ AR h2 (M + 13) (m 0) (msW m).2 ∧ AR h2 (M + 14) (m 0) (pcF m) := by
  have hm := w.1.2.2.2.2.2
  have h0 := w.1.1
  intro d
  induction d with
  | zero =>
    intro k h n hk hn r A1 A2
    obtain ⟨n, rfl⟩ : ∃ z, n = z + 1 := ⟨n - 1, by omega⟩
    have ek : mG m k = msW m := by unfold msW; rw [show (m 0 - 1).toNat = k by omega]
    rw [ek] at A1 A2
    obtain ⟨V, A3⟩ := AR.any h (M + 14) (m 0)
    obtain ⟨h2, e2, f2, a2⟩ := g_mc251 w (m 0).toNat 0 h 2000 V (by omega) (by omega) r (A3.cg (fun c z1 z2 => by rw [if_neg (by omega)]))
    refine ⟨h2, ?_, f2.v (by omega) (by omega), A1.fz f2 (fun j z => by unfold pA at z; omega), A2.fz f2 (fun j z => by unfold pA at z; omega), a2⟩
    show f_X9_measuresColumns_B197 (f_X9_measuresColumns_L197 n) h M (iN (k + 2 : Nat)) = _
    unfold f_X9_measuresColumns_B197
    rw [chk_pos r.1.1, r.1.r1, chk_pos r.1.o1, r.1.w1, ck_in (by omega) (by omega) (by omega), g_rd r (by omega) (by omega), if_pos (yltN (by omega) (by omega) (by omega))]
    exact e2
  | succ d ih =>
    intro k h n hk hn r A1 A2
    obtain ⟨n, rfl⟩ : ∃ z, n = z + 1 := ⟨n - 1, by omega⟩
    obtain ⟨h3, e3, f3, a3, b3⟩ := g_mc209 (K := f_X9_measuresColumns_L197 n) w (s := (k : Int) + 2) (B := 1902 + 33600 * k) (p := mG m k) (by omega) (mG_bd w k (by omega)) (by omega) (m 5).toNat 0 h 2000 (by omega) (by omega) r A1 A2
    rw [show ((0 : Nat) : Int) = 0 from rfl] at e3
    obtain ⟨h2, e2, f2, k2⟩ := ih (k + 1) h3 n (by omega) (by omega) (r.v f3) a3 b3
    refine ⟨h2, ?_, f3.tr f2, k2⟩
    show f_X9_measuresColumns_B197 (f_X9_measuresColumns_L197 n) h M (iN (k + 2 : Nat)) = _
    unfold f_X9_measuresColumns_B197
    rw [chk_pos r.1.1, r.1.r1, chk_pos r.1.o1, r.1.w1, ck_in (by omega) (by omega) (by omega), g_rd r (by omega) (by omega), if_neg (nltN (by omega) (by omega) (by omega))]
    exact e3.trans e2
