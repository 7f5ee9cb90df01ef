/-! ===== STAGE B: the reference's laysOut ===== -/
theorem kk_bd (m : Int → Int) : 0 ≤ kkF m ∧ kkF m ≤ 4 := by
  unfold kkF
  split
  · omega
  · split
    · omega
    · split
      · omega
      · split <;> omega
theorem wkF_SW {m : Int → Int} (w : WF m) (h : gsS m 0 ≤ usF m) : SW (usF m - gsS m (bsF m)) (wkF m) (m 0) := by
  have h0 := w.1.1
  have ub := us_bd w
  have b := au_eq w h (c := 0) (by omega)
  have gb := gsS_bd w (g := bsF m)
  refine ⟨by omega, h0, fun c z1 z2 => ?_⟩
  have kb := kk_bd m
  unfold wkF
  by_cases hk : kkF m < 4
  · rw [if_pos hk]
    have g1 := gsF_bd w (g := kkF m) (c := c) ⟨z1, z2⟩
    have g2 := gsF_bd w (g := bsF m) (c := c) ⟨z1, z2⟩
    have : gsF m (bsF m) c ≤ gsF m (kkF m) c := by
      have hb : bsF m = kkF m ∨ bsF m = kkF m - 1 := by unfold bsF; split <;> omega
      rcases hb with e | e
      · rw [e]; omega
      · have := gsF_up w (g := bsF m) (c := c) (by omega) ⟨z1, z2⟩
        rw [e, show kkF m - 1 + 1 = kkF m by omega] at this
        rw [e]; exact this
    omega
  · rw [if_neg hk]
    exact wRf_bd w (by omega) ⟨z1, z2⟩
theorem g_lo160 {M : Nat} {m F G V : Int → Int} (w : WF m) {g : Int} (hg : 0 ≤ g ∧ g < 4) (hF : F = gsF m g) : ∀ (d k : Nat) (h : Hp) (n : Nat), (k : Int) + d = m 0 → d < n → RM h M m → GR h M m (m 0) → AR h (M + 16) (m 0) G → AR h (M + 18) (m 0) (fun c => if c < k then F c + G c else V c) →
    ∃ h2, f_X9_laysOut_L160 n h M (iN g) (iN k) = some (h2, .inr (iN 1)) ∧ FZ (pA (M + 18)) h h2 ∧ AR h2 (M + 18) (m 0) (fun c => F c + G c) := by
  have h0 := w.1.1
  intro d
  induction d with
  | zero =>
    intro k h n hk hn r GG B A
    obtain ⟨n, rfl⟩ : ∃ z, n = z + 1 := ⟨n - 1, by omega⟩
    refine ⟨h, ?_, FZ.rf, A.cg (fun c z1 z2 => by rw [if_pos (by omega)])⟩
    show f_X9_laysOut_B160 (f_X9_laysOut_L160 n) h M (iN g) (iN k) = _
    unfold f_X9_laysOut_B160
    rw [chk_pos r.1.1, r.1.r1, chk_pos r.1.o1, r.1.w1, ck_in (by omega) (by omega) (by omega), g_rd r (by omega) (by omega), if_pos (yleN (by omega) (by omega) (by omega))]
  | succ d ih =>
    intro k h n hk hn r GG B A
    obtain ⟨n, rfl⟩ : ∃ z, n = z + 1 := ⟨n - 1, by omega⟩
    have bk := B k (by omega) (by omega)
    have gk : qI h (M + 17) (4 * g + (k : Int)).toNat = iN (F k) := by rw [hF]; exact GG g k hg.1 hg.2 (by omega) (by omega)
    have fa : FZ (pA (M + 18)) h (putI h (M + 18) (k : Int).toNat (iN (F k + G k))) := FZ.pa
    obtain ⟨h2, e2, f2, a2⟩ := ih (k + 1) _ n (by omega) (by omega) (r.a fa (by omega)) (GG.fz fa (fun j z => by unfold pA at z; omega)) (B.ne (by omega)) ((A.put (k := k) (v := F k + G k) (by omega)).cg (fun c z1 z2 => by
      unfold up
      by_cases hc2 : c = k
      · rw [if_pos hc2, if_pos (by omega), hc2]
      · rw [if_neg hc2]
        dsimp only
        by_cases hc : c < k
        · rw [if_pos hc, if_pos (by omega)]
        · rw [if_neg hc, if_neg (by omega)]))
    refine ⟨h2, ?_, fa.tr f2, a2⟩
    show f_X9_laysOut_B160 (f_X9_laysOut_L160 n) h M (iN g) (iN k) = _
    unfold f_X9_laysOut_B160
    rw [chk_pos r.1.1, r.1.r1, chk_pos r.1.o1, r.1.w1, ck_in (by omega) (by omega) (by omega), g_rd r (by omega) (by omega), if_neg (nleN (by omega) (by omega) (by omega)), r.1.r27, chk_pos r.1.o27, r.1.r26, chk_pos r.1.o26, iN_mul, iN_add, r.1.w26, ck_in (by omega) (by omega) (by omega), r.1.r25, chk_pos r.1.o25, r.1.w25, ck_in (by omega) (by omega) (by omega), r.1.w27, ck_in (by omega) (by omega) (by omega), iN_cl (z := (k : Int)) (by omega) (by omega), iN_cl (by omega) (by omega), gk, bk, iN_add, lt_is, iN_add]
    exact e2
theorem g_lo144 {M : Nat} {m wt : Int → Int} {S : Int32} (w : WF m) (hE : gsS m 0 ≤ usF m) (hS : wms S wt (wkF m) (m 0)) {h : Hp} (r : RM h M m) (v : VM h M m) (A : AR h (M + 15) (m 0) wt) : ∃ h2, f_X9_laysOut_L144 h M (iN (usF m)) (iN (bsF m)) S = some (h2, .inr (iN 1)) ∧ FZ (fun x _ => x = M + 16 ∨ x = M + 18) h h2 ∧ AR h2 (M + 18) (m 0) (auF m) := by
  have h0 := w.1.1
  have b0 := au_eq w hE (c := 0) (by omega)
  obtain ⟨h3, e3, f3, a3⟩ := g_shares w (wkF_SW w hE) hS r A
  have r3 := r.a f3 (by omega)
  have G3 := v.2.2.2.fz f3 (fun j z => by unfold pA at z; omega)
  obtain ⟨V, A18⟩ := AR.any h3 (M + 18) (m 0)
  obtain ⟨h2, e2, f2, a2⟩ := g_lo160 (V := V) w (g := bsF m) (by omega) rfl (m 0).toNat 0 h3 2000 (by omega) (by omega) r3 G3 a3 (A18.cg (fun c z1 z2 => by rw [if_neg (by omega)]))
  refine ⟨h2, ?_, (f3.mo (fun x j z => Or.inl z)).tr (f2.mo (fun x j z => Or.inr z)), a2.cg (fun c z1 z2 => (au_eq w hE ⟨z1, z2⟩).2.2.2)⟩
  unfold f_X9_laysOut_L144
  rw [chk_pos r.1.1, g_guessed w r v.2.2.2 (by omega), bnd_ret, chk_pos r.1.1, iN_sub, e3, bnd_ret]
  exact e2
theorem g_lo71 {M : Nat} {m V : Int → Int} (w : WF m) (hE : gsS m 0 ≤ usF m) : ∀ (d k : Nat) (h : Hp) (n : Nat), k + d = 4 → d < n → RM h M m → VM h M m → AR h (M + 15) (m 0) (fun c => if c < k then (if kkF m < 4 then gsF m (kkF m) c - gsF m (bsF m) c else 0) else V c) →
    ∃ h2, f_X9_laysOut_L71 n h M (iN (usF m)) (iN (kkF m)) (iN (bsF m)) (iN 15) (iN k) = some (h2, .inr (iN 1)) ∧ FZ (fun x _ => x = M + 15 ∨ x = M + 16 ∨ x = M + 18) h h2 ∧ AR h2 (M + 18) (m 0) (auF m) := by
  have h0 := w.1.1
  have kb := kk_bd m
  have b0 := au_eq w hE (c := 0) (by omega)
  intro d
  induction d with
  | zero =>
    intro k h n hk hn r v A
    obtain ⟨n, rfl⟩ : ∃ z, n = z + 1 := ⟨n - 1, by omega⟩
    show ∃ h2, f_X9_laysOut_B71 (f_X9_laysOut_L71 n) h M (iN (usF m)) (iN (kkF m)) (iN (bsF m)) (iN 15) (iN k) = _ ∧ _
    unfold f_X9_laysOut_B71
    rw [if_pos (yleN (by omega) (by omega) (by omega))]
    by_cases h4 : kkF m = 4
    · obtain ⟨h3, S, wt, e3, f3, a3, hS⟩ := g_weighsRest9 w r v
      have r3 := r.a f3 (by omega)
      obtain ⟨h2, e2, f2, a2⟩ := g_lo144 w hE (S := S) (wt := wt) (fun c z1 z2 => by
        have := hS c z1 z2
        unfold wkF
        rw [if_neg (by omega)]
        exact this) r3 (v.fz f3 (fun a j z z2 => by unfold pA at z2; omega)) a3
      refine ⟨h2, ?_, (f3.mo (fun x j z => Or.inl z)).tr (f2.mo (fun x j z => Or.inr z)), a2⟩
      rw [if_pos (by rw [h4]), chk_pos r.1.1, e3, bnd_ret]
      exact e2
    · obtain ⟨h2, e2, f2, a2⟩ := g_lo144 w hE (S := iN 15) (wt := wkF m) (fun c z1 z2 => Or.inl ⟨(Msk.f15.2 c z1 (by omega)).mpr trivial, rfl⟩) r v (A.cg (fun c z1 z2 => by
        unfold wkF
        rw [if_pos (by omega), if_pos (by omega), if_pos (by omega)]))
      refine ⟨h2, ?_, f2.mo (fun x j z => Or.inr z), a2⟩
      rw [if_neg (neN h4 (by omega) (by omega) (by omega) (by omega))]
      exact e2
  | succ d ih =>
    intro k h n hk hn r v A
    obtain ⟨n, rfl⟩ : ∃ z, n = z + 1 := ⟨n - 1, by omega⟩
    have nx : ∀ x, (k < m 0 → x = if kkF m < 4 then gsF m (kkF m) k - gsF m (bsF m) k else 0) → ∃ h2, f_X9_laysOut_L126 (f_X9_laysOut_L71 n) h M (iN (usF m)) (iN (kkF m)) (iN (bsF m)) (iN 15) (iN k) (iN x) (iN k) (M + 15) = some (h2, .inr (iN 1)) ∧ FZ (fun x _ => x = M + 15 ∨ x = M + 16 ∨ x = M + 18) h h2 ∧ AR h2 (M + 18) (m 0) (auF m) := by
      intro x hx
      have fa : FZ (pA (M + 15)) h (putI h (M + 15) (k : Int).toNat (iN x)) := FZ.pa
      obtain ⟨h2, e2, f2, a2⟩ := ih (k + 1) _ n (by omega) (by omega) (r.a fa (by omega)) (v.fz fa (fun a j z z2 => by unfold pA at z2; omega)) ((A.put (k := k) (v := x) (by omega)).cg (fun c z1 z2 => by
        unfold up
        by_cases hc2 : c = k
        · rw [if_pos hc2, if_pos (show c < ((k + 1 : Nat) : Int) by omega), hc2]
          exact hx (by omega)
        · rw [if_neg hc2]
          dsimp only
          by_cases hc : c < k
          · rw [if_pos hc, if_pos (show c < ((k + 1 : Nat) : Int) by omega)]
          · rw [if_neg hc, if_neg (show ¬ c < ((k + 1 : Nat) : Int) by omega)]))
      refine ⟨h2, ?_, (fa.mo (fun x j z => Or.inl z)).tr f2, a2⟩
      unfold f_X9_laysOut_L126
      rw [chk_pos r.1.o24, r.1.w24, ck_in (by omega) (by omega) (by omega), iN_cl (by omega) (by omega), lt_is, iN_add]
      exact e2
    show ∃ h2, f_X9_laysOut_B71 (f_X9_laysOut_L71 n) h M (iN (usF m)) (iN (kkF m)) (iN (bsF m)) (iN 15) (iN k) = _ ∧ _
    unfold f_X9_laysOut_B71 f_X9_laysOut_L125
    rw [if_neg (nleN (by omega) (by omega) (by omega)), chk_pos r.1.1, r.1.r24, chk_pos r.1.o24]
    by_cases h4 : kkF m < 4
    · rw [if_neg (nleN (by omega) (by omega) (by omega)), r.1.r1, chk_pos r.1.o1, r.1.w1, ck_in (by omega) (by omega) (by omega), g_rd r (by omega) (by omega)]
      by_cases hc : m 0 ≤ k
      · rw [if_pos (yleN (by omega) (by omega) (by omega))]
        exact nx 0 (fun z => by omega)
      · have g1 := v.2.2.2 (kkF m) k (by omega) (by omega) (by omega) (by omega)
        have g2 := v.2.2.2 (bsF m) k (by omega) (by omega) (by omega) (by omega)
        rw [if_neg (nleN (by omega) (by omega) (by omega)), r.1.r26, chk_pos r.1.o26, iN_mul, iN_add, r.1.w26, ck_in (by omega) (by omega) (by omega), iN_mul, iN_add, ck_in (by omega) (by omega) (by omega), iN_cl (z := 4 * kkF m + (k : Int)) (by omega) (by omega), iN_cl (z := 4 * bsF m + (k : Int)) (by omega) (by omega), g1, g2, iN_sub]
        exact nx _ (fun _ => by rw [if_pos h4])
    · rw [if_pos (yleN (by omega) (by omega) (by omega))]
      exact nx 0 (fun _ => by rw [if_neg h4])
theorem g_lo42 {M : Nat} {m : Int → Int} (w : WF m) (hE : gsS m 0 ≤ usF m) {h : Hp} (r : RM h M m) (v : VM h M m) : ∃ h2, f_X9_laysOut_L42 h M (iN (usF m)) (iN (kkF m)) = some (h2, .inr (iN 1)) ∧ FZ (fun x _ => x = M + 15 ∨ x = M + 16 ∨ x = M + 18) h h2 ∧ AR h2 (M + 18) (m 0) (auF m) := by
  have kb := kk_bd m
  have ub := us_bd w
  have gb := gsS_bd w (g := kkF m)
  obtain ⟨V, A⟩ := AR.any h (M + 15) (m 0)
  obtain ⟨h2, e2, f2, a2⟩ := g_lo71 (V := V) w hE 4 0 h 2000 (by omega) (by omega) r v (A.cg (fun c z1 z2 => by rw [if_neg (show ¬ c < ((0 : Nat) : Int) by omega)]))
  refine ⟨h2, ?_, f2, a2⟩
  unfold f_X9_laysOut_L42 f_X9_laysOut_L60 f_X9_laysOut_L63
  by_cases h4 : kkF m < 4
  · rw [if_neg (nleN (by omega) (by omega) (by omega)), chk_pos r.1.1, g_guessed w r v.2.2.2 (by omega), bnd_ret]
    by_cases he : gsS m (kkF m) = usF m
    · have hb : bsF m = kkF m := by unfold bsF; rw [if_pos ⟨h4, he⟩]
      rw [if_pos (by rw [he])]
      rw [hb] at e2
      exact e2
    · have hb : bsF m = kkF m - 1 := by unfold bsF; rw [if_neg (fun z => he z.2)]
      rw [if_neg (neN he (by omega) (by omega) (by omega) (by omega)), iN_sub]
      rw [hb] at e2
      exact e2
  · have hb : bsF m = kkF m - 1 := by unfold bsF; rw [if_neg (fun z => h4 z.1)]
    rw [if_pos (yleN (by omega) (by omega) (by omega)), iN_sub]
    rw [hb] at e2
    exact e2
theorem g_laysOut {h : Hp} {M : Nat} {m : Int → Int} (w : WF m) (r : RM h M m) : ∃ h2, f_X9_laysOut h M = some (h2, .inr (bN (gsS m 0 ≤ usF m))) ∧ FZ (pV M) h h2 ∧ (gsS m 0 ≤ usF m → AR h2 (M + 18) (m 0) (auF m)) := by
  have ub := us_bd w
  obtain ⟨h3, e3, f3, v3⟩ := g_guessesAll w r
  have r3 := r.v f3
  have us9 : f_X9_usable h3 M = some (h3, .inr (iN (usF m))) := g_usable9 r3
  have gb := fun g => gsS_bd w (g := g)
  unfold f_X9_laysOut bN
  rw [chk_pos r.1.1, e3, bnd_ret, chk_pos r3.1.1, us9, bnd_ret, chk_pos r3.1.1, g_guessed w r3 v3.2.2.2 (by omega), bnd_ret]
  by_cases hE : gsS m 0 ≤ usF m
  · rw [if_pos (yleN hE (by have := gb 0; omega) (by omega)), if_pos hE]
    obtain ⟨h2, e2, f2, a2⟩ := g_lo42 w hE r3 v3
    refine ⟨h2, ?_, f3.tr (f2.mo (fun x j z => Or.inr (by omega))), fun _ => a2⟩
    have st : ∀ (n k : Nat), k < 4 → f_X9_laysOut_L22 (n + 1) h3 M (iN (usF m)) (iN k) = if usF m ≤ gsS m k then f_X9_laysOut_L42 h3 M (iN (usF m)) (iN k) else f_X9_laysOut_L22 n h3 M (iN (usF m)) (iN (k + 1 : Nat)) := by
      intro n k hk
      have g1 := gb k
      show f_X9_laysOut_B22 (f_X9_laysOut_L22 n) h3 M (iN (usF m)) (iN k) = _
      unfold f_X9_laysOut_B22
      rw [if_neg (nleN (by omega) (by omega) (by omega)), chk_pos r3.1.1, g_guessed w r3 v3.2.2.2 (by omega), bnd_ret]
      by_cases hh : usF m ≤ gsS m k
      · rw [if_pos (yleN (by omega) (by omega) (by omega)), if_pos hh]
      · rw [if_neg (nleN (by omega) (by omega) (by omega)), if_neg hh, iN_add]; rfl
    have s4 : f_X9_laysOut_L22 1996 h3 M (iN (usF m)) (iN ((3 + 1 : Nat) : Int)) = f_X9_laysOut_L42 h3 M (iN (usF m)) (iN 4) := by
      show f_X9_laysOut_B22 (f_X9_laysOut_L22 1995) h3 M (iN (usF m)) (iN 4) = _
      unfold f_X9_laysOut_B22
      rw [if_pos (by decide)]
    have e0 := st 1999 0 (by omega)
    have e1 := st 1998 1 (by omega)
    have e2' := st 1997 2 (by omega)
    have e3' := st 1996 3 (by omega)
    rw [s4] at e3'
    refine Eq.trans ?_ e2
    refine Eq.trans e0 ?_
    unfold kkF
    by_cases a0 : usF m ≤ gsS m 0
    · rw [if_pos a0, if_pos (show usF m ≤ gsS m ((0 : Nat) : Int) from a0)]; rfl
    · rw [if_neg a0, if_neg (show ¬ usF m ≤ gsS m ((0 : Nat) : Int) from a0)]
      refine Eq.trans e1 ?_
      by_cases a1 : usF m ≤ gsS m 1
      · rw [if_pos a1, if_pos (show usF m ≤ gsS m ((1 : Nat) : Int) from a1)]; rfl
      · rw [if_neg a1, if_neg (show ¬ usF m ≤ gsS m ((1 : Nat) : Int) from a1)]
        refine Eq.trans e2' ?_
        by_cases a2 : usF m ≤ gsS m 2
        · rw [if_pos a2, if_pos (show usF m ≤ gsS m ((2 : Nat) : Int) from a2)]; rfl
        · rw [if_neg a2, if_neg (show ¬ usF m ≤ gsS m ((2 : Nat) : Int) from a2)]
          refine Eq.trans e3' ?_
          by_cases a3 : usF m ≤ gsS m 3
          · rw [if_pos a3, if_pos (show usF m ≤ gsS m ((3 : Nat) : Int) from a3)]; rfl
          · rw [if_neg a3, if_neg (show ¬ usF m ≤ gsS m ((3 : Nat) : Int) from a3)]
  · exact ⟨h3, by rw [if_neg (nleN (by omega) (by omega) (by have := gb 0; omega)), if_neg hE], f3, fun z => absurd z hE⟩
