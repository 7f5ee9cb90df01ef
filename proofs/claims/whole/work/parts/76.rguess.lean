/-! ===== STAGE B: the reference's guesses and automatic layout ===== -/
def GR (h : Hp) (M : Nat) (m : Int → Int) (k : Int) : Prop := ∀ g c : Int, 0 ≤ g → g < 4 → 0 ≤ c → c < k → qI h (M + 17) (4 * g + c).toNat = iN (gsF m g c)
theorem GR.fz {P : Nat → Nat → Prop} {h h2 : Hp} {M : Nat} {m : Int → Int} {k : Int} (G : GR h M m k) (f : FZ P h h2) (hp : ∀ j, ¬ P (M + 17) j) : GR h2 M m k := fun g c h1 h2 h3 h4 => (f.2 _ _ (hp _)).trans (G g c h1 h2 h3 h4)
theorem g_gaL {M : Nat} {m : Int → Int} (w : WF m) : ∀ (d k : Nat) (h : Hp) (n : Nat), (k : Int) + d = m 0 → d < n → RM h M m → AR h (M + 12) (m 0) (msW m).1 → AR h (M + 13) (m 0) (msW m).2 → AR h (M + 14) (m 0) (pcF m) → GR h M m k →
    ∃ h2, f_X9_guessesAll_L6 n h M (iN k) = some (h2, .inr ()) ∧ FZ (pA (M + 17)) h h2 ∧ GR h2 M m (m 0) := by
  have h0 := w.1.1
  intro d
  induction d with
  | zero =>
    intro k h n hk hn r A1 A2 A3 G
    obtain ⟨n, rfl⟩ : ∃ z, n = z + 1 := ⟨n - 1, by omega⟩
    refine ⟨h, ?_, FZ.rf, by rw [show m 0 = (k : Int) by omega]; exact G⟩
    show f_X9_guessesAll_B6 (f_X9_guessesAll_L6 n) h M (iN k) = _
    unfold f_X9_guessesAll_B6
    rw [chk_pos r.1.1, r.1.r1, chk_pos r.1.o1, r.1.w1, ck_in (by omega) (by omega) (by omega), g_rd r (by omega) (by omega), if_pos (yleN (by omega) (by omega) (by omega))]
  | succ d ih =>
    intro k h n hk hn r A1 A2 A3 G
    obtain ⟨n, rfl⟩ : ∃ z, n = z + 1 := ⟨n - 1, by omega⟩
    have sp := (w.2.1 k (by omega) (by omega))
    have ty := sp.ty
    have sb := sp.bd
    have pb := pcF_bd w (c := k) (by omega)
    have ub := us_bd w
    have po := por_bd ub pb
    have wb := msW_bd w k (by omega) (by omega)
    have gb := gs_bd w (c := k) (by omega)
    have r1 := A1 k (by omega) (by omega)
    have r2 := A2 k (by omega) (by omega)
    have r3 := A3 k (by omega) (by omega)
    have kc : (iN (k : Int)).toNatClampNeg = (k : Int).toNat := iN_cl (by omega) (by omega)
    have k4 : (iN (4 + (k : Int))).toNatClampNeg = (4 + (k : Int)).toNat := iN_cl (by omega) (by omega)
    have k8 : (iN (8 + (k : Int))).toNatClampNeg = (8 + (k : Int)).toNat := iN_cl (by omega) (by omega)
    have k12 : (iN (12 + (k : Int))).toNatClampNeg = (12 + (k : Int)).toNat := iN_cl (by omega) (by omega)
    generalize hha : putI h (M + 17) (k : Int).toNat (iN ((msW m).1 k)) = ha
    generalize hhb : putI ha (M + 17) (4 + (k : Int)).toNat (iN (gs1 m k)) = hb
    generalize hhc : putI hb (M + 17) (8 + (k : Int)).toNat (iN (gs2 m k)) = hc
    generalize hhd : putI hc (M + 17) (12 + (k : Int)).toNat (iN (gs3 m k)) = hd
    have fa : FZ (pA (M + 17)) h ha := by rw [← hha]; exact FZ.pa
    have fb : FZ (pA (M + 17)) ha hb := by rw [← hhb]; exact FZ.pa
    have fc : FZ (pA (M + 17)) hb hc := by rw [← hhc]; exact FZ.pa
    have fd : FZ (pA (M + 17)) hc hd := by rw [← hhd]; exact FZ.pa
    have ra := r.a fa (by omega)
    have rb := ra.a fb (by omega)
    have rc := rb.a fc (by omega)
    have rd := rc.a fd (by omega)
    have f02 : FZ (pA (M + 17)) h hb := fa.tr fb
    have f03 : FZ (pA (M + 17)) h hc := f02.tr fc
    have f04 : FZ (pA (M + 17)) h hd := f03.tr fd
    have np : ∀ a, a < M + 17 → ∀ j, ¬ pA (M + 17) a j := fun a z j z2 => by unfold pA at z2; omega
    have G' : GR hd M m (k + 1 : Nat) := by
      intro g c q1 q2 q3 q4
      rw [← hhd, ← hhc, ← hhb, ← hha]
      by_cases hck : c = k
      · have hg4 : g = 0 ∨ g = 1 ∨ g = 2 ∨ g = 3 := by omega
        rw [hck]
        rcases hg4 with rfl | rfl | rfl | rfl
        · rw [show (4 * (0 : Int) + (k : Int)).toNat = (k : Int).toNat by omega]
          simp (disch := omega) only [rd_nk, rd_eq]; rfl
        · rw [show (4 * (1 : Int) + (k : Int)).toNat = (4 + (k : Int)).toNat by omega]
          simp (disch := omega) only [rd_nk, rd_eq]; rfl
        · rw [show (4 * (2 : Int) + (k : Int)).toNat = (8 + (k : Int)).toNat by omega]
          simp (disch := omega) only [rd_nk, rd_eq]; rfl
        · rw [show (4 * (3 : Int) + (k : Int)).toNat = (12 + (k : Int)).toNat by omega]
          simp (disch := omega) only [rd_nk, rd_eq]; rfl
      · simp (disch := omega) only [rd_nk]
        exact G g c q1 q2 q3 (by omega)
    obtain ⟨h2, e2, f2, g2⟩ := ih (k + 1) hd n (by omega) (by omega) rd (A1.fz f04 (np _ (by omega))) (A2.fz f04 (np _ (by omega))) (A3.fz f04 (np _ (by omega))) G'
    refine ⟨h2, ?_, f04.tr f2, g2⟩
    have s3 : ∀ v, v = gs3 m k → f_X9_guessesAll_L159 (f_X9_guessesAll_L6 n) hc M (iN k) (iN v) (iN (12 + (k : Int))) (M + 17) = some (h2, .inr ()) := by
      intro v hv
      unfold f_X9_guessesAll_L159
      rw [chk_pos rc.1.o26, rc.1.w26, ck_in (by omega) (by omega) (by omega), k12, hv, lt_is, hhd, iN_add]
      exact e2
    have s2 : ∀ v, v = gs2 m k → f_X9_guessesAll_L124 (f_X9_guessesAll_L6 n) hb M (iN k) (iN v) (iN (8 + (k : Int))) (M + 17) = some (h2, .inr ()) := by
      intro v hv
      have rd8 : qI hc (M + 17) (8 + (k : Int)).toNat = iN (gs2 m k) := by rw [← hhc, rd_eq]
      unfold f_X9_guessesAll_L124
      rw [chk_pos rb.1.o26, rb.1.w26, ck_in (by omega) (by omega) (by omega), k8, hv, lt_is, hhc, chk_pos rc.1.1, rc.1.r26, chk_pos rc.1.o26, g_isAuto9 rc w (by omega), bnd_ret]
      by_cases ht : tyS (m (6 + k)) = 0
      · have rm : qI hc (M + 13) (k : Int).toNat = iN ((msW m).2 k) := (f03.2 _ _ (np _ (by omega) _)).trans r2
        rw [if_neg (fun z => bN0.mp z ht), chk_pos rc.1.1, rc.1.r22, chk_pos rc.1.o22, rc.1.w22, ck_in (by omega) (by omega) (by omega), kc, rm, iN_add]
        exact s3 _ (by unfold gs3; rw [if_pos ht])
      · rw [if_pos (bN0.mpr ht), chk_pos rc.1.1, rc.1.r26, chk_pos rc.1.o26, rc.1.w26, iN_add, ck_in (by omega) (by omega) (by omega), k8, rd8, iN_add]
        exact s3 _ (by unfold gs3; rw [if_neg ht])
    have s1 : ∀ v, v = gs1 m k → f_X9_guessesAll_L75 (f_X9_guessesAll_L6 n) ha M (iN k) (iN v) (iN (4 + (k : Int))) (M + 17) = some (h2, .inr ()) := by
      intro v hv
      have rd4 : qI hb (M + 17) (4 + (k : Int)).toNat = iN (gs1 m k) := by rw [← hhb, rd_eq]
      unfold f_X9_guessesAll_L75
      rw [chk_pos ra.1.o26, ra.1.w26, ck_in (by omega) (by omega) (by omega), k4, hv, lt_is, hhb, chk_pos rb.1.1, rb.1.r26, chk_pos rb.1.o26, g_isFixed9 rb w (by omega), bnd_ret]
      by_cases ht : tyS (m (6 + k)) = 1
      · have rm : qI hb (M + 12) (k : Int).toNat = iN ((msW m).1 k) := (f02.2 _ _ (np _ (by omega) _)).trans r1
        have e1 : gs1 m k = (msW m).1 k := by unfold gs1; rw [if_neg (by omega)]; omega
        rw [if_neg (fun z => bN0.mp z ht), chk_pos rb.1.1, rb.1.r21, chk_pos rb.1.o21, rb.1.w21, ck_in (by omega) (by omega) (by omega), kc, rm, rb.1.r1, chk_pos rb.1.o1, rb.1.w1, iN_add, ck_in (by omega) (by omega) (by omega), g_rd rb (by omega) (by omega), iN_sub, g_greater ⟨by omega, by omega⟩ ⟨by omega, by omega⟩, bnd_ret, iN_add]
        exact s2 _ (by unfold gs2; rw [if_pos ht, e1, (ty.2.2.2.2.2.1 ht).1])
      · rw [if_pos (bN0.mpr ht), chk_pos rb.1.1, rb.1.r26, chk_pos rb.1.o26, rb.1.w26, iN_add, ck_in (by omega) (by omega) (by omega), k4, rd4, iN_add]
        exact s2 _ (by unfold gs2; rw [if_neg ht]; omega)
    have rma : qI ha (M + 12) (k : Int).toNat = iN ((msW m).1 k) := (fa.2 _ _ (np _ (by omega) _)).trans r1
    have rpa : qI ha (M + 14) (k : Int).toNat = iN (pcF m k) := (fa.2 _ _ (np _ (by omega) _)).trans r3
    have us9 : f_X9_usable ha M = some (ha, .inr (iN (usF m))) := g_usable9 ra
    show f_X9_guessesAll_B6 (f_X9_guessesAll_L6 n) h M (iN k) = _
    unfold f_X9_guessesAll_B6
    rw [chk_pos r.1.1, r.1.r1, chk_pos r.1.o1, r.1.w1, ck_in (by omega) (by omega) (by omega), g_rd r (by omega) (by omega), if_neg (nleN (by omega) (by omega) (by omega)), r.1.r26, chk_pos r.1.o26, r.1.r21, chk_pos r.1.o21, r.1.w21, ck_in (by omega) (by omega) (by omega), r.1.w26, ck_in (by omega) (by omega) (by omega), kc, r1, lt_is, hha, ra.1.r26, chk_pos ra.1.o26, g_isShared9 ra w (by omega), bnd_ret]
    by_cases ht : tyS (m (6 + k)) = 2
    · rw [if_neg (fun z => bN0.mp z ht), chk_pos ra.1.1, ra.1.r21, chk_pos ra.1.o21, ra.1.w21, ck_in (by omega) (by omega) (by omega), us9, bnd_ret, chk_pos ra.1.1, ra.1.r23, chk_pos ra.1.o23, ra.1.w23, ck_in (by omega) (by omega) (by omega), chk_pos (by decide), rma, rpa, iN_mul, iN_div ⟨by omega, by omega⟩ ⟨by omega, by omega⟩ (by omega) (by omega), g_greater ⟨by omega, by omega⟩ ⟨by omega, by omega⟩, bnd_ret, iN_add]
      exact s1 _ (by unfold gs1; rw [if_pos ht])
    · rw [if_pos (bN0.mpr ht), chk_pos ra.1.1, ra.1.r21, chk_pos ra.1.o21, ra.1.w21, ck_in (by omega) (by omega) (by omega), rma, iN_add]
      exact s1 _ (by unfold gs1; rw [if_neg ht]; omega)
/-- the reference's columns hold the measures of m -/
def VM (h : Hp) (M : Nat) (m : Int → Int) : Prop := AR h (M + 12) (m 0) (msW m).1 ∧ AR h (M + 13) (m 0) (msW m).2 ∧ AR h (M + 14) (m 0) (pcF m) ∧ GR h M m (m 0)
theorem VM.fz {P : Nat → Nat → Prop} {h h2 : Hp} {M : Nat} {m : Int → Int} (v : VM h M m) (f : FZ P h h2) (hp : ∀ a j, (a = M + 12 ∨ a = M + 13 ∨ a = M + 14 ∨ a = M + 17) → ¬ P a j) : VM h2 M m := ⟨v.1.fz f (fun j => hp _ j (by omega)), v.2.1.fz f (fun j => hp _ j (by omega)), v.2.2.1.fz f (fun j => hp _ j (by omega)), v.2.2.2.fz f (fun j => hp _ j (by omega))⟩
theorem g_guessesAll {h : Hp} {M : Nat} {m : Int → Int} (w : WF m) (r : RM h M m) : ∃ h2, f_X9_guessesAll h M = some (h2, .inr ()) ∧ FZ (pV M) h h2 ∧ VM h2 M m := by
  have h0 := w.1.1
  obtain ⟨h3, e3, f3, a3, b3, c3⟩ := g_measures w r
  have r3 := r.v f3
  obtain ⟨h2, e2, f2, g2⟩ := g_gaL w (m 0).toNat 0 h3 2000 (by omega) (by omega) r3 a3 b3 c3 (fun g c z1 z2 z3 z4 => by omega)
  refine ⟨h2, ?_, f3.tr (f2.v (by omega) (by omega)), a3.fz f2 (fun j z => by unfold pA at z; omega), b3.fz f2 (fun j z => by unfold pA at z; omega), c3.fz f2 (fun j z => by unfold pA at z; omega), g2⟩
  unfold f_X9_guessesAll
  rw [chk_pos r.1.1, e3, bnd_ret]
  exact e2
theorem g_guessedL {h : Hp} {M : Nat} {m : Int → Int} (w : WF m) (r : RM h M m) (G : GR h M m (m 0)) {g : Int} (hg : 0 ≤ g ∧ g < 4) : ∀ (d k : Nat) (n : Nat), (k : Int) + d = m 0 → d < n → f_X9_guessed_L4 n h M (iN g) (iN (sumF (gsF m g) 0 k)) (iN k) = some (h, .inr (iN (gsS m g))) := by
  have h0 := w.1.1
  intro d
  induction d with
  | zero =>
    intro k n hk hn
    obtain ⟨n, rfl⟩ : ∃ z, n = z + 1 := ⟨n - 1, by omega⟩
    show f_X9_guessed_B4 (f_X9_guessed_L4 n) h M (iN g) _ (iN k) = _
    unfold f_X9_guessed_B4 gsS
    rw [chk_pos r.1.1, r.1.r1, chk_pos r.1.o1, r.1.w1, ck_in (by omega) (by omega) (by omega), g_rd r (by omega) (by omega), if_pos (yleN (by omega) (by omega) (by omega)), show (m 0).toNat = k by omega]
  | succ d ih =>
    intro k n hk hn
    obtain ⟨n, rfl⟩ : ∃ z, n = z + 1 := ⟨n - 1, by omega⟩
    have rg := G g k hg.1 hg.2 (by omega) (by omega)
    have e2 := ih (k + 1) n (by omega) (by omega)
    rw [sumF, show (0 : Int) + (k : Int) = k by omega] at e2
    show f_X9_guessed_B4 (f_X9_guessed_L4 n) h M (iN g) _ (iN k) = _
    unfold f_X9_guessed_B4
    rw [chk_pos r.1.1, r.1.r1, chk_pos r.1.o1, r.1.w1, ck_in (by omega) (by omega) (by omega), g_rd r (by omega) (by omega), if_neg (nleN (by omega) (by omega) (by omega)), r.1.r26, chk_pos r.1.o26, iN_mul, iN_add, r.1.w26, ck_in (by omega) (by omega) (by omega), iN_cl (by omega) (by omega), rg, iN_add, iN_add]
    exact e2
theorem g_guessed {h : Hp} {M : Nat} {m : Int → Int} (w : WF m) (r : RM h M m) (G : GR h M m (m 0)) {g : Int} (hg : 0 ≤ g ∧ g < 4) : f_X9_guessed h M (iN g) = some (h, .inr (iN (gsS m g))) := by
  have h0 := w.1.1
  exact g_guessedL w r G hg (m 0).toNat 0 2000 (by omega) (by omega)
