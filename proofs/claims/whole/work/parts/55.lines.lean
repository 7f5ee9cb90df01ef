/-! ===== STAGE B: the reference's lines: the inner loop ===== -/
def S_in (ps : List (Int × Int)) (room : Int) (f : Nat) : Nat → Nat → Nat → Nat
  | 0, la, _ => la
  | c + 1, la, en => if (pcAt ps en).2 = 1 then la else S_in ps room f c (if S_lo ps (en + 1 - f) f ≤ room then en + 1 else la) (en + 1)
theorem S_lp_bd {ps : List (Int × Int)} (hps : ∀ p ∈ ps, (0 ≤ p.1 ∧ p.1 ≤ 200) ∧ 0 ≤ p.2 ∧ p.2 ≤ 3) : ∀ d k : Nat, k + d < ps.length → 0 ≤ S_lp ps d k ∧ S_lp ps d k ≤ 201 * (d + 1)
  | 0, k, h => by
    have := (hps _ (List.mem_of_getElem? (pcAt_get (show k < ps.length by omega)))).1
    unfold S_lp
    omega
  | d + 1, k, h => by
    have h1 := (hps _ (List.mem_of_getElem? (pcAt_get (show k < ps.length by omega)))).1
    have h2 := S_lp_bd hps d (k + 1) (by omega)
    unfold S_lp kP1
    split <;> omega
theorem S_lo_bd {ps : List (Int × Int)} (hps : ∀ p ∈ ps, (0 ≤ p.1 ∧ p.1 ≤ 200) ∧ 0 ≤ p.2 ∧ p.2 ≤ 3) {d k : Nat} (h : k + d < ps.length) : 0 ≤ S_lo ps d k ∧ S_lo ps d k ≤ 201 * (d + 1) + 1 := by
  have := S_lp_bd hps d k h
  unfold S_lo
  split <;> omega
theorem g_linIn {K : Hp → Nat → Int32 → Int32 → Option (Rs Unit)} {M : Nat} {ps : List (Int × Int)} (hps : ∀ p ∈ ps, (0 ≤ p.1 ∧ p.1 ≤ 200) ∧ 0 ≤ p.2 ∧ p.2 ≤ 3) (hlen : ps.length ≤ 12) (hend : (pcAt ps (ps.length - 1)).2 = 1) {room : Int} (hroom : -100000 ≤ room ∧ room ≤ 100000) {h : Hp} (l : LM h M) (p : RP h M ps) {ln : Nat} (hln : ln < 12) (h20 : qI h M 20 = iN ln) {f : Nat} :
    ∀ (c la en n : Nat), en + 1 + c = ps.length → f ≤ la ∧ la ≤ en → c < n →
    f_X9_breaksLines_L38 K n h M (iN room) (iN f) (iN la) (iN en) = K (putI (putI h (M + 11) ln (iN (S_lo ps (S_in ps room f (c + 1) la en - f) f))) M 20 (iN (ln + 1))) M (iN room) (iN (S_in ps room f (c + 1) la en + 1 : Nat)) := by
  obtain ⟨b1, b2, b3⟩ := l.2 (17, 10, 20, 12) (by decide)
  obtain ⟨c1, c2, c3⟩ := l.2 (19, 11, 20, 12) (by decide)
  simp only at b1 b2 b3 c1 c2 c3
  have fin : ∀ (la en n c : Nat), la ≤ en → f ≤ la → en < ps.length → (pcAt ps en).2 = 1 → f_X9_breaksLines_L38 K (n + 1) h M (iN room) (iN f) (iN la) (iN en) = K (putI (putI h (M + 11) ln (iN (S_lo ps (S_in ps room f (c + 1) la en - f) f))) M 20 (iN (ln + 1))) M (iN room) (iN (S_in ps room f (c + 1) la en + 1 : Nat)) := by
    intro la en n c q1 q2 q3 q4
    obtain ⟨e1, e2⟩ := p.2 en _ (pcAt_get q3)
    have n11 : ¬ M = M + 11 := by omega
    rw [S_in, if_pos q4]
    show f_X9_breaksLines_B38 _ _ _ _ _ _ _ _ = _
    unfold f_X9_breaksLines_B38
    have g := g_longOf hps hlen l p (d := la - f) (k := f) (by omega)
    rw [show f + (la - f) = la by omega] at g
    rw [chk_pos l.1, b1, chk_pos b2, b3, chk_pos (vp_inN (by omega) (by omega) (by omega)), iN_clN (by omega), e2, if_pos (by rw [q4]), c1, chk_pos c2, g, bnd_ret, chk_pos c2, h20, c3, chk_pos (vp_inN (by omega) (by omega) (by omega)), lt_is, iN_clN (by omega), chk_pos (show okr (putI h (M + 11) ln (iN (S_lo ps (la - f) f))) M 9 from l.1), lt_is, qI_pI, if_neg (fun z => n11 z.1), h20, iN_add, iN_add]
    rfl
  intro c
  induction c with
  | zero =>
    intro la en n hc hl hn
    obtain ⟨n, rfl⟩ : ∃ m, n = m + 1 := ⟨n - 1, by omega⟩
    exact fin la en n 0 hl.2 hl.1 (by omega) (by rw [show en = ps.length - 1 by omega]; exact hend)
  | succ c ih =>
    intro la en n hc hl hn
    obtain ⟨n, rfl⟩ : ∃ m, n = m + 1 := ⟨n - 1, by omega⟩
    by_cases h1 : (pcAt ps en).2 = 1
    · exact fin la en n (c + 1) hl.2 hl.1 (by omega) h1
    · have hen : en < ps.length := by omega
      obtain ⟨e1, e2⟩ := p.2 en _ (pcAt_get hen)
      obtain ⟨-, q2⟩ := hps _ (List.mem_of_getElem? (pcAt_get hen))
      have hbd := S_lo_bd hps (d := en + 1 - f) (k := f) (by omega)
      have g := g_longOf hps hlen l p (d := en + 1 - f) (k := f) (by omega)
      rw [show f + (en + 1 - f) = en + 1 by omega] at g
      show f_X9_breaksLines_B38 _ _ _ _ _ _ _ _ = _
      unfold f_X9_breaksLines_B38
      rw [chk_pos l.1, b1, chk_pos b2, b3, chk_pos (vp_inN (by omega) (by omega) (by omega)), iN_clN (by omega), e2, if_neg (fun z => h1 ((iN_eq ⟨by omega, by omega⟩ ⟨by omega, by omega⟩).mp z)), iN_add, show (en : Int) + 1 = ((en + 1 : Nat) : Int) from rfl, g, bnd_ret, S_in, if_neg h1]
      unfold f_X9_breaksLines_L71
      by_cases hf : S_lo ps (en + 1 - f) f ≤ room
      · rw [if_neg (fun z => by have := (iN_lt ⟨by omega, by omega⟩ ⟨by omega, by omega⟩).mp z; omega), if_pos hf]
        exact ih (en + 1) (en + 1) n (by omega) (by omega) (by omega)
      · rw [if_pos ((iN_lt ⟨by omega, by omega⟩ ⟨by omega, by omega⟩).mpr (by omega)), if_neg hf]
        exact ih la (en + 1) n (by omega) (by omega) (by omega)
