/-! ===== STAGE B: the reference's longOf ===== -/
theorem g_cuts {M : Nat} {i kd : Int} (hi : 0 ≤ i ∧ i < 16) (hkr : 0 ≤ kd ∧ kd ≤ 5) {ws : List (Int × Int)} (hws : ∀ w ∈ ws, 0 ≤ w.2 ∧ w.2 ≤ 3) (hlen : ws.length ≤ 12) {h : Hp} (l : LM h M) (w : RW h M i kd ws) :
    ∃ h2, f_X9_cuts h M (iN i) = some (h2, .inr ()) ∧ Ly h h2 ∧ RP h2 M (S_pcs kd ws 0) ∧ Fc h h2 M := by
  have f1 : Fc h (putI h M 18 (iN 0)) M := fun x j z1 _ _ => if_neg z1
  obtain ⟨h2, g1, g2, g3, g4⟩ := g_cutsL hi hkr hws hlen ws 0 0 [] (putI h M 18 (iN 0)) 2000 rfl (by omega) (l.ly Ly.pI) (w.fc f1) ⟨if_pos ⟨rfl, rfl⟩, fun k p hk => by cases hk⟩ (by simp only [List.length_nil]; omega) (by omega)
  refine ⟨h2, ?_, Ly.pI.tr g2, g3, f1.tr g4⟩
  unfold f_X9_cuts
  rw [chk_pos l.1, lt_is]
  exact g1
def pcAt (ps : List (Int × Int)) (k : Nat) : Int × Int := ps.getD k (0, 1)
theorem pcAt_get {ps : List (Int × Int)} {k : Nat} (h : k < ps.length) : ps[k]? = some (pcAt ps k) := by
  unfold pcAt
  rw [List.getD_eq_getElem?_getD, List.getElem?_eq_getElem h]
  rfl
/-- the pieces k .. k+d in one line, without the last one's hyphen -/
def S_lp (ps : List (Int × Int)) : Nat → Nat → Int
  | 0, k => (pcAt ps k).1
  | d + 1, k => kP1 (pcAt ps k).1 (pcAt ps k).2 + S_lp ps d (k + 1)
theorem g_longL {M : Nat} {ps : List (Int × Int)} (hps : ∀ p ∈ ps, (0 ≤ p.1 ∧ p.1 ≤ 200) ∧ 0 ≤ p.2 ∧ p.2 ≤ 3) (hlen : ps.length ≤ 12) {h : Hp} (l : LM h M) (p : RP h M ps) {to : Nat} (hto : to < ps.length) : ∀ (d k : Nat) (s : Int) (n : Nat), k + d = to → d + 1 < n →
    f_X9_longOf_L19 n h M (iN to) (iN s) (iN k) = some (h, .inr (iN (s + S_lp ps d k))) := by
  obtain ⟨a1, a2, a3⟩ := l.2 (16, 9, 20, 12) (by decide)
  obtain ⟨b1, b2, b3⟩ := l.2 (17, 10, 20, 12) (by decide)
  simp only at a1 a2 a3 b1 b2 b3
  intro d
  induction d with
  | zero =>
    intro k s n hk hn
    obtain ⟨n, rfl⟩ : ∃ m, n = m + 2 := ⟨n - 2, by omega⟩
    have hkk : k = to := by omega
    subst hkk
    obtain ⟨e1, e2⟩ := p.2 k _ (pcAt_get hto)
    show f_X9_longOf_B19 _ _ _ _ _ _ = _
    unfold f_X9_longOf_B19
    rw [if_neg (fun z => by have := (iN_lt ⟨by omega, by omega⟩ ⟨by omega, by omega⟩).mp z; omega), chk_pos l.1, a1, chk_pos a2, a3, chk_pos (vp_inN (by omega) (by omega) (by omega)), if_pos ((iN_le ⟨by omega, by omega⟩ ⟨by omega, by omega⟩).mpr (by omega)), iN_clN (by omega), e1]
    unfold f_X9_longOf_L53 f_X9_longOf_L54
    rw [iN_add, iN_add, iN_add, Int.add_zero]
    show f_X9_longOf_B19 _ _ _ _ _ _ = _
    unfold f_X9_longOf_B19
    rw [if_pos ((iN_lt ⟨by omega, by omega⟩ ⟨by omega, by omega⟩).mpr (by omega))]
    rfl
  | succ d ih =>
    intro k s n hk hn
    obtain ⟨n, rfl⟩ : ∃ m, n = m + 1 := ⟨n - 1, by omega⟩
    have hkl : k < ps.length := by omega
    obtain ⟨e1, e2⟩ := p.2 k _ (pcAt_get hkl)
    obtain ⟨q1, q2⟩ := hps _ (List.mem_of_getElem? (pcAt_get hkl))
    have hv : vp_in (iN k) 12 := vp_inN (by omega) (by omega) (by omega)
    show f_X9_longOf_B19 _ _ _ _ _ _ = _
    unfold f_X9_longOf_B19
    rw [if_neg (fun z => by have := (iN_lt ⟨by omega, by omega⟩ ⟨by omega, by omega⟩).mp z; omega), chk_pos l.1, a1, chk_pos a2, a3, chk_pos hv, if_neg (fun z => by have := (iN_le ⟨by omega, by omega⟩ ⟨by omega, by omega⟩).mp z; omega), b1, chk_pos b2, b3, chk_pos hv, iN_clN (by omega), e1, e2]
    have hs : ∀ z : Int, kP1 (pcAt ps k).1 (pcAt ps k).2 = (pcAt ps k).1 + z → f_X9_longOf_L54 (f_X9_longOf_L19 n) h M (iN to) (iN k) (iN z) (iN (pcAt ps k).1) (iN s) = some (h, .inr (iN (s + S_lp ps (d + 1) k))) := fun z hz => by
      unfold f_X9_longOf_L54
      rw [iN_add, iN_add, iN_add]
      have := ih (k + 1) (s + ((pcAt ps k).1 + z)) n (by omega) (by omega)
      rw [show ((k + 1 : Nat) : Int) = (k : Int) + 1 from rfl] at this
      rw [this, S_lp, hz, Int.add_assoc]
    by_cases h0 : (pcAt ps k).2 = 0
    · rw [if_pos (by rw [h0]; rfl)]
      exact hs 1 (by unfold kP1; rw [if_pos h0])
    · rw [if_neg (fun z => by rw [iN_zero] at z; exact h0 ((iN_eq ⟨by omega, by omega⟩ ⟨by omega, by omega⟩).mp z))]
      unfold f_X9_longOf_L53
      exact hs 0 (by unfold kP1; rw [if_neg h0])
