/-! ===== STAGE B: breakLines, minimum, maximum of a text ===== -/
theorem g_brk {q : Nat} {ps : List (Int × Int)} (hps : ∀ p ∈ ps, (0 ≤ p.1 ∧ p.1 ≤ 200) ∧ 0 ≤ p.2 ∧ p.2 ≤ 3) (hlen : ps.length ≤ 12) {w ind : Int} (hw : -90000 ≤ w ∧ w ≤ 90000) (hi : 0 ≤ ind ∧ ind ≤ 2) {h : Hp} (l : LC h q) (p : HP h q ps) (h4 : qI h q 4 = iN ind) :
    ∃ h2, f_X4_breakLines h q (iN w) = some (h2, .inr (iN (S_brk (w - ind) ps [] 0 false).length)) ∧ Ly h h2 ∧ HL h2 q (S_brk (w - ind) ps [] 0 false) ∧ ∀ x j, x ≠ q + 6 → qI h2 x j = qI h x j := by
  obtain ⟨h2, g1, g2, g3, g4⟩ := g_brkL hps hlen (room := w - ind) (by omega) ps 0 [] 0 false h 2000 rfl (by omega) l p (fun i x hx => by cases hx) (Nat.le_refl _) (fun z => by cases z) (by omega) (by omega)
  refine ⟨h2, ?_, g2, g3, g4⟩
  unfold f_X4_breakLines
  rw [chk_pos l.1, h4, iN_sub]
  exact g1
theorem g_jmax {a b : Int} (ha : InR a) (hb : InR b) : jmax (iN a) (iN b) = iN (max a b) := by
  unfold jmax
  by_cases hh : a < b
  · rw [if_pos ((iN_lt ha hb).mpr hh), Int.max_eq_right (by omega)]
  · rw [if_neg (fun z => hh ((iN_lt ha hb).mp z)), Int.max_eq_left (by omega)]
theorem g_jmin {a b : Int} (ha : InR a) (hb : InR b) : jmin (iN a) (iN b) = iN (min a b) := by
  unfold jmin
  by_cases hh : b < a
  · rw [if_pos ((iN_lt hb ha).mpr hh), Int.min_eq_right (by omega)]
  · rw [if_neg (fun z => hh ((iN_lt hb ha).mp z)), Int.min_eq_left (by omega)]
/-- the greatest ending length -/
def S_mx : List (Int × Int) → Int → Int
  | [], m => m
  | (l, b) :: r, m => S_mx r (max m (kE1 l b))
theorem g_minL {q : Nat} {ps : List (Int × Int)} (hps : ∀ p ∈ ps, (0 ≤ p.1 ∧ p.1 ≤ 200) ∧ 0 ≤ p.2 ∧ p.2 ≤ 3) (hlen : ps.length ≤ 12) {h : Hp} {ind : Int} (l : LC h q) (p : HP h q ps) (h4 : qI h q 4 = iN ind) : ∀ (r : List (Int × Int)) (k : Nat) (m : Int) (n : Nat),
    ps.drop k = r → k + r.length = ps.length → (0 ≤ m ∧ m ≤ 1000) → r.length < n → f_X4_minimum_L35 n h q (iN m) (iN k) = some (h, .inr (iN (ind + S_mx r m))) := by
  intro r
  obtain ⟨h1, ⟨r5, r6, r8, r9, r10, r11, r12⟩, ⟨o1, o2, o3, o4, o5, o6, o7⟩, ⟨w1, w2, w3, w4, w5, w6, w7⟩⟩ := id l
  induction r with
  | nil =>
    intro k m n hd hk hm hn
    obtain ⟨n, rfl⟩ : ∃ z, n = z + 1 := ⟨n - 1, by omega⟩
    have hkk : k = ps.length := by simpa using hk
    show f_X4_minimum_B35 _ _ _ _ _ = _
    unfold f_X4_minimum_B35
    rw [chk_pos h1, p.1, if_pos ((iN_le ⟨by omega, by omega⟩ ⟨by omega, by omega⟩).mpr (by omega)), h4, iN_add]
    rfl
  | cons x r ih =>
    intro k m n hd hk hm hn
    obtain ⟨len, b⟩ := x
    obtain ⟨n, rfl⟩ : ∃ z, n = z + 1 := ⟨n - 1, by omega⟩
    obtain ⟨d1, d2, d3⟩ := drop_at hd
    simp only [List.length_cons] at hk hn
    obtain ⟨hl1, hb⟩ := hps (len, b) (List.mem_of_getElem? d1)
    simp only at hl1 hb
    obtain ⟨e1, e2, e3⟩ := p.2 k _ d1
    simp only at e1
    have hE : 0 ≤ kE1 len b ∧ kE1 len b ≤ 201 := by unfold kE1; split <;> omega
    have hv : vp_in (iN k) 12 := vp_inN (by omega) (by omega) (by omega)
    have cl : (iN (k : Int)).toNatClampNeg = k := iN_clN (by omega)
    show f_X4_minimum_B35 _ _ _ _ _ = _
    unfold f_X4_minimum_B35
    rw [chk_pos h1, p.1, if_neg (fun z => by have := (iN_le ⟨by omega, by omega⟩ ⟨by omega, by omega⟩).mp z; omega), r8, chk_pos o3, w3, chk_pos hv, cl, e1, g_jmax ⟨by omega, by omega⟩ ⟨by omega, by omega⟩, iN_add]
    exact ih (k + 1) (max m (kE1 len b)) n d2 (by omega) (by omega) (by omega)
/-- the longest line between line ends -/
def S_my : List (Int × Int) → Int → Int → Int
  | [], m, _ => m
  | (l, b) :: r, m, u => if b = 1 then S_my r (max m (u + kE1 l b)) 0 else S_my r m (u + kP1 l b)
theorem g_maxL {q : Nat} {ps : List (Int × Int)} (hps : ∀ p ∈ ps, (0 ≤ p.1 ∧ p.1 ≤ 200) ∧ 0 ≤ p.2 ∧ p.2 ≤ 3) (hlen : ps.length ≤ 12) {h : Hp} {ind : Int} (l : LC h q) (p : HP h q ps) (h4 : qI h q 4 = iN ind) : ∀ (r : List (Int × Int)) (k : Nat) (m u : Int) (n : Nat),
    ps.drop k = r → k + r.length = ps.length → (0 ≤ m ∧ m ≤ 5000) → (0 ≤ u ∧ u ≤ 201 * k) → r.length < n → f_X4_maximum_L18 n h q (iN m) (iN u) (iN k) = some (h, .inr (iN (ind + S_my r m u))) := by
  intro r
  obtain ⟨h1, ⟨r5, r6, r8, r9, r10, r11, r12⟩, ⟨o1, o2, o3, o4, o5, o6, o7⟩, ⟨w1, w2, w3, w4, w5, w6, w7⟩⟩ := id l
  induction r with
  | nil =>
    intro k m u n hd hk hm hu hn
    obtain ⟨n, rfl⟩ : ∃ z, n = z + 1 := ⟨n - 1, by omega⟩
    have hkk : k = ps.length := by simpa using hk
    show f_X4_maximum_B18 _ _ _ _ _ _ = _
    unfold f_X4_maximum_B18
    rw [chk_pos h1, p.1, if_pos ((iN_le ⟨by omega, by omega⟩ ⟨by omega, by omega⟩).mpr (by omega)), h4, iN_add]
    rfl
  | cons x r ih =>
    intro k m u n hd hk hm hu hn
    obtain ⟨len, b⟩ := x
    obtain ⟨n, rfl⟩ : ∃ z, n = z + 1 := ⟨n - 1, by omega⟩
    obtain ⟨d1, d2, d3⟩ := drop_at hd
    simp only [List.length_cons] at hk hn
    obtain ⟨hl1, hb⟩ := hps (len, b) (List.mem_of_getElem? d1)
    simp only at hl1 hb
    obtain ⟨e1, e2, e3⟩ := p.2 k _ d1
    simp only at e1 e2 e3
    have hE : 0 ≤ kE1 len b ∧ kE1 len b ≤ 201 := by unfold kE1; split <;> omega
    have hP : 0 ≤ kP1 len b ∧ kP1 len b ≤ 201 := by unfold kP1; split <;> omega
    have hv : vp_in (iN k) 12 := vp_inN (by omega) (by omega) (by omega)
    have cl : (iN (k : Int)).toNatClampNeg = k := iN_clN (by omega)
    show f_X4_maximum_B18 _ _ _ _ _ _ = _
    unfold f_X4_maximum_B18 f_X4_maximum_L62
    rw [chk_pos h1, p.1, if_neg (fun z => by have := (iN_le ⟨by omega, by omega⟩ ⟨by omega, by omega⟩).mp z; omega), r10, chk_pos o5, w5, chk_pos hv, cl, e3, S_my]
    by_cases b1 : b = 1
    · rw [if_neg (by unfold kL1; rw [if_pos b1]; decide), r8, chk_pos o3, w3, chk_pos hv, e1, iN_add, g_jmax ⟨by omega, by omega⟩ ⟨by omega, by omega⟩, iN_add, if_pos b1]
      exact ih (k + 1) _ 0 n d2 (by omega) (by omega) (by omega) (by omega)
    · rw [if_pos (by unfold kL1; rw [if_neg b1]; rfl), r9, chk_pos o4, w4, chk_pos hv, e2, iN_add, iN_add, if_neg b1]
      exact ih (k + 1) m _ n d2 (by omega) hm (by omega) (by omega)
