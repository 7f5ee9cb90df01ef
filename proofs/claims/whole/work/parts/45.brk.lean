/-! ===== STAGE B: breakLines ===== -/
/-- the lengths of the lines, piece by piece: L so far, u used of the last line, o: it is open -/
def S_brk (room : Int) : List (Int × Int) → List Int → Int → Bool → List Int
  | [], L, _, _ => L
  | (l, b) :: r, L, u, o => if o = false ∨ room < u + kE1 l b then S_brk room r (L ++ [0 + kE1 l b]) (0 + kP1 l b) (decide (b ≠ 1)) else S_brk room r (L.dropLast ++ [u + kE1 l b]) (u + kP1 l b) (decide (b ≠ 1))
def HL (h : Hp) (q : Nat) (L : List Int) : Prop := ∀ (i : Nat) (x : Int), L[i]? = some x → qI h (q + 6) i = iN x
def oN (o : Bool) : Int := if o = true then 1 else 0
theorem HL.pre {h : Hp} {q : Nat} {L : List Int} (a : HL h q L) : HL h q L.dropLast := fun i x hx => by
  rw [List.getElem?_dropLast] at hx
  split at hx
  · exact a i x hx
  · cases hx
theorem HL.put {h : Hp} {q : Nat} {M : List Int} {x : Int} (a : HL h q M) : HL (putI h (q + 6) M.length (iN x)) q (M ++ [x]) := fun i y hy => by
  rw [qI_pI]
  by_cases hi : i = M.length
  · subst hi
    rw [List.getElem?_append_right (Nat.le_refl _), Nat.sub_self] at hy
    cases hy
    exact if_pos ⟨rfl, rfl⟩
  · rw [if_neg (fun z => hi z.2)]
    have hi2 : i < M.length := by
      have := (List.getElem?_eq_some_iff.mp hy).1
      rw [List.length_append] at this
      simp only [List.length_cons, List.length_nil] at this
      omega
    rw [List.getElem?_append_left hi2] at hy
    exact a i y hy
theorem g_brkL {q : Nat} {ps : List (Int × Int)} (hps : ∀ p ∈ ps, (0 ≤ p.1 ∧ p.1 ≤ 200) ∧ 0 ≤ p.2 ∧ p.2 ≤ 3) (hlen : ps.length ≤ 12) {room : Int} (hroom : -100000 ≤ room ∧ room ≤ 100000) : ∀ (r : List (Int × Int)) (k : Nat) (L : List Int) (u : Int) (o : Bool) (h : Hp) (n : Nat),
    ps.drop k = r → k + r.length = ps.length → LC h q → HP h q ps → HL h q L → L.length ≤ k → (o = true → L ≠ []) → (0 ≤ u ∧ u ≤ 201 * k) → r.length < n →
    ∃ h2, f_X4_breakLines_L18 n h q (iN room) (iN L.length) (iN u) (iN (oN o)) (iN k) = some (h2, .inr (iN (S_brk room r L u o).length)) ∧ Ly h h2 ∧ HL h2 q (S_brk room r L u o) ∧ ∀ x j, x ≠ q + 6 → qI h2 x j = qI h x j := by
  intro r
  induction r with
  | nil =>
    intro k L u o h n hd hk l p hl hL ho hu hn
    obtain ⟨n, rfl⟩ : ∃ m, n = m + 1 := ⟨n - 1, by omega⟩
    have hkk : k = ps.length := by simpa using hk
    refine ⟨h, ?_, Ly.rf, hl, fun _ _ _ => rfl⟩
    show f_X4_breakLines_B18 _ _ _ _ _ _ _ _ = _
    unfold f_X4_breakLines_B18
    rw [chk_pos l.1, p.1, if_pos ((iN_le ⟨by omega, by omega⟩ ⟨by omega, by omega⟩).mpr (by omega))]
    rfl
  | cons x r ih =>
    intro k L u o h n hd hk l p hl hL ho hu hn
    obtain ⟨len, b⟩ := x
    obtain ⟨n, rfl⟩ : ∃ m, n = m + 1 := ⟨n - 1, by omega⟩
    obtain ⟨d1, d2, d3⟩ := drop_at hd
    simp only [List.length_cons] at hk hn
    obtain ⟨hlen1, hb⟩ := hps (len, b) (List.mem_of_getElem? d1)
    simp only at hlen1 hb
    obtain ⟨e1, e2, e3⟩ := p.2 k _ d1
    simp only at e1 e2 e3
    have hE : 0 ≤ kE1 len b ∧ kE1 len b ≤ 201 := by unfold kE1; split <;> omega
    have hP : 0 ≤ kP1 len b ∧ kP1 len b ≤ 201 := by unfold kP1; split <;> omega
    have hv : vp_in (iN k) 12 := vp_inN (by omega) (by omega) (by omega)
    have cl : (iN (k : Int)).toNatClampNeg = k := iN_clN (by omega)
    have hle : ¬ iN (ps.length : Int) ≤ iN (k : Int) := fun z => by have := (iN_le ⟨by omega, by omega⟩ ⟨by omega, by omega⟩).mp z; omega
    obtain ⟨h1, ⟨r5, r6, r8, r9, r10, r11, r12⟩, ⟨o1, o2, o3, o4, o5, o6, o7⟩, ⟨w1, w2, w3, w4, w5, w6, w7⟩⟩ := id l
    have core : ∀ (M : List Int) (u' : Int), HL h q M → M.length ≤ k → (0 ≤ u' ∧ u' ≤ 201 * k) →
        ∃ h2, f_X4_breakLines_L52 (f_X4_breakLines_L18 n) h q (iN room) (iN (M.length + 1)) (iN u') (iN k) = some (h2, .inr (iN (S_brk room r (M ++ [u' + kE1 len b]) (u' + kP1 len b) (decide (b ≠ 1))).length)) ∧ Ly h h2 ∧ HL h2 q (S_brk room r (M ++ [u' + kE1 len b]) (u' + kP1 len b) (decide (b ≠ 1))) ∧ ∀ x j, x ≠ q + 6 → qI h2 x j = qI h x j := by
      intro M u' hM hMk hu'
      have hvM : vp_in (iN (M.length : Int)) 12 := vp_inN (by omega) (by omega) (by omega)
      have clM : (iN (M.length : Int)).toNatClampNeg = M.length := iN_clN (by omega)
      have n46 : ¬ q + 4 = q + 6 := by omega
      have n56 : ¬ q + 5 = q + 6 := by omega
      have pl : LC (putI h (q + 6) M.length (iN (u' + kE1 len b))) q := l.ly Ly.pI
      have pp : HP (putI h (q + 6) M.length (iN (u' + kE1 len b))) q ps := by
        refine ⟨(if_neg (fun z => by omega)).trans p.1, fun i y hy => ?_⟩
        obtain ⟨a1, a2, a3⟩ := p.2 i y hy
        exact ⟨(if_neg (fun z => by omega)).trans a1, (if_neg (fun z => by omega)).trans a2, (if_neg (fun z => by omega)).trans a3⟩
      obtain ⟨h2, g1, g2, g3, g4⟩ := ih (k + 1) (M ++ [u' + kE1 len b]) (u' + kP1 len b) (decide (b ≠ 1)) (putI h (q + 6) M.length (iN (u' + kE1 len b))) n d2 (by omega) pl pp hM.put (by rw [List.length_append]; simp only [List.length_cons, List.length_nil]; omega) (fun _ => by simp) (by omega) (by omega)
      refine ⟨h2, ?_, Ly.pI.tr g2, g3, fun x j hx => (g4 x j hx).trans (if_neg (fun z => hx z.1))⟩
      have hml : ((M ++ [u' + kE1 len b]).length : Int) = (M.length : Int) + 1 := by rw [List.length_append]; rfl
      have hk1 : ((k + 1 : Nat) : Int) = (k : Int) + 1 := rfl
      rw [hml, hk1] at g1
      unfold f_X4_breakLines_L52 f_X4_breakLines_L97
      simp only [lt_is, h1, r11, o6, r8, o3, w3, hv, chk_true, iN_sub, Int.add_sub_cancel, w6, hvM, clM, cl, e1, iN_add, okr_pIi, qR_pI, r9, o4, qW_pI, w4, r10, o5, w5, qI_pI, n46, n56, false_and, if_false, e2, e3]
      by_cases b1 : b = 1
      · rw [if_neg (by unfold kL1; rw [if_pos b1]; decide)]
        rw [show oN (decide (b ≠ 1)) = 0 by rw [b1]; rfl] at g1
        exact g1
      · rw [if_pos (by unfold kL1; rw [if_neg b1]; rfl)]
        rw [show oN (decide (b ≠ 1)) = 1 by unfold oN; rw [if_pos (by simpa using b1)]] at g1
        exact g1
    have new : ∃ h2, f_X4_breakLines_L46 (f_X4_breakLines_L18 n) h q (iN room) (iN L.length) (iN k) = some (h2, .inr (iN (S_brk room r (L ++ [0 + kE1 len b]) (0 + kP1 len b) (decide (b ≠ 1))).length)) ∧ Ly h h2 ∧ HL h2 q (S_brk room r (L ++ [0 + kE1 len b]) (0 + kP1 len b) (decide (b ≠ 1))) ∧ ∀ x j, x ≠ q + 6 → qI h2 x j = qI h x j := by
      unfold f_X4_breakLines_L46
      rw [iN_add]
      exact core L 0 hl hL (by omega)
    show ∃ h2, f_X4_breakLines_B18 _ _ _ _ _ _ _ _ = _ ∧ _
    unfold f_X4_breakLines_B18
    rw [chk_pos h1, p.1, if_neg hle]
    rw [S_brk]
    cases o with
    | false =>
      rw [if_pos (show iN (oN false) = 0 by decide), if_pos (Or.inl rfl)]
      exact new
    | true =>
      rw [if_neg (show ¬ iN (oN true) = 0 by decide), r8, chk_pos o3, w3, chk_pos hv, cl, e1, iN_add]
      by_cases hf : room < u + kE1 len b
      · rw [if_neg (fun z => by have := (iN_le ⟨by omega, by omega⟩ ⟨by omega, by omega⟩).mp z; omega), if_pos (Or.inr hf)]
        exact new
      · rw [if_pos ((iN_le ⟨by omega, by omega⟩ ⟨by omega, by omega⟩).mpr (by omega)), if_neg (fun z => z.elim (fun z => by cases z) hf)]
        have hne : L ≠ [] := ho rfl
        have hpos : 0 < L.length := List.length_pos_iff.mpr hne
        have c := core L.dropLast u hl.pre (by rw [List.length_dropLast]; omega) hu
        rw [List.length_dropLast, show ((L.length - 1 : Nat) : Int) + 1 = (L.length : Int) by omega] at c
        exact c
