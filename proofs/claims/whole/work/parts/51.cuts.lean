/-! ===== STAGE B: the reference's pieces ===== -/
def RP (h : Hp) (M : Nat) (ps : List (Int × Int)) : Prop := qI h M 18 = iN ps.length ∧ ∀ (k : Nat) (p : Int × Int), ps[k]? = some p → qI h (M + 9) k = iN p.1 ∧ qI h (M + 10) k = iN p.2
def Fc (h h' : Hp) (M : Nat) : Prop := ∀ x j, ¬ (x = M ∧ j = 18) → x ≠ M + 9 → x ≠ M + 10 → qI h' x j = qI h x j
theorem Fc.rf {h : Hp} {M : Nat} : Fc h h M := fun _ _ _ _ _ => rfl
theorem Fc.tr {h h1 h2 : Hp} {M : Nat} (a : Fc h h1 M) (b : Fc h1 h2 M) : Fc h h2 M := fun x j z1 z2 z3 => (b x j z1 z2 z3).trans (a x j z1 z2 z3)
def kcH (h : Hp) (M n : Nat) (a b : Int) : Hp := putI (putI (putI h (M + 9) n (iN a)) (M + 10) n (iN b)) M 18 (iN (n + 1))
theorem Ly.kc {h : Hp} {M n : Nat} {a b : Int} : Ly h (kcH h M n a b) := ⟨rfl, rfl, rfl, rfl, rfl, rfl, rfl⟩
theorem Fc.kc {h : Hp} {M n : Nat} {a b : Int} : Fc h (kcH h M n a b) M := fun x j z1 z2 z3 => by
  unfold kcH
  simp only [qI_pI]
  rw [if_neg z1, if_neg (fun z => z3 z.1), if_neg (fun z => z2 z.1)]
theorem RW.fc {h h' : Hp} {M : Nat} {i kd : Int} {ws : List (Int × Int)} (f : Fc h h' M) (w : RW h M i kd ws) : RW h' M i kd ws := by
  have e : ∀ j, qI h' (M + 1) j = qI h (M + 1) j := fun j => f (M + 1) j (by omega) (by omega) (by omega)
  exact ⟨(e _).trans w.1, (e _).trans w.2.1, fun k p hk => ⟨(e _).trans (w.2.2 k p hk).1, (e _).trans (w.2.2 k p hk).2⟩⟩
theorem RP.kc {h : Hp} {M : Nat} {a b : Int} {ps : List (Int × Int)} (p : RP h M ps) : RP (kcH h M ps.length a b) M (ps ++ [(a, b)]) := by
  have n9 : ¬ M + 9 = M := by omega
  have n10 : ¬ M + 10 = M := by omega
  have n910 : ¬ M + 9 = M + 10 := by omega
  have n109 : ¬ M + 10 = M + 9 := by omega
  refine ⟨?_, fun k z hz => ?_⟩
  · unfold kcH
    rw [List.length_append, qI_pI, if_pos ⟨rfl, rfl⟩]
    rfl
  · unfold kcH
    simp only [qI_pI, n9, n10, n910, n109, false_and, if_false, true_and]
    by_cases hk : k = ps.length
    · subst hk
      rw [List.getElem?_append_right (Nat.le_refl _), Nat.sub_self] at hz
      cases hz
      exact ⟨if_pos rfl, if_pos rfl⟩
    · have hk2 : k < ps.length := by
        have := (List.getElem?_eq_some_iff.mp hz).1
        rw [List.length_append] at this
        simp only [List.length_cons, List.length_nil] at this
        omega
      rw [List.getElem?_append_left hk2] at hz
      obtain ⟨x, y⟩ := p.2 k z hz
      exact ⟨(if_neg hk).trans x, (if_neg hk).trans y⟩
theorem g_cutE {K : Hp → Nat → Int32 → Int32 → Int32 → Option (Rs Unit)} {h : Hp} {M n : Nat} (l : LM h M) (hn : n < 12) (hp : qI h M 18 = iN n) {i k b z len acc last : Int} (hl : last = 0 ∨ last = 1) :
    f_X9_cuts_L109 K h M (iN i) (iN k) (iN b) (iN last) (iN 0) (iN z) (iN len) (iN acc) = f_X9_cuts_L159 K (kcH h M n (acc + (len + z)) (if last = 0 then b else 1)) M (iN i) (iN 0) (iN k) := by
  obtain ⟨a1, a2, a3⟩ := l.2 (16, 9, 20, 12) (by decide)
  obtain ⟨b1, b2, b3⟩ := l.2 (17, 10, 20, 12) (by decide)
  simp only at a1 a2 a3 b1 b2 b3
  have h1 := l.1
  have hv : vp_in (iN n) 12 := vp_inN (by omega) (by omega) (by omega)
  have cl : (iN (n : Int)).toNatClampNeg = n := iN_clN (by omega)
  have n9 : ¬ M = M + 9 := by omega
  have n10 : ¬ M = M + 10 := by omega
  have z0 : iN 0 = 0 := rfl
  unfold f_X9_cuts_L109 f_X9_cuts_L146 kcH
  rcases hl with rfl | rfl
  · simp only [z0, if_true, lt_is, h1, a1, a2, a3, b1, b2, b3, chk_true, hp, hv, cl, iN_add, okr_pIi, qR_pI, qW_pI, qI_pI, n9, n10, false_and, if_false]
  · have z1 : ¬ iN 1 = 0 := by decide
    have z2 : ¬ (1 : Int) = 0 := by decide
    simp only [z0, z1, z2, if_true, lt_is, h1, a1, a2, a3, b1, b2, b3, chk_true, hp, hv, cl, iN_add, okr_pIi, qR_pI, qW_pI, qI_pI, n9, n10, false_and, if_false]
theorem g_cutsL {M : Nat} {i kd : Int} (hi : 0 ≤ i ∧ i < 16) (hkr : 0 ≤ kd ∧ kd ≤ 5) {ws : List (Int × Int)} (hws : ∀ w ∈ ws, 0 ≤ w.2 ∧ w.2 ≤ 3) (hlen : ws.length ≤ 12) : ∀ (r : List (Int × Int)) (k : Nat) (acc : Int) (ps : List (Int × Int)) (h : Hp) (n : Nat),
    ws.drop k = r → k + r.length = ws.length → LM h M → RW h M i kd ws → RP h M ps → ps.length + r.length ≤ 12 → r.length < n →
    ∃ h2, f_X9_cuts_L9 n h M (iN i) (iN acc) (iN k) = some (h2, .inr ()) ∧ Ly h h2 ∧ RP h2 M (ps ++ S_pcs kd r acc) ∧ Fc h h2 M := by
  intro r
  induction r with
  | nil =>
    intro k acc ps h n hd hk l w p hp hn
    obtain ⟨n, rfl⟩ : ∃ m, n = m + 1 := ⟨n - 1, by omega⟩
    have hkk : k = ws.length := by simpa using hk
    refine ⟨h, ?_, Ly.rf, by unfold S_pcs; rw [List.append_nil]; exact p, Fc.rf⟩
    show f_X9_cuts_B9 _ _ _ _ _ _ = _
    unfold f_X9_cuts_B9
    rw [chk_pos l.1, g_of l hi (by omega), bnd_ret, w.2.1, if_pos ((iN_le ⟨by omega, by omega⟩ ⟨by omega, by omega⟩).mpr (by omega))]
  | cons x r ih =>
    intro k acc ps h n hd hk l w p hp hn
    obtain ⟨len, b⟩ := x
    obtain ⟨n, rfl⟩ : ∃ m, n = m + 1 := ⟨n - 1, by omega⟩
    obtain ⟨d1, d2, d3⟩ := drop_at hd
    simp only [List.length_cons] at hk hp hn
    have hb : 0 ≤ b ∧ b ≤ 3 := hws (len, b) (List.mem_of_getElem? d1)
    obtain ⟨e1, e2⟩ := w.2.2 k _ d1
    simp only at e1 e2
    have rb : InR b := ⟨by omega, by omega⟩
    have hstep : f_X9_cuts_L9 (n + 1) h M (iN i) (iN acc) (iN k) = f_X9_cuts_B9 (f_X9_cuts_L9 n) h M (iN i) (iN acc) (iN k) := rfl
    have hfin : ∀ (h3 : Hp) (acc3 : Int) (ps3 : List (Int × Int)), Ly h h3 → Fc h h3 M → RP h3 M ps3 → ps3.length + r.length ≤ 12 → ps3 ++ S_pcs kd r acc3 = ps ++ S_pcs kd ((len, b) :: r) acc →
        ∃ h2, f_X9_cuts_L159 (f_X9_cuts_L9 n) h3 M (iN i) (iN acc3) (iN k) = some (h2, .inr ()) ∧ Ly h h2 ∧ RP h2 M (ps ++ S_pcs kd ((len, b) :: r) acc) ∧ Fc h h2 M := by
      intro h3 acc3 ps3 y1 y2 y3 y4 y5
      obtain ⟨h2, g1, g2, g3, g4⟩ := ih (k + 1) acc3 ps3 h3 n d2 (by omega) (l.ly y1) (w.fc y2) y3 y4 (by omega)
      refine ⟨h2, ?_, y1.tr g2, by rw [← y5]; exact g3, y2.tr g4⟩
      unfold f_X9_cuts_L159
      rw [iN_add]
      exact g1
    have g7 : f_X9_of h M (iN i) (iN (7 + k)) = some (h, .inr (iN len)) := by rw [g_of l hi (by omega), e1]
    have g3 : f_X9_of h M (iN i) (iN 3) = some (h, .inr (iN kd)) := by rw [g_of l hi (by omega), w.1]
    -- no more pieces go on
    have stop : ∀ last : Int, (last = 0 ∨ last = 1) → S_pcs kd ((len, b) :: r) acc = (acc + (len + 0), if last = 0 then b else 1) :: S_pcs kd r 0 →
        ∃ h2, f_X9_cuts_L80 (f_X9_cuts_L9 n) h M (iN i) (iN acc) (iN k) (iN b) (iN last) = some (h2, .inr ()) ∧ Ly h h2 ∧ RP h2 M (ps ++ S_pcs kd ((len, b) :: r) acc) ∧ Fc h h2 M := by
      intro last hl hs
      unfold f_X9_cuts_L80 f_X9_cuts_L81
      rw [chk_pos l.1, iN_add, g7, bnd_ret, if_pos (show iN 0 = 0 from rfl)]
      unfold f_X9_cuts_L108
      rw [g_cutE l (by omega) p.1 hl]
      refine hfin _ 0 (ps ++ [(acc + (len + 0), if last = 0 then b else 1)]) Ly.kc Fc.kc p.kc (by rw [List.length_append]; simp only [List.length_cons, List.length_nil]; omega) ?_
      rw [hs, List.append_assoc]
      rfl
    rw [hstep]
    unfold f_X9_cuts_B9
    rw [chk_pos l.1, g_of l hi (by omega), bnd_ret, w.2.1, if_neg (fun z => by have := (iN_le ⟨by omega, by omega⟩ ⟨by omega, by omega⟩).mp z; omega), chk_pos l.1, iN_add, g_of l hi (by omega), bnd_ret, e2, chk_pos l.1, g_of l hi (by omega), bnd_ret, w.2.1, iN_sub]
    by_cases hr : r = []
    · subst hr
      rw [if_pos (by congr 1; simp only [List.length_nil] at d3; omega)]
      unfold f_X9_cuts_L47
      rw [if_neg (show ¬ iN 1 = 0 by decide)]
      exact stop 1 (Or.inr rfl) (by simp [S_pcs])
    · have hr1 : 0 < r.length := List.length_pos_iff.mpr hr
      rw [if_neg (fun z => by have := (iN_eq ⟨by omega, by omega⟩ ⟨by omega, by omega⟩).mp z; omega)]
      unfold f_X9_cuts_L47
      rw [if_pos (show iN 0 = 0 from rfl)]
      have goes : b = 2 ∨ kd = 3 ∧ b ≠ 1 → ∃ h2, f_X9_cuts_L76 (f_X9_cuts_L9 n) h M (iN i) (iN acc) (iN k) (iN b) (iN 0) = some (h2, .inr ()) ∧ Ly h h2 ∧ RP h2 M (ps ++ S_pcs kd ((len, b) :: r) acc) ∧ Fc h h2 M := by
        intro hj
        have hs : S_pcs kd ((len, b) :: r) acc = S_pcs kd r (acc + len + (if b = 3 then 0 else 1)) := by rw [S_pcs, if_neg hr, if_pos hj]
        unfold f_X9_cuts_L76 f_X9_cuts_L81
        rw [chk_pos l.1, iN_add, g7, bnd_ret, if_neg (show ¬ iN 1 = 0 by decide)]
        by_cases b3 : b = 3
        · rw [if_pos (by rw [b3])]
          unfold f_X9_cuts_L108 f_X9_cuts_L109
          rw [if_neg (show ¬ iN 1 = 0 by decide), iN_add, iN_add]
          exact hfin h _ ps Ly.rf Fc.rf p (by omega) (by rw [hs, if_pos b3]; congr 2; omega)
        · rw [if_neg (fun z => b3 ((iN_eq rb ⟨by omega, by omega⟩).mp z))]
          unfold f_X9_cuts_L109
          rw [if_neg (show ¬ iN 1 = 0 by decide), iN_add, iN_add]
          exact hfin h _ ps Ly.rf Fc.rf p (by omega) (by rw [hs, if_neg b3]; congr 2; omega)
      have stop0 : ¬ (b = 2 ∨ kd = 3 ∧ b ≠ 1) → ∃ h2, f_X9_cuts_L80 (f_X9_cuts_L9 n) h M (iN i) (iN acc) (iN k) (iN b) (iN 0) = some (h2, .inr ()) ∧ Ly h h2 ∧ RP h2 M (ps ++ S_pcs kd ((len, b) :: r) acc) ∧ Fc h h2 M := fun hj =>
        stop 0 (Or.inl rfl) (by rw [S_pcs, if_neg hr, if_neg hj, if_pos rfl, Int.add_zero])
      by_cases h2 : b = 2
      · rw [if_pos (by rw [h2])]
        exact goes (Or.inl h2)
      · rw [if_neg (fun z => h2 ((iN_eq rb ⟨by omega, by omega⟩).mp z)), chk_pos l.1, g3, bnd_ret]
        by_cases h3 : kd = 3
        · rw [if_pos (by rw [h3])]
          by_cases h1 : b = 1
          · rw [if_pos (by rw [h1])]
            exact stop0 (fun z => z.elim h2 (fun z => z.2 h1))
          · rw [if_neg (fun z => h1 ((iN_eq rb ⟨by omega, by omega⟩).mp z))]
            exact goes (Or.inr ⟨h3, h1⟩)
        · rw [if_neg (fun z => h3 ((iN_eq ⟨by omega, by omega⟩ ⟨by omega, by omega⟩).mp z))]
          exact stop0 (fun z => z.elim h2 (fun z => h3 z.1))
