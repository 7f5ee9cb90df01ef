/-! ===== STAGE B: settle ===== -/
def HP (h : Hp) (q : Nat) (ps : List (Int × Int)) : Prop := qI h q 7 = iN ps.length ∧ ∀ (k : Nat) (p : Int × Int), ps[k]? = some p → qI h (q + 3) k = iN (kE1 p.1 p.2) ∧ qI h (q + 4) k = iN (kP1 p.1 p.2) ∧ qI h (q + 5) k = iN (kL1 p.2)
def HW (h : Hp) (q : Nat) (ws : List (Int × Int)) : Prop := qI h q 3 = iN ws.length ∧ ∀ (k : Nat) (p : Int × Int), ws[k]? = some p → qI h (q + 1) k = iN p.1 ∧ qI h (q + 2) k = iN p.2
/-- only the pieces of q differ -/
def Fq (h h' : Hp) (q : Nat) : Prop := ∀ x j, ¬ (x = q ∧ j = 7) → (x < q + 3 ∨ q + 5 < x) → qI h' x j = qI h x j
theorem Fq.rf {h : Hp} {q : Nat} : Fq h h q := fun _ _ _ _ => rfl
theorem Fq.tr {h h1 h2 : Hp} {q : Nat} (a : Fq h h1 q) (b : Fq h1 h2 q) : Fq h h2 q := fun x j h1 h2 => (b x j h1 h2).trans (a x j h1 h2)
theorem Fq.kp {h : Hp} {q n : Nat} {len b : Int} : Fq h (kpH h q n len b) q := fun x j h1 h2 => by
  unfold kpH
  simp only [qI_pI]
  rw [if_neg h1, if_neg (by omega), if_neg (by omega), if_neg (by omega)]
theorem Ly.kp {h : Hp} {q n : Nat} {len b : Int} : Ly h (kpH h q n len b) := ⟨rfl, rfl, rfl, rfl, rfl, rfl, rfl⟩
theorem HW.fq {h h' : Hp} {q : Nat} {ws : List (Int × Int)} (f : Fq h h' q) (w : HW h q ws) : HW h' q ws := by
  refine ⟨(f q 3 (by omega) (by omega)).trans w.1, fun k p hk => ?_⟩
  obtain ⟨a, b⟩ := w.2 k p hk
  exact ⟨(f (q + 1) k (by omega) (by omega)).trans a, (f (q + 2) k (by omega) (by omega)).trans b⟩
theorem HP.kp {h : Hp} {q : Nat} {len b : Int} {ps : List (Int × Int)} (p : HP h q ps) : HP (kpH h q ps.length len b) q (ps ++ [(len, b)]) := by
  have n3 : ¬ q + 3 = q := by omega
  have n4 : ¬ q + 4 = q := by omega
  have n5 : ¬ q + 5 = q := by omega
  have n34 : ¬ q + 3 = q + 4 := by omega
  have n35 : ¬ q + 3 = q + 5 := by omega
  have n45 : ¬ q + 4 = q + 5 := by omega
  have n43 : ¬ q + 4 = q + 3 := by omega
  have n53 : ¬ q + 5 = q + 3 := by omega
  have n54 : ¬ q + 5 = q + 4 := by omega
  refine ⟨?_, fun k z hz => ?_⟩
  · unfold kpH
    rw [List.length_append, qI_pI, if_pos ⟨rfl, rfl⟩]
    rfl
  · unfold kpH
    simp only [qI_pI, n3, n4, n5, n34, n35, n45, n43, n53, n54, false_and, if_false, true_and]
    by_cases hk : k = ps.length
    · subst hk
      rw [List.getElem?_append_right (Nat.le_refl _), Nat.sub_self] at hz
      cases hz
      exact ⟨if_pos rfl, if_pos rfl, if_pos rfl⟩
    · have hk2 : k < ps.length := by
        have := (List.getElem?_eq_some_iff.mp hz).1
        rw [List.length_append] at this
        simp only [List.length_cons, List.length_nil] at this
        omega
      rw [List.getElem?_append_left hk2] at hz
      obtain ⟨a, b, c⟩ := p.2 k z hz
      exact ⟨(if_neg hk).trans a, (if_neg hk).trans b, (if_neg hk).trans c⟩
/-- the pieces of words: length and what follows -/
def S_pcs (kd : Int) : List (Int × Int) → Int → List (Int × Int)
  | [], _ => []
  | (l, b) :: r, acc => if r = [] then [(acc + l, 1)] else if b = 2 ∨ kd = 3 ∧ b ≠ 1 then S_pcs kd r (acc + l + (if b = 3 then 0 else 1)) else (acc + l, b) :: S_pcs kd r 0
theorem drop_at {α : Type} {ws r : List α} {k : Nat} {x : α} (h : ws.drop k = x :: r) : ws[k]? = some x ∧ ws.drop (k + 1) = r ∧ k + 1 + r.length = ws.length := by
  have h1 : (ws.drop k)[0]? = some x := by rw [h]; rfl
  rw [List.getElem?_drop] at h1
  have h2 : (ws.drop k).drop 1 = r := by rw [h]; rfl
  rw [List.drop_drop] at h2
  have h3 := congrArg List.length h
  rw [List.length_drop, List.length_cons] at h3
  exact ⟨h1, h2, by omega⟩
theorem g_settleL {q : Nat} {kd : Int} (hkr : 0 ≤ kd ∧ kd ≤ 5) {ws : List (Int × Int)} (hws : ∀ w ∈ ws, 0 ≤ w.2 ∧ w.2 ≤ 3) (hlen : ws.length ≤ 12) : ∀ (r : List (Int × Int)) (k : Nat) (acc : Int) (ps : List (Int × Int)) (h : Hp) (n : Nat),
    ws.drop k = r → k + r.length = ws.length → LC h q → HW h q ws → HP h q ps → ps.length + r.length ≤ 12 → qI h q 0 = iN kd → r.length < n →
    ∃ h2, f_X4_settle_L26 n h q (iN acc) (iN k) = some (fillN h2 (q + 7) (iN (-1)) 37, .inr ()) ∧ Ly h h2 ∧ HP h2 q (ps ++ S_pcs kd r acc) ∧ Fq h h2 q := by
  intro r
  induction r with
  | nil =>
    intro k acc ps h n hd hk l w p hp h0 hn
    obtain ⟨n, rfl⟩ : ∃ m, n = m + 1 := ⟨n - 1, by omega⟩
    have hkk : k = ws.length := by simpa using hk
    refine ⟨h, ?_, Ly.rf, by unfold S_pcs; rw [List.append_nil]; exact p, Fq.rf⟩
    show f_X4_settle_B26 _ _ _ _ _ = _
    unfold f_X4_settle_B26
    obtain ⟨h1, ⟨r5, r6, r8, r9, r10, r11, r12⟩, ⟨o1, o2, o3, o4, o5, o6, o7⟩, ⟨w1, w2, w3, w4, w5, w6, w7⟩⟩ := l
    rw [chk_pos h1, w.1, if_pos ((iN_le ⟨by omega, by omega⟩ ⟨by omega, by omega⟩).mpr (by omega)), r12, chk_pos o7, g_fill o7 (by omega), bnd_ret, w7]
  | cons x r ih =>
    intro k acc ps h n hd hk l w p hp h0 hn
    obtain ⟨len, b⟩ := x
    obtain ⟨n, rfl⟩ : ∃ m, n = m + 1 := ⟨n - 1, by omega⟩
    obtain ⟨d1, d2, d3⟩ := drop_at hd
    simp only [List.length_cons] at hk hp hn
    have hb : 0 ≤ b ∧ b ≤ 3 := hws (len, b) (List.mem_of_getElem? d1)
    obtain ⟨e1, e2⟩ := w.2 k _ d1
    have hv : vp_in (iN k) 12 := vp_inN (by omega) (by omega) (by omega)
    have cl : (iN (k : Int)).toNatClampNeg = k := iN_clN (by omega)
    have hle : ¬ iN (ws.length : Int) ≤ iN (k : Int) := fun z => by have := (iN_le ⟨by omega, by omega⟩ ⟨by omega, by omega⟩).mp z; omega
    obtain ⟨h1, ⟨r5, r6, r8, r9, r10, r11, r12⟩, ⟨o1, o2, o3, o4, o5, o6, o7⟩, ⟨w1, w2, w3, w4, w5, w6, w7⟩⟩ := id l
    have hstep : f_X4_settle_L26 (n + 1) h q (iN acc) (iN k) = f_X4_settle_B26 (f_X4_settle_L26 n) h q (iN acc) (iN k) := rfl
    have hfin : ∀ (h3 : Hp) (acc3 : Int) (ps3 : List (Int × Int)), Ly h h3 → Fq h h3 q → HP h3 q ps3 → ps3.length + r.length ≤ 12 → ps3 ++ S_pcs kd r acc3 = ps ++ S_pcs kd ((len, b) :: r) acc →
        ∃ h2, f_X4_settle_L101 (f_X4_settle_L26 n) h3 q (iN acc3) (iN k) = some (fillN h2 (q + 7) (iN (-1)) 37, .inr ()) ∧ Ly h h2 ∧ HP h2 q (ps ++ S_pcs kd ((len, b) :: r) acc) ∧ Fq h h2 q := by
      intro h3 acc3 ps3 y1 y2 y3 y4 y5
      obtain ⟨h2, g1, g2, g3, g4⟩ := ih (k + 1) acc3 ps3 h3 n d2 (by omega) (l.ly y1) (w.fq y2) y3 y4 ((y2 q 0 (by omega) (by omega)).trans h0) (by omega)
      refine ⟨h2, ?_, y1.tr g2, by rw [← y5]; exact g3, y2.tr g4⟩
      unfold f_X4_settle_L101
      rw [iN_add]
      exact g1
    rw [hstep]
    unfold f_X4_settle_B26
    rw [chk_pos h1, w.1, if_neg hle, r5, chk_pos o1, w1, chk_pos hv, r6, chk_pos o2, w2, chk_pos hv, cl, e1, e2, iN_add, iN_sub]
    by_cases hr : r = []
    · subst hr
      rw [if_pos (by congr 1; simp only [List.length_nil] at d3; omega), g_keep l (by omega) p.1 (by omega), bnd_ret]
      refine hfin _ _ (ps ++ [(acc + len, 1)]) Ly.kp Fq.kp p.kp (by rw [List.length_append]; simp only [List.length_cons, List.length_nil] at hp ⊢; omega) ?_
      simp [S_pcs]
    · have hr1 : 0 < r.length := List.length_pos_iff.mpr hr
      rw [if_neg (fun z => by have := (iN_eq ⟨by omega, by omega⟩ ⟨by omega, by omega⟩).mp z; omega), g_joins l hb h0 hkr, bnd_ret]
      by_cases hj : b = 2 ∨ kd = 3 ∧ b ≠ 1
      · rw [if_pos hj, if_neg (by decide)]
        have hs : S_pcs kd ((len, b) :: r) acc = S_pcs kd r (acc + len + (if b = 3 then 0 else 1)) := by
          rw [S_pcs, if_neg hr, if_pos hj]
        have e3 : (iN b = iN 3) ↔ b = 3 := iN_eq ⟨by omega, by omega⟩ ⟨by omega, by omega⟩
        unfold f_X4_settle_L88
        by_cases b3 : b = 3
        · rw [if_pos (e3.mpr b3), iN_add]
          exact hfin h _ ps Ly.rf Fq.rf p (by omega) (by rw [hs, if_pos b3])
        · rw [if_neg (fun z => b3 (e3.mp z)), iN_add]
          exact hfin h _ ps Ly.rf Fq.rf p (by omega) (by rw [hs, if_neg b3])
      · rw [if_neg hj, if_pos (by decide), chk_pos h1, g_keep l (by omega) p.1 hb, bnd_ret]
        refine hfin _ 0 (ps ++ [(acc + len, b)]) Ly.kp Fq.kp p.kp (by rw [List.length_append]; simp only [List.length_cons, List.length_nil]; omega) ?_
        rw [S_pcs, if_neg hr, if_neg hj, List.append_assoc]
        rfl
