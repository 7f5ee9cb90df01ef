/-! ===== STAGE B: settle as a whole ===== -/
def indOf (kd : Int) : Int := if kd = 2 then 2 else 0
/-- what a content's change may touch: the indent, the pieces, the heights -/
def Fs (h h' : Hp) (q : Nat) : Prop := ∀ x j, ¬ (x = q ∧ (j = 4 ∨ j = 7)) → (x < q + 3 ∨ q + 5 < x) → x ≠ q + 7 → qI h' x j = qI h x j
theorem g_settle {h : Hp} {q : Nat} {kd : Int} (hkr : 0 ≤ kd ∧ kd ≤ 5) {ws : List (Int × Int)} (hws : ∀ w ∈ ws, 0 ≤ w.2 ∧ w.2 ≤ 3) (hlen : ws.length ≤ 12) (l : LC h q) (w : HW h q ws) (h0 : qI h q 0 = iN kd) :
    ∃ h2, f_X4_settle h q = some (h2, .inr ()) ∧ Ly h h2 ∧ HP h2 q (S_pcs kd ws 0) ∧ qI h2 q 4 = iN (indOf kd) ∧ (∀ k, k < 37 → qI h2 (q + 7) k = iN (-1)) ∧ Fs h h2 q := by
  have main : ∀ d : Int, ∃ h2, f_X4_settle_L14 h q (iN d) q = some (h2, .inr ()) ∧ Ly h h2 ∧ HP h2 q (S_pcs kd ws 0) ∧ qI h2 q 4 = iN d ∧ (∀ k, k < 37 → qI h2 (q + 7) k = iN (-1)) ∧ Fs h h2 q := by
    intro d
    have y4 : Ly h (putI (putI h q 4 (iN d)) q 7 (iN 0)) := Ly.pI.tr Ly.pI
    have f4 : ∀ x j, ¬ (x = q ∧ (j = 4 ∨ j = 7)) → qI (putI (putI h q 4 (iN d)) q 7 (iN 0)) x j = qI h x j := fun x j z1 => by
      rw [qI_pI, if_neg (fun z => z1 ⟨z.1, Or.inr z.2⟩), qI_pI, if_neg (fun z => z1 ⟨z.1, Or.inl z.2⟩)]
    have w4 : HW (putI (putI h q 4 (iN d)) q 7 (iN 0)) q ws := by
      refine ⟨(f4 q 3 (by omega)).trans w.1, fun k p hk => ?_⟩
      obtain ⟨a, b⟩ := w.2 k p hk
      exact ⟨(f4 (q + 1) k (by omega)).trans a, (f4 (q + 2) k (by omega)).trans b⟩
    have p4 : HP (putI (putI h q 4 (iN d)) q 7 (iN 0)) q [] := ⟨if_pos ⟨rfl, rfl⟩, fun k p hk => by cases hk⟩
    obtain ⟨h2, g1, g2, g3, g4⟩ := g_settleL hkr hws hlen ws 0 0 [] (putI (putI h q 4 (iN d)) q 7 (iN 0)) 2000 rfl (by omega) (l.ly y4) w4 p4 (by simp only [List.length_nil]; omega) ((f4 q 0 (by omega)).trans h0) (by omega)
    refine ⟨fillN h2 (q + 7) (iN (-1)) 37, ?_, (y4.tr g2).tr Ly.fill, ?_, ?_, ?_, ?_⟩
    · unfold f_X4_settle_L14
      rw [chk_pos l.1, lt_is, chk_pos (show okr (putI h q 4 (iN d)) q 4 from l.1), lt_is]
      exact g1
    · rw [List.nil_append] at g3
      refine ⟨(if_neg (fun z => by omega)).trans g3.1, fun k p hk => ?_⟩
      obtain ⟨a, b, c⟩ := g3.2 k p hk
      exact ⟨(if_neg (fun z => by omega)).trans a, (if_neg (fun z => by omega)).trans b, (if_neg (fun z => by omega)).trans c⟩
    · have e : qI h2 q 4 = iN d := (g4 q 4 (by omega) (by omega)).trans ((if_neg (fun z => by omega)).trans (if_pos ⟨rfl, rfl⟩))
      exact (if_neg (fun z => by omega)).trans e
    · intro k hk
      exact if_pos ⟨rfl, hk⟩
    · intro x j z1 z2 z3
      exact ((if_neg (fun z => z3 z.1)).trans (g4 x j (fun z => z1 ⟨z.1, Or.inr z.2⟩) z2)).trans (f4 x j z1)
  unfold f_X4_settle indOf
  rw [chk_pos l.1, h0]
  by_cases hk : kd = 2
  · rw [if_pos (by rw [hk]), if_pos hk]
    exact main 2
  · rw [if_neg (fun z => hk ((iN_eq ⟨by omega, by omega⟩ ⟨by omega, by omega⟩).mp z)), if_neg hk]
    exact main 0
