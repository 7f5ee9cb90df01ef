/-! ===== STAGE B: a content's minimum and maximum ===== -/
def S_min (kd wd : Int) (ps : List (Int × Int)) : Int := if kd ≤ 3 then indOf kd + S_mx ps 0 else if kd = 4 then (wd + 1).tdiv 2 else wd
def S_max (kd wd : Int) (ps : List (Int × Int)) : Int := if kd ≤ 3 then indOf kd + S_my ps 0 0 else wd
theorem g_minimum {q : Nat} {ps : List (Int × Int)} (hps : ∀ p ∈ ps, (0 ≤ p.1 ∧ p.1 ≤ 200) ∧ 0 ≤ p.2 ∧ p.2 ≤ 3) (hlen : ps.length ≤ 12) {h : Hp} {kd wd : Int} (hkr : 0 ≤ kd ∧ kd ≤ 5) (hwd : 1 ≤ wd ∧ wd ≤ 20) (l : LC h q) (p : HP h q ps) (h0 : qI h q 0 = iN kd) (h1 : qI h q 1 = iN wd) (h4 : qI h q 4 = iN (indOf kd)) :
    f_X4_minimum h q = some (h, .inr (iN (S_min kd wd ps))) := by
  unfold f_X4_minimum S_min
  rw [chk_pos l.1, g_isText l h0 hkr, bnd_ret]
  by_cases h3 : kd ≤ 3
  · rw [if_pos h3, if_pos h3, if_neg (show ¬ iN 1 = 0 by decide)]
    exact g_minL hps hlen l p h4 ps 0 0 2000 rfl (by omega) (by omega) (by omega)
  · rw [if_neg h3, if_neg h3, if_pos (show iN 0 = 0 from rfl), chk_pos l.1, h0, h1]
    by_cases hk : kd = 4
    · rw [if_pos (by rw [hk]), if_pos hk, chk_pos (show ¬ iN 2 = 0 by decide), iN_add, iN_div ⟨by omega, by omega⟩ ⟨by omega, by omega⟩ (by omega) (by omega)]
    · rw [if_neg (fun z => hk ((iN_eq ⟨by omega, by omega⟩ ⟨by omega, by omega⟩).mp z)), if_neg hk]
theorem g_maximum {q : Nat} {ps : List (Int × Int)} (hps : ∀ p ∈ ps, (0 ≤ p.1 ∧ p.1 ≤ 200) ∧ 0 ≤ p.2 ∧ p.2 ≤ 3) (hlen : ps.length ≤ 12) {h : Hp} {kd wd : Int} (hkr : 0 ≤ kd ∧ kd ≤ 5) (l : LC h q) (p : HP h q ps) (h0 : qI h q 0 = iN kd) (h1 : qI h q 1 = iN wd) (h4 : qI h q 4 = iN (indOf kd)) :
    f_X4_maximum h q = some (h, .inr (iN (S_max kd wd ps))) := by
  unfold f_X4_maximum S_max
  rw [chk_pos l.1, g_isText l h0 hkr, bnd_ret]
  by_cases h3 : kd ≤ 3
  · rw [if_pos h3, if_pos h3, if_neg (show ¬ iN 1 = 0 by decide)]
    exact g_maxL hps hlen l p h4 ps 0 0 0 2000 rfl (by omega) (by omega) (by omega) (by omega)
  · rw [if_neg h3, if_neg h3, if_pos (show iN 0 = 0 from rfl), chk_pos l.1, h1]
