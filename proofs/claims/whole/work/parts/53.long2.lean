/-! ===== STAGE B: longOf as a whole; it rises ===== -/
def S_lo (ps : List (Int × Int)) (d k : Nat) : Int := (if (pcAt ps (k + d)).2 = 3 then 1 else 0) + S_lp ps d k
theorem g_longOf {M : Nat} {ps : List (Int × Int)} (hps : ∀ p ∈ ps, (0 ≤ p.1 ∧ p.1 ≤ 200) ∧ 0 ≤ p.2 ∧ p.2 ≤ 3) (hlen : ps.length ≤ 12) {h : Hp} (l : LM h M) (p : RP h M ps) {d k : Nat} (hto : k + d < ps.length) : f_X9_longOf h M (iN k) (iN (k + d : Nat)) = some (h, .inr (iN (S_lo ps d k))) := by
  obtain ⟨b1, b2, b3⟩ := l.2 (17, 10, 20, 12) (by decide)
  simp only at b1 b2 b3
  obtain ⟨e1, e2⟩ := p.2 (k + d) _ (pcAt_get hto)
  obtain ⟨q1, q2⟩ := hps _ (List.mem_of_getElem? (pcAt_get hto))
  unfold f_X9_longOf S_lo
  rw [chk_pos l.1, b1, chk_pos b2, b3, chk_pos (vp_inN (by omega) (by omega) (by omega)), iN_clN (by omega), e2]
  unfold f_X9_longOf_L15
  by_cases h3 : (pcAt ps (k + d)).2 = 3
  · rw [if_pos (by rw [h3]), if_pos h3]
    exact g_longL hps hlen l p hto d k 1 2000 rfl (by omega)
  · rw [if_neg (fun z => h3 ((iN_eq ⟨by omega, by omega⟩ ⟨by omega, by omega⟩).mp z)), if_neg h3]
    exact g_longL hps hlen l p hto d k 0 2000 rfl (by omega)
/-- one piece more -/
theorem S_lp_s (ps : List (Int × Int)) : ∀ d k : Nat, S_lp ps (d + 1) k = S_lp ps d k + (if (pcAt ps (k + d)).2 = 0 then 1 else 0) + (pcAt ps (k + d + 1)).1
  | 0, k => by
    show kP1 _ _ + S_lp ps 0 (k + 1) = _
    unfold kP1 S_lp
    rfl
  | d + 1, k => by
    show kP1 _ _ + S_lp ps (d + 1) (k + 1) = kP1 _ _ + S_lp ps d (k + 1) + _ + _
    rw [S_lp_s ps d (k + 1), show k + 1 + d = k + (d + 1) by omega]
    omega
theorem S_lo_up {ps : List (Int × Int)} (hps : ∀ p ∈ ps, 1 ≤ p.1) {d k : Nat} (h : k + d + 1 < ps.length) : S_lo ps d k ≤ S_lo ps (d + 1) k := by
  have h1 := hps _ (List.mem_of_getElem? (pcAt_get h))
  unfold S_lo
  rw [S_lp_s, show k + (d + 1) = k + d + 1 by omega]
  split <;> split <;> split <;> omega
