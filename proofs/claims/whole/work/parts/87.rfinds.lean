/-! ===== STAGE B: the reference's finds, isBest, highAt ===== -/
def pX (M x j : Nat) : Prop := (x = M ∧ (j = 18 ∨ j = 20 ∨ j = 32)) ∨ (M + 9 ≤ x ∧ x ≤ M + 23)
/-- all scratch but the table of heights -/
def pY (M x j : Nat) : Prop := pX M x j ∧ x ≠ M + 19
theorem RM.x {h h2 : Hp} {M : Nat} {m : Int → Int} (r : RM h M m) (F : FZ (pX M) h h2) : RM h2 M m := r.fz F (fun j z => by unfold pX at z; omega)
theorem pY.x {M : Nat} {h h2 : Hp} (f : FZ (pY M) h h2) : FZ (pX M) h h2 := f.mo (fun x j z => z.1)
theorem FZ.vy {M : Nat} {h h2 : Hp} (f : FZ (pV M) h h2) : FZ (pY M) h h2 := f.mo (fun x j z => by unfold pV pB at z; unfold pY pX; omega)
theorem FZ.vx {M : Nat} {h h2 : Hp} (f : FZ (pV M) h h2) : FZ (pX M) h h2 := f.mo (fun x j z => by unfold pV pB at z; unfold pX; omega)
theorem FZ.bx {M : Nat} {h h2 : Hp} (f : FZ (pB M) h h2) : FZ (pX M) h h2 := f.mo (fun x j z => by unfold pB at z; unfold pX; omega)
theorem FZ.rx {M : Nat} {h h2 : Hp} (f : FZ (pR M) h h2) : FZ (pX M) h h2 := f.mo (fun x j z => by unfold pR pB at z; unfold pX; omega)
theorem lays_bs {m : Int → Int} (w : WF m) : foB (taH m) (1000000, fun _ => 0) (lays m (m 0).toNat 0 (usF m) (fun _ => 0)) = bsC m 1000000 (m 1) := by
  have h0 := w.1.1
  have lfb := lfF_bd (m := m) (m 0).toNat
  have es : usF m = slF m (m 1) + sumF (ndF m) 0 (m 0).toNat := by unfold slF usF; omega
  unfold bsC
  by_cases c : slF m (m 1) = 0 ∨ (0 < slF m (m 1) ∧ 0 ≤ lfF m (m 0).toNat)
  · rw [if_pos c, es, lays_C w (m 0).toNat 0 (slF m (m 1)) _ (by omega) (by omega) (by omega) (by omega)]
  · rw [if_neg c]
    by_cases n : slF m (m 1) < 0
    · rw [lays_lt (m 0).toNat 0 _ _ (by omega)]
      rfl
    · rw [lays_fx (m 0).toNat 0 _ _ (fun x x1 x2 => lfb.2.2.2 x (by omega) (by omega) x1) (by omega)]
      rfl
theorem g_finds {h : Hp} {M : Nat} {m : Int → Int} (w : WF m) (r : RM h M m) (ht : HT h M m (m 5)) : ∃ h2, f_X9_finds h M = some (h2, .inr (bN ((bsC m 1000000 (m 1)).1 < 1000000))) ∧ FZ (pY M) h h2 ∧ BR h2 M m (bsC m 1000000 (m 1)) := by
  have h0 := w.1.1
  have h1 := w.1.2.1
  have ub := us_bd w
  obtain ⟨h3, e3, f3, v3⟩ := g_guessesAll w r
  have r3 := r.v f3
  have f4 : FZ (fun x j => x = M ∧ j = 32) h3 (putI h3 M 32 (iN (-1))) := FZ.pI ⟨rfl, rfl⟩
  have r4 := r3.fz f4 (fun j z => by omega)
  have v4 := v3.fz f4 (fun a j z z2 => by omega)
  have ht4 : HT (putI h3 M 32 (iN (-1))) M m (m 5) := (ht.fz f3 (fun j z => by unfold pV pB at z; omega)).fz f4 (fun j z => by omega)
  have us9 : f_X9_usable (putI h3 M 32 (iN (-1))) M = some (putI h3 M 32 (iN (-1)), .inr (iN (usF m))) := g_usable9 r4
  obtain ⟨h5, e5, f5, b5⟩ := g_looks w (M := M) (m 0).toNat 8 (by omega) _ 0 (usF m) (fun _ => 0) (1000000, fun _ => 0) (by omega) (by omega) (by omega) (by rw [show (0 : Int).toNat = 0 from rfl, sumF]; omega) r4 v4 ht4 (fun x x1 x2 => by omega) (fun x x1 x2 => by omega) (Or.inl ⟨rd_eq, rfl⟩)
  rw [lays_bs w] at b5
  have l5 := r4.1.ly f5.1
  have fY : FZ (pY M) h h5 := (f3.vy.tr (f4.mo (fun x j z => by unfold pY pX; omega))).tr (f5.mo (fun x j z => by unfold pL at z; unfold pY pX; omega))
  refine ⟨h5, ?_, fY, b5⟩
  unfold f_X9_finds bN
  rw [chk_pos r.1.1, e3, bnd_ret, chk_pos r3.1.1, lt_is, us9, bnd_ret, chk_pos r4.1.1, e5, bnd_ret, chk_pos l5.1]
  rcases b5 with ⟨b1, b2⟩ | ⟨b1, b2, b3⟩
  · rw [b1, if_pos rfl, if_neg (by omega)]
  · rw [b1, if_neg (neN (by omega) (by omega) (by omega) (by omega) (by omega)), if_pos (by omega)]
theorem lh_M {m : Int → Int} {x : Int} : lhF m 1000000 x = if (bsC m 1000000 x).1 < 1000000 then (bsC m 1000000 x).1 else -1 := rfl
theorem g_isBest {h : Hp} {M : Nat} {m : Int → Int} (w : WF m) (r : RM h M m) : ∃ h2, f_X9_isBest h M = some (h2, .inr (bN (0 ≤ lhF m 1000000 (m 1)))) ∧ FZ (pX M) h h2 ∧ HT h2 M m (m 5) ∧ (0 ≤ lhF m 1000000 (m 1) → qI h2 M 32 = iN (lhF m 1000000 (m 1)) ∧ AR h2 (M + 22) (m 0) (bsC m 1000000 (m 1)).2) := by
  obtain ⟨h3, e3, f3, t3⟩ := g_reckons w r
  have r3 := r.fz f3 (fun j z => by unfold pR pB at z; omega)
  obtain ⟨h2, e2, f2, b2⟩ := g_finds w r3 t3
  have lb := lh_bd w (L := 1000000) (x := m 1) w.1.2.1.2
  have eb : bN ((bsC m 1000000 (m 1)).1 < 1000000) = bN (0 ≤ lhF m 1000000 (m 1)) := by
    unfold bN
    by_cases q : (bsC m 1000000 (m 1)).1 < 1000000
    · rw [if_pos q, if_pos (lb.2.2.1.mpr q)]
    · rw [if_neg q, if_neg (fun z => q (lb.2.2.1.mp z))]
  refine ⟨h2, ?_, f3.rx.tr (pY.x f2), t3.fz f2 (fun j z => z.2 rfl), fun q => ?_⟩
  · unfold f_X9_isBest
    rw [chk_pos r.1.1, e3, bnd_ret, chk_pos r3.1.1, e2, bnd_ret, ck_b, eb]
  · have q2 := lb.2.2.1.mp q
    rcases b2 with ⟨b1, b2⟩ | ⟨b1, b2, b3⟩
    · omega
    · exact ⟨by rw [b1, lh_M, if_pos q2], b3⟩
theorem HT.e1 {h : Hp} {M : Nat} {m n : Int → Int} (e : E1 m n) {k : Int} (t : HT h M m k) : HT h M n k := fun i x h1 h2 h3 h4 => by
  rw [e.mn h1] at h3
  rw [e.hc h1]
  exact t i x h1 h2 h3 h4
theorem g_highAt {h : Hp} {M : Nat} {m : Int → Int} (w : WF m) {x : Int} (hx : 8 ≤ x ∧ x ≤ 36) (r : RM h M m) (ht : HT h M m (m 5)) : ∃ h2, f_X9_highAt h M (iN x) = some (h2, .inr (iN (lhF m 1000000 x))) ∧ FZ (pX M) h h2 ∧ HT h2 M m (m 5) := by
  have e : E1 m (up m 1 x) := E1.u1
  have w' := E1.wf w hx
  have h1 := w.1.2.1
  have c1 : (iN (1 : Int)).toNatClampNeg = (1 : Int).toNat := iN_cl (by omega) (by omega)
  have f1 : FZ (fun a j => a = M + 1 ∧ j = 1) h (putI h (M + 1) (1 : Int).toNat (iN x)) := FZ.pI ⟨rfl, rfl⟩
  have r1 : RM (putI h (M + 1) (1 : Int).toNat (iN x)) M (up m 1 x) := ⟨r.1.ly f1.1, r.2.put (by omega)⟩
  have t1 : HT (putI h (M + 1) (1 : Int).toNat (iN x)) M (up m 1 x) (up m 1 x 5) := by
    rw [e 5 (by omega)]
    exact (ht.fz f1 (fun j z => by omega)).e1 e
  obtain ⟨h3, e3, f3, b3⟩ := g_finds w' r1 t1
  rw [up_eq, e.bs w] at e3 b3
  have l3 := r1.1.ly f3.1
  have rold : qI h (M + 1) (1 : Int).toNat = iN (m 1) := r.2 1 (by omega) (by omega)
  have f4 : FZ (fun a j => a = M + 1 ∧ j = 1) h3 (putI h3 (M + 1) (1 : Int).toNat (iN (m 1))) := FZ.pI ⟨rfl, rfl⟩
  have l4 := l3.ly f4.1
  have fX : FZ (pX M) h (putI h3 (M + 1) (1 : Int).toNat (iN (m 1))) := by
    refine ⟨(f1.1.tr f3.1).tr f4.1, fun a j z => ?_⟩
    by_cases q : a = M + 1 ∧ j = (1 : Int).toNat
    · rw [q.1, q.2, rd_eq, rold]
    · rw [qI_pI, if_neg q, f3.2 a j (fun z2 => z z2.1), qI_pI, if_neg q]
  refine ⟨_, ?_, fX, ht.fz ⟨fX.1, fun a j z => ?_⟩ (P := fun a j => pX M a j ∧ a ≠ M + 19) (fun j z => z.2 rfl)⟩
  · have lb := lh_bd w (L := 1000000) (x := x) hx.2
    unfold f_X9_highAt
    rw [chk_pos r.1.1, r.1.r1, chk_pos r.1.o1, r.1.w1, ck_in (by omega) (by omega) (by omega), c1, lt_is, e3, bnd_ret, chk_pos l3.1, l3.r1, chk_pos l3.o1, l3.w1, ck_in (by omega) (by omega) (by omega), rold, lt_is]
    by_cases q : (bsC m 1000000 x).1 < 1000000
    · rw [if_neg (fun z => bN0.mp z q), lh_M, if_pos q]
      rcases b3 with ⟨b1, b2⟩ | ⟨b1, b2, -⟩
      · omega
      · rw [rd_ne (by omega), b1]
    · rw [if_pos (bN0.mpr q), lh_M, if_neg q]
  · by_cases q : a = M + 1 ∧ j = (1 : Int).toNat
    · rw [q.1, q.2, rd_eq, rold]
    · rw [qI_pI, if_neg q, f3.2 a j (fun z2 => z ⟨z2.1, z2.2⟩), qI_pI, if_neg q]
