/-! ===== STAGE B: where errors lie ===== -/
def Eb {α : Type} (p L : Int) (r : Int ⊕ α) : Prop := ∀ e, r = .inl e → p ≤ e ∧ e ≤ L
theorem Eb.ok {α : Type} {p L : Int} {x : α} : Eb p L (.inr x) := fun e h => by cases h
theorem Eb.er {α : Type} {p L e : Int} (h1 : p ≤ e) (h2 : e ≤ L) : Eb p L (.inl e : Int ⊕ α) := fun x h => by
  have := Sum.inl.inj h
  omega
theorem Eb.mo {α : Type} {p q L : Int} {r : Int ⊕ α} (h : p ≤ q) (a : Eb q L r) : Eb p L r := fun e x => by
  have := a e x
  omega
theorem Eb.bd {α : Type} {p L : Int} {r : PR} {k : Int → Int → Int ⊕ α} (a : Eb p L r) (b : ∀ q v, r = .inr (q, v) → Eb p L (k q v)) : Eb p L (bdP r k) := by
  match r, a, b with
  | .inl e, a, b => exact Eb.er (a e rfl).1 (a e rfl).2
  | .inr (q, v), a, b => exact b q v rfl
theorem Eb.it {α : Type} {p L : Int} {c : Prop} [Decidable c] {a b : Int ⊕ α} (h1 : c → Eb p L a) (h2 : ¬ c → Eb p L b) : Eb p L (if c then a else b) := by
  by_cases h : c
  · rw [if_pos h]
    exact h1 h
  · rw [if_neg h]
    exact h2 h
theorem dgP_e {B : Int → Int} {L p : Int} (hp : p ≤ L) : Eb p L (dgP B L p) := Eb.it (fun _ => Eb.ok) (fun _ => Eb.er (by omega) (by omega))
theorem nuE_e {lo hi p q v L : Int} (hp : p ≤ L) : Eb p L (nuE lo hi p q v) := Eb.it (fun _ => Eb.ok) (fun _ => Eb.er (by omega) (by omega))
theorem nuP_e {lo hi : Int} {B : Int → Int} {L p : Int} (hp : p ≤ L) : Eb p L (nuP lo hi B L p) := Eb.bd (dgP_e hp) (fun _ _ _ => Eb.it (fun _ => nuE_e hp) (fun _ => nuE_e hp))
theorem skP_e {c : Int} {B : Int → Int} {L p : Int} (hp : p ≤ L) : Eb p L (skP c B L p) := Eb.it (fun _ => Eb.ok) (fun _ => Eb.er (by omega) (by omega))
theorem coP_e {K : Int} {B : Int → Int} {L p : Int} (hp : p ≤ L) : Eb p L (coP K B L p) := Eb.bd (dgP_e hp) (fun _ _ _ => Eb.it (fun _ => Eb.ok) (fun _ => Eb.er (by omega) (by omega)))
theorem spP_e {K c : Int} {B : Int → Int} {L p : Int} (hp : p ≤ L) : Eb p L (spP K c B L p) := Eb.bd (dgP_e hp) (fun _ _ _ => Eb.it (fun _ => Eb.ok) (fun _ => Eb.er (by omega) (by omega)))
theorem kdP_e {B : Int → Int} {L p : Int} (hp : p ≤ L) : Eb p L (kdP B L p) := Eb.it (fun _ => Eb.ok) (fun _ => Eb.er (by omega) (by omega))
theorem woP_e {B : Int → Int} {L p : Int} (hp : p ≤ L) : Eb p L (woP B L p) := Eb.it (fun _ => Eb.er (by omega) (by omega)) (fun _ => Eb.ok)
theorem wdP_e {B : Int → Int} {L : Int} : ∀ (k : Nat) (p : Int) (b : Int → Int), p ≤ L → Eb p L (wdP B L k p b)
  | 0, p, b, hp => Eb.bd (woP_e hp) (fun q n e => by
    have := woP_bd hp e
    exact Eb.bd (Eb.mo (by omega) (skP_e (by omega))) (fun _ _ _ => Eb.ok))
  | k + 1, p, b, hp => Eb.bd (woP_e hp) (fun q n e => by
    have := woP_bd hp e
    refine Eb.it (fun y => ?_) (fun _ => Eb.bd (Eb.mo (by omega) (skP_e (by omega))) (fun _ _ _ => Eb.ok))
    have h2 : q < L := by
      apply Classical.byContradiction
      intro z
      have e2 : chT B L q = -1 := if_neg z
      rw [e2] at y
      exact absurd y (by decide)
    exact Eb.mo (by omega) (wdP_e k (q + 1) _ (by omega)))
theorem efP_e {c sp p L : Int} {r : Int ⊕ (Int × (Int → Int))} (h : Eb p L r) : Eb p L (efP c sp r) := by
  match r, h with
  | .inl e, h => exact Eb.er (h e rfl).1 (h e rfl).2
  | .inr (q, b), h => exact Eb.ok
theorem meP_e {lo hi w : Int} {B : Int → Int} {L p : Int} (hp : p ≤ L) : Eb p L (meP lo hi w B L p) := Eb.bd (skP_e hp) (fun q v e => by
  have := skP_bd (by decide) e
  refine Eb.bd (Eb.mo (by omega) (nuP_e (by omega))) (fun q2 v2 e2 => ?_)
  have := nuP_bd e2
  exact Eb.bd (Eb.mo (by omega) (skP_e (by omega))) (fun _ _ _ => Eb.ok))
theorem seP_e {c v : Int} {B : Int → Int} {L p : Int} (hp : p ≤ L) : Eb p L (seP c v B L p) := Eb.bd (skP_e hp) (fun _ _ _ => Eb.ok)
theorem clP_e {K : Int} {B : Int → Int} {L p : Int} (hp : p ≤ L) : Eb p L (clP K B L p) := Eb.bd (coP_e hp) (fun q v e => by
  have := coP_bd e
  refine Eb.bd (Eb.mo (by omega) (skP_e (by omega))) (fun q2 v2 e2 => ?_)
  have := skP_bd (by decide) e2
  have l := (leP_ok (B := B) (L := L) (p := q2) (by omega)).1
  refine Eb.it (fun _ => Eb.bd (Eb.mo (by omega) (nuP_e (by omega))) (fun q3 v3 e3 => ?_)) (fun _ => Eb.it (fun _ => Eb.bd (Eb.mo (by omega) (nuP_e (by omega))) (fun q3 v3 e3 => ?_)) (fun _ => Eb.it (fun _ => Eb.mo (by omega) (seP_e (by omega))) (fun _ => Eb.er (by omega) (by omega))))
  · have := nuP_bd e3
    exact Eb.mo (by omega) (seP_e (by omega))
  · have := nuP_bd e3
    exact Eb.mo (by omega) (seP_e (by omega)))
theorem rwP_e {B : Int → Int} {L p : Int} (hp : p ≤ L) : Eb p L (rwP B L p) := Eb.bd (skP_e hp) (fun _ _ _ => Eb.ok)
theorem cePt_e {K : Int} {B : Int → Int} {L p : Int} (hp : p ≤ L) : Eb p L (cePt K B L p) := Eb.bd (coP_e hp) (fun q v e => by
  have := coP_bd e
  refine Eb.bd (Eb.mo (by omega) (spP_e (by omega))) (fun q2 v2 e2 => ?_)
  have := spP_bd e2
  refine Eb.bd (Eb.mo (by omega) (kdP_e (by omega))) (fun q3 v3 e3 => ?_)
  have := kdP_bd e3
  refine Eb.bd (Eb.mo (by omega) (skP_e (by omega))) (fun q4 v4 e4 => ?_)
  have := skP_bd (by decide) e4
  exact efP_e (Eb.mo (by omega) (wdP_e 11 q4 _ (by omega))))
theorem piPt_e {K : Int} {B : Int → Int} {L p : Int} (hp : p ≤ L) : Eb p L (piPt K B L p) := Eb.bd (coP_e hp) (fun q v e => by
  have := coP_bd e
  refine Eb.bd (Eb.mo (by omega) (spP_e (by omega))) (fun q2 v2 e2 => ?_)
  have := spP_bd e2
  refine Eb.bd (Eb.mo (by omega) (skP_e (by omega))) (fun q3 v3 e3 => ?_)
  have := skP_bd (by decide) e3
  refine Eb.bd (Eb.mo (by omega) (nuP_e (by omega))) (fun q4 v4 e4 => ?_)
  have := nuP_bd e4
  refine Eb.bd (Eb.mo (by omega) (skP_e (by omega))) (fun q5 v5 e5 => ?_)
  have := skP_bd (by decide) e5
  refine Eb.bd (Eb.mo (by omega) (nuP_e (by omega))) (fun q6 v6 e6 => ?_)
  have := nuP_bd e6
  exact Eb.bd (Eb.mo (by omega) (skP_e (by omega))) (fun _ _ _ => Eb.ok))
theorem cmP_e {K : Int} {B : Int → Int} {L p : Int} (hp : p ≤ L) : Eb p L (cmP K B L p) := by
  have l := (leP_ok (B := B) (L := L) (p := p) hp).1
  unfold cmP
  exact Eb.it (fun _ => Eb.mo l.1 (meP_e l.2)) (fun _ => Eb.it (fun _ => Eb.mo l.1 (meP_e l.2)) (fun _ => Eb.it (fun _ => Eb.mo l.1 (meP_e l.2)) (fun _ => Eb.it (fun _ => Eb.mo l.1 (clP_e l.2)) (fun _ => Eb.it (fun _ => Eb.mo l.1 (rwP_e l.2)) (fun _ => Eb.it (fun _ => Eb.mo l.1 (cePt_e l.2)) (fun _ => Eb.it (fun _ => Eb.mo l.1 (piPt_e l.2)) (fun _ => Eb.er (by omega) (by omega))))))))
theorem cmds_bd {K : Int} {B : Int → Int} {L : Int} (tx : TXo B L) (hK : 1 ≤ K ∧ K ≤ 4) : ∀ (f : Nat) (p : Int), L - p < f → 0 ≤ p → p ≤ L → (∀ e, cmds K B L f p = .inl e → p ≤ e ∧ e ≤ L) ∧ ∀ l, cmds K B L f p = .inr l → ∀ x ∈ l, p ≤ x.1
  | 0, p, h, h0, h1 => by omega
  | f + 1, p, h, h0, h1 => by
    have hL := tx.1
    match er : cmP K B L p with
    | .inl e2 =>
      rw [cmds_e er]
      refine ⟨fun e h => ?_, fun l h => by cases h⟩
      have := Sum.inl.inj h
      have := cmP_e h1 e2 er
      omega
    | .inr (q, ef) =>
      have qb := (cmP_ok tx hK ⟨h0, h1⟩ er).1
      by_cases y : q < L
      · have i := cmds_bd tx hK f q (by omega) (by omega) (by omega)
        rw [cmds_n er y]
        revert i
        generalize cmds K B L f q = r
        intro i
        match r, i with
        | .inl e2, i =>
          refine ⟨fun e h => ?_, fun l h => by cases h⟩
          have := Sum.inl.inj h
          have := i.1 e2 rfl
          omega
        | .inr l2, i =>
          refine ⟨fun e h => (by cases h), fun l h x hx => ?_⟩
          rw [← Sum.inr.inj h] at hx
          cases hx with
          | head => exact Int.le_refl p
          | tail _ hx =>
            have := i.2 l2 rfl x hx
            omega
      · rw [cmds_l er y]
        refine ⟨fun e h => (by cases h), fun l h x hx => ?_⟩
        rw [← Sum.inr.inj h] at hx
        cases hx with
        | head => exact Int.le_refl p
        | tail _ hx => cases hx
/-! ===== STAGE B: execute ===== -/
def exX2 (h1 : Hp) (D : Dt) (k : Int) (r : Int ⊕ (Int → Int)) (y : Option (Rs Int32)) : Prop := match r with
  | .inl e => ROp h1 (D.1, exR D.2 e) y 2 0
  | .inr n => ROp h1 (n, exR D.2 (-1)) y 0 k
def exX (h1 : Hp) (D : Dt) (r : Int ⊕ List (Int × Eff)) (y : Option (Rs Int32)) : Prop := match r with
  | .inl e => ROp h1 (D.1, exR D.2 e) y 1 0
  | .inr l => exX2 h1 D l.length (exF l D.1) y
theorem FZ.e0 {h h2 : Hp} (f : FZ pE9 h h2) : FZ (fun x _ => 632 ≤ x) h h2 := f.mo (fun x j z => by unfold pE9 at z; omega)
theorem r_exec {D : Dt} (wd : WD D) {h1 : Hp} (s1 : SL h1) (r1 : RI h1 D) : exX h1 D (exA (rB D.2) (rL D.2) D.1) (f_X9_execute h1 632) := by
  have tx : TXo (rB D.2) (rL D.2) := ⟨wd.2.2.1, wd.2.2.2.2.1⟩
  have hL := tx.1
  generalize e0 : putI (putI (putI h1 632 0 (iN 0)) 632 7 (iN (-1))) 632 14 (iN 0) = h4
  have f4 : FZ (fun x j => x = 632 ∧ (j = 0 ∨ j = 7 ∨ j = 14)) h1 h4 := by
    rw [← e0]
    exact ((FZ.pI ⟨rfl, Or.inl rfl⟩).tr (FZ.pI ⟨rfl, Or.inr (Or.inl rfl)⟩)).tr (FZ.pI ⟨rfl, Or.inr (Or.inr rfl)⟩)
  have g4 : FZ pE9 h1 h4 := f4.mo (fun x j z => by unfold pE9; omega)
  have s4 := s1.ly f4.1
  have rm4 : RM h4 632 D.1 := ⟨s4.m, r1.1.fz f4 (fun j => by omega)⟩
  have q7 : qI h4 632 7 = iN (-1) := by
    rw [← e0]
    exact (rd_nk (by decide)).trans rd_eq
  have q14 : qI h4 632 14 = iN 0 := by
    rw [← e0]
    exact rd_eq
  have q6 : qI h4 632 6 = iN (rL D.2) := (f4.2 _ _ (by omega)).trans r1.2.2.2.1.1
  have A6 : AR h4 636 (rL D.2) (rB D.2) := r1.2.2.2.1.2.2.fz f4 (fun j => by omega)
  have z0 : Z9 (putI (putI h4 632 13 (iN 0)) 632 12 (iN 0)) D.1 (rB D.2) (rL D.2) 0 0 := Z9.go rm4 q6 A6 q7 q14
  have g5 : FZ pE9 h1 (putI (putI h4 632 13 (iN 0)) 632 12 (iN 0)) := g4.tr ((FZ.pI (by unfold pE9; omega)).tr (FZ.pI (by unfold pE9; omega)))
  have run0 := r_run0 tx wd.1 61 _ 0 0 1999 (by omega) (by omega) (by omega) (by omega) (by omega) (by omega) z0
  unfold f_X9_execute
  rw [chk_pos s1.m.1, lt_is, lt_is, lt_is, e0, r_cmds s4.m rfl (Or.inl rfl) q7 q14]
  unfold exA
  match ea : cmds (D.1 0) (rB D.2) (rL D.2) 61 0 with
  | .inl e =>
    rw [ea] at run0
    obtain ⟨eb, h2, v, e2, f2, e7⟩ := run0
    have s2 : LM h2 632 := (s1.m.ly g5.1).ly f2.1
    have o : Of9 h2 e := ⟨s2, eb, e7⟩
    have o' : LM (putI h2 632 6 (iN 0)) 632 := s2.ly Ly.pI
    show ROp h1 (D.1, exR D.2 e) _ 1 0
    rw [e2, bnd_ret, chk_pos o.1.1, g_isOff1 o, bnd_ret, if_neg (by decide), chk_pos o.1.1, lt_is]
    unfold f_X9_fails
    rw [chk_pos o'.1, lt_is, bnd_ret]
    have g6 : FZ pE9 h1 (putI (putI h2 632 6 (iN 0)) 632 0 (iN 1)) := (g5.tr (f2.s9.u9.e9)).tr ((FZ.pI (by unfold pE9; omega)).tr (FZ.pI (by unfold pE9; omega)))
    refine ⟨_, 0, rfl, fun z => by omega, rd_eq, g6.e0, ?_, r1.2.ex g6 ((rd_nk (by decide)).trans rd_eq) ((rd_nk (by decide)).trans ((rd_nk (by decide)).trans e7))⟩
    exact ((((z0.1.1.2).fz f2 (fun j => by unfold p9; omega)).ne (by decide)).ne (by decide))
  | .inr l =>
    rw [ea] at run0
    obtain ⟨h2, e2, f2, e7⟩ := run0
    have g7 := g5.tr (f2.s9.u9.e9)
    have s2 : LM h2 632 := s1.m.ly g7.1
    have rm2 : RM h2 632 D.1 := ⟨s2, z0.1.1.2.fz f2 (fun j => by unfold p9; omega)⟩
    obtain ⟨h3, e3, f3, A3⟩ := g_keeps rm2
    have g8 : FZ pE9 h1 h3 := g7.tr (f3.mo (fun x j z => by unfold pE9; omega))
    have s3 : LM h3 632 := s1.m.ly g8.1
    have rm3 : RM h3 632 D.1 := ⟨s3, rm2.2.fz f3 (fun j => by omega)⟩
    have k7 : qI h3 632 7 = iN (-1) := (f3.2 _ _ (by omega)).trans e7
    have f23 : ∀ x j, ¬ (x = 635 ∨ p9 x j ∨ (x = 632 ∧ (j = 13 ∨ j = 12))) → qI h3 x j = qI h4 x j := fun x j y => by
      rw [f3.2 x j (fun z => y (Or.inl z)), f2.2 x j (fun z => y (Or.inr (Or.inl z))), qI_pI, if_neg (fun z => y (Or.inr (Or.inr (by omega)))), qI_pI, if_neg (fun z => y (Or.inr (Or.inr (by omega))))]
    unfold p9 at f23
    have k14 : qI h3 632 14 = iN 0 := (f23 _ _ (by omega)).trans q14
    have z1 : Z9 (putI (putI h3 632 13 (iN 1)) 632 12 (iN 0)) D.1 (rB D.2) (rL D.2) 0 1 := Z9.go rm3 ((f23 _ _ (by omega)).trans q6) (fun k h0 h1 => (f23 _ _ (by omega)).trans (A6 k h0 h1)) k7 k14
    have g9 : FZ pE9 h1 (putI (putI h3 632 13 (iN 1)) 632 12 (iN 0)) := g8.tr ((FZ.pI (by unfold pE9; omega)).tr (FZ.pI (by unfold pE9; omega)))
    have run1 := r_run1 tx 61 _ 0 0 1999 D.1 l (by omega) (by omega) (by omega) (by omega) (by omega) (by omega) wd.1 rfl z1 ea
    rw [e2, bnd_ret, chk_pos s2.1, g_isOff0 s2 e7, bnd_ret, if_pos (show iN 0 = 0 from rfl), chk_pos s2.1, e3, bnd_ret, chk_pos s3.1, show f_X9_commands h3 632 (iN 1) = _ from r_cmds s3 rfl (Or.inr rfl) k7 k14]
    show exX2 h1 D l.length (exF l D.1) _
    match ef : exF l D.1 with
    | .inl e =>
      rw [ef] at run1
      obtain ⟨eb, h5, v, e5, f5, k57, k514⟩ := run1
      have g10 : FZ pE9 h1 (putI h5 632 6 (iN 0)) := (g9.tr f5.e9).tr (FZ.pI (by unfold pE9; omega))
      have s5 : LM h5 632 := s1.m.ly (g9.tr f5.e9).1
      have s6 : LM (putI h5 632 6 (iN 0)) 632 := s5.ly Ly.pI
      have A6 : AR (putI h5 632 6 (iN 0)) 635 506 D.1 := (((A3.ne (by decide)).ne (by decide)).fz f5 (fun j => by unfold p9u p9; omega)).ne (by decide)
      obtain ⟨h6, e6, f6, r6⟩ := g_goesBack A6 (p := fun k => (qI (putI h5 632 6 (iN 0)) 633 k.toNat).toInt) ⟨s6, fun k k0 k1 => (Int32.ofInt_toInt _).symm⟩
      have g11 : FZ pE9 h1 (putI h6 632 0 (iN 2)) := (g10.tr (f6.mo (fun x j z => by unfold pE9; omega))).tr (FZ.pI (by unfold pE9; omega))
      show ROp h1 (D.1, exR D.2 e) _ 2 0
      rw [e5, bnd_ret, chk_pos s5.1, lt_is, if_neg (by rw [rd_nk (by decide), k514]; decide), e6, bnd_ret]
      unfold f_X9_fails
      rw [chk_pos r6.1.1, chk_pos r6.1.1, lt_is, bnd_ret]
      exact ⟨_, 0, rfl, fun z => by omega, rd_eq, g11.e0, r6.2.ne (by decide), r1.2.ex g11 ((rd_nk (by decide)).trans ((f6.2 _ _ (by omega)).trans rd_eq)) ((rd_nk (by decide)).trans ((f6.2 _ _ (by omega)).trans ((rd_nk (by decide)).trans k57)))⟩
    | .inr n =>
      rw [ef] at run1
      obtain ⟨h5, e5, f5, r5, k57, k514⟩ := run1
      have g10 : FZ pE9 h1 (putI h5 632 6 (iN 0)) := (g9.tr f5.u9.e9).tr (FZ.pI (by unfold pE9; omega))
      show ROp h1 (n, exR D.2 (-1)) _ 0 l.length
      rw [e5, bnd_ret, chk_pos r5.1.1, lt_is, if_pos (show qI (putI h5 632 6 (iN 0)) 632 14 = 0 from (rd_nk (by decide)).trans k514), Int.zero_add]
      refine ⟨_, _, rfl, fun _ => rfl, ?_, g10.e0, r5.2.ne (by decide), r1.2.ex g10 rd_eq ((rd_nk (by decide)).trans k57)⟩
      have f53 : ∀ x j, ¬ p9s x j → qI h5 x j = qI (putI (putI h3 632 13 (iN 1)) 632 12 (iN 0)) x j := f5.2
      unfold p9s p9 at f53
      rw [rd_nk (by decide), f53 _ _ (by omega), rd_nk (by decide), rd_nk (by decide), f23 _ _ (by omega), ← e0, rd_nk (by decide), rd_nk (by decide), rd_eq]
