/-! ===== STAGE B: the class's contents: what they hold, and their questions ===== -/
def pQ (q x _j : Nat) : Prop := x = q + 6 ∨ x = q + 7
def pK (q x _j : Nat) : Prop := q ≤ x ∧ x ≤ q + 7
def HC (h : Hp) (q : Nat) (b : Int → Int) : Prop := (qI h q 0 = iN (b 3) ∧ qI h q 1 = iN (b 5) ∧ qI h q 2 = iN (b 6)) ∧ HW h q (wsB b) ∧ qI h q 4 = iN (indOf (b 3)) ∧ HP h q (psB b) ∧ ∀ k : Nat, k < 37 → qI h (q + 7) k = iN (-1) ∨ qI h (q + 7) k = iN (hB b k)
theorem HC.cg {h h2 : Hp} {q : Nat} {b : Int → Int} (c : HC h q b) (e : ∀ x j, q ≤ x → x ≤ q + 7 → x ≠ q + 6 → qI h2 x j = qI h x j) : HC h2 q b := by
  obtain ⟨⟨c0, c1, c2⟩, ⟨w1, w2⟩, c4, ⟨p1, p2⟩, c7⟩ := c
  refine ⟨⟨?_, ?_, ?_⟩, ⟨?_, fun k p hk => ?_⟩, ?_, ⟨?_, fun k p hk => ?_⟩, fun k hk => ?_⟩
  · rw [e q 0 (by omega) (by omega) (by omega)]; exact c0
  · rw [e q 1 (by omega) (by omega) (by omega)]; exact c1
  · rw [e q 2 (by omega) (by omega) (by omega)]; exact c2
  · rw [e q 3 (by omega) (by omega) (by omega)]; exact w1
  · rw [e (q + 1) k (by omega) (by omega) (by omega), e (q + 2) k (by omega) (by omega) (by omega)]; exact w2 k p hk
  · rw [e q 4 (by omega) (by omega) (by omega)]; exact c4
  · rw [e q 7 (by omega) (by omega) (by omega)]; exact p1
  · rw [e (q + 3) k (by omega) (by omega) (by omega), e (q + 4) k (by omega) (by omega) (by omega), e (q + 5) k (by omega) (by omega) (by omega)]; exact p2 k p hk
  · rw [e (q + 7) k (by omega) (by omega) (by omega)]; exact c7 k hk
theorem HC.fz {P : Nat → Nat → Prop} {h h2 : Hp} {q : Nat} {b : Int → Int} (c : HC h q b) (f : FZ P h h2) (hp : ∀ x j, q ≤ x → x ≤ q + 7 → x ≠ q + 6 → ¬ P x j) : HC h2 q b := c.cg (fun x j h1 h2 h3 => f.2 x j (hp x j h1 h2 h3))
/-- what of a block matters -/
theorem wsB_cg {b b2 : Int → Int} (h4 : b2 4 = b 4) (hk : ∀ k, 0 ≤ k → k < b 4 → b2 (7 + k) = b (7 + k) ∧ b2 (19 + k) = b (19 + k)) : wsB b2 = wsB b := by
  unfold wsB
  rw [h4]
  refine List.map_congr_left (fun k hk2 => ?_)
  have := List.mem_range.mp hk2
  obtain ⟨a, c⟩ := hk k (by omega) (by omega)
  rw [a, c]
theorem HC.bk {h : Hp} {q : Nat} {b b2 : Int → Int} (c : HC h q b) (h3 : b2 3 = b 3) (h4 : b2 4 = b 4) (h5 : b2 5 = b 5) (h6 : b2 6 = b 6) (hk : ∀ k, 0 ≤ k → k < b 4 → b2 (7 + k) = b (7 + k) ∧ b2 (19 + k) = b (19 + k)) : HC h q b2 := by
  have e := wsB_cg h4 hk
  have e2 : psB b2 = psB b := by unfold psB; rw [e, h3]
  have e3 : ∀ x, hB b2 x = hB b x := fun x => by unfold hB lnB; rw [h3, e2, h5, h6]
  unfold HC
  rw [h3, h5, h6, e, e2]
  refine ⟨c.1, c.2.1, c.2.2.1, c.2.2.2.1, fun k hk => ?_⟩
  rw [e3]
  exact c.2.2.2.2 k hk
theorem g_isW {h : Hp} {a b c : Int} (ha : InR a) (hb : InR b) (hc : InR c) : f_X8_isWithin h (iN a) (iN b) (iN c) = some (h, .inr (bN (b ≤ a ∧ a ≤ c))) := by
  rw [g_isWithin]
  unfold bN
  by_cases hh : b ≤ a ∧ a ≤ c
  · rw [if_pos hh, if_pos ⟨(iN_le hb ha).mpr hh.1, (iN_le ha hc).mpr hh.2⟩]
  · rw [if_neg hh, if_neg (fun z => hh ⟨(iN_le hb ha).mp z.1, (iN_le ha hc).mp z.2⟩)]
theorem g_isT {h : Hp} {q : Nat} {b : Int → Int} (l : LC h q) (c : HC h q b) (w : WB b) : f_X4_isText h q = some (h, .inr (bN (b 3 ≤ 3))) := g_isText l c.1.1 w.1
theorem g_minC {h : Hp} {q : Nat} {b : Int → Int} (l : LC h q) (c : HC h q b) (w : WB b) : f_X4_minimum h q = some (h, .inr (iN (mnB b))) := g_minimum (psB_ok w).h2 (psB_ok w).2.1 w.1 w.2.2.1 l c.2.2.2.1 c.1.1 c.1.2.1 c.2.2.1
theorem g_maxC {h : Hp} {q : Nat} {b : Int → Int} (l : LC h q) (c : HC h q b) (w : WB b) : f_X4_maximum h q = some (h, .inr (iN (mxB b))) := g_maximum (psB_ok w).h2 (psB_ok w).2.1 w.1 l c.2.2.2.1 c.1.1 c.1.2.1 c.2.2.1
theorem g_brkC {h : Hp} {q : Nat} {b : Int → Int} (l : LC h q) (c : HC h q b) (w : WB b) {x : Int} (hx : -50000 ≤ x ∧ x ≤ 50000) : ∃ h2, f_X4_breakLines h q (iN x) = some (h2, .inr (iN (lnB b x).length)) ∧ FZ (pQ q) h h2 ∧ HC h2 q b ∧ HL h2 q (lnB b x) := by
  obtain ⟨h2, e, y, hl, f⟩ := g_brk (psB_ok w).h2 (psB_ok w).2.1 (w := x) (by omega) (indOf_bd (b 3)) l c.2.2.2.1 c.2.2.1
  exact ⟨h2, e, ⟨y, fun x j z => f x j (fun z2 => z (Or.inl z2))⟩, c.cg (fun x j _ _ h3 => f x j h3), hl⟩
theorem g_picH {h : Hp} {q : Nat} {b : Int → Int} (l : LC h q) (c : HC h q b) (w : WB b) {x : Int} (hx : 1 ≤ x ∧ x ≤ 50000) (h4 : 4 ≤ b 3) : f_X4_pictureHeight h q (iN x) = some (h, .inr (iN (hB b x))) := by
  have w1 := w.1
  have w3 := w.2.2.1
  have w4 := w.2.2.2.1
  unfold f_X4_pictureHeight f_X4_pictureHeight_L24 hB
  rw [chk_pos l.1, c.1.1, if_neg (show ¬ b 3 ≤ 3 by omega)]
  by_cases h5 : b 3 = 5
  · rw [if_pos (by rw [h5]), chk_pos l.1, c.1.2.2, if_neg (by omega)]
  · rw [if_neg (fun z => h5 ((iN_eqO (by omega) (by omega) (by omega) (by omega)).mp z)), c.1.2.1, if_pos (show b 3 = 4 by omega)]
    unfold picN
    by_cases hw : b 5 ≤ x
    · rw [if_pos ((iN_leO (by omega) (by omega) (by omega) (by omega)).mpr hw), chk_pos l.1, c.1.2.2, if_pos hw]
    · obtain ⟨t1, t2, t3, t4, -⟩ := pic_all (wd := b 5) (x := x) (ht := b 6) (by omega) (by omega) (by omega) (by omega) (by omega)
      rw [if_neg (fun z => hw ((iN_leO (by omega) (by omega) (by omega) (by omega)).mp z)), if_pos ((iN_leO (by omega) (by omega) (by omega) (by omega)).mpr (by omega)), c.1.2.2, chk_pos t1, chk_pos t2, if_neg hw]
      have e : FP.f2i (FP.fmul (FP.fdiv (FP.i2f (iN x)) (FP.i2f (iN (b 5)))) (FP.i2f (iN (b 6)))) = iN (picF (b 5) (b 6) x) := (iN_of _).symm
      rw [e, g_jmax ⟨by omega, by omega⟩ ⟨by omega, by omega⟩]
theorem g_hw65 {h : Hp} {q : Nat} {b : Int → Int} (l : LC h q) (c : HC h q b) {x : Int} {p : Prop} [Decidable p] (hp : p → 0 ≤ x ∧ x ≤ 36) : ∃ h2, f_X4_heightWithin_L65 h q (iN x) (bN p) (iN (hB b x)) = some (h2, .inr (iN (hB b x))) ∧ FZ (pQ q) h h2 ∧ HC h2 q b := by
  unfold f_X4_heightWithin_L65
  by_cases hh : p
  · obtain ⟨h1, ⟨r5, r6, r8, r9, r10, r11, r12⟩, ⟨o1, o2, o3, o4, o5, o6, o7⟩, ⟨w1, w2, w3, w4, w5, w6, w7⟩⟩ := id l
    obtain ⟨x0, x1⟩ := hp hh
    refine ⟨putI h (q + 7) x.toNat (iN (hB b x)), ?_, FZ.pI (Or.inr rfl), ?_⟩
    · rw [if_neg (fun z => bN0.mp z hh), chk_pos h1, r12, chk_pos o7, w7, ck_in x0 (by omega) (by omega), iN_cl x0 (by omega), lt_is]
    · obtain ⟨⟨c0, c1, c2⟩, ⟨d1, d2⟩, c4, ⟨p1, p2⟩, c7⟩ := c
      have ne : ∀ y j, y ≠ q + 7 → qI (putI h (q + 7) x.toNat (iN (hB b x))) y j = qI h y j := fun y j hy => by rw [qI_pI, if_neg (fun z => hy z.1)]
      refine ⟨⟨?_, ?_, ?_⟩, ⟨?_, fun k p hk => ?_⟩, ?_, ⟨?_, fun k p hk => ?_⟩, fun k hk => ?_⟩
      · rw [ne q 0 (by omega)]; exact c0
      · rw [ne q 1 (by omega)]; exact c1
      · rw [ne q 2 (by omega)]; exact c2
      · rw [ne q 3 (by omega)]; exact d1
      · rw [ne (q + 1) k (by omega), ne (q + 2) k (by omega)]; exact d2 k p hk
      · rw [ne q 4 (by omega)]; exact c4
      · rw [ne q 7 (by omega)]; exact p1
      · rw [ne (q + 3) k (by omega), ne (q + 4) k (by omega), ne (q + 5) k (by omega)]; exact p2 k p hk
      · rw [qI_pI]
        by_cases e : k = x.toNat
        · rw [if_pos ⟨rfl, e⟩, e, Int.toNat_of_nonneg x0]; exact Or.inr rfl
        · rw [if_neg (fun z => e z.2)]; exact c7 k hk
  · exact ⟨h, by rw [if_pos (bN0.mpr hh)], FZ.rf, c⟩
theorem g_hw29 {h : Hp} {q : Nat} {b : Int → Int} (l : LC h q) (c : HC h q b) (w : WB b) {x : Int} (hx : -50000 ≤ x ∧ x ≤ 50000) (hx1 : 4 ≤ b 3 → 1 ≤ x) {p : Prop} [Decidable p] (hp : p → 0 ≤ x ∧ x ≤ 36) : ∃ h2, f_X4_heightWithin_L29 h q (iN x) (bN p) = some (h2, .inr (iN (hB b x))) ∧ FZ (pQ q) h h2 ∧ HC h2 q b := by
  have w1 := w.1
  unfold f_X4_heightWithin_L29
  rw [chk_pos l.1, g_isT l c w, bnd_ret]
  by_cases h3 : b 3 ≤ 3
  · obtain ⟨h2, e, f, c2, -⟩ := g_brkC l c w hx
    have l2 := l.ly f.1
    obtain ⟨h4, e4, f4, c4⟩ := g_hw65 l2 c2 (x := x) hp
    refine ⟨h4, ?_, f.tr f4, c4⟩
    rw [if_neg (fun z => bN0.mp z h3), chk_pos l.1, e, bnd_ret, chk_pos l2.1, c2.1.1]
    unfold f_X4_heightWithin_L54
    have hb : hB b x = (lnB b x).length * (if b 3 = 1 then 2 else 1) := by unfold hB; rw [if_pos h3]
    by_cases h1 : b 3 = 1
    · rw [if_pos (by rw [h1]), iN_mul, show (lnB b x).length * (2 : Int) = hB b x by rw [hb, if_pos h1]]
      exact e4
    · rw [if_neg (fun z => h1 ((iN_eqO (by omega) (by omega) (by omega) (by omega)).mp z)), iN_mul, show (lnB b x).length * (1 : Int) = hB b x by rw [hb, if_neg h1]]
      exact e4
  · obtain ⟨h4, e4, f4, c4⟩ := g_hw65 l c (x := x) hp
    refine ⟨h4, ?_, f4, c4⟩
    rw [if_pos (bN0.mpr h3), chk_pos l.1, g_picH l c w (by omega) (by omega), bnd_ret]
    exact e4
theorem g_hw {h : Hp} {q : Nat} {b : Int → Int} (l : LC h q) (c : HC h q b) (w : WB b) {x : Int} (hx : -50000 ≤ x ∧ x ≤ 50000) (hx1 : 4 ≤ b 3 → 1 ≤ x) : ∃ h2, f_X4_heightWithin h q (iN x) = some (h2, .inr (iN (hB b x))) ∧ FZ (pQ q) h h2 ∧ HC h2 q b := by
  obtain ⟨h1, ⟨r5, r6, r8, r9, r10, r11, r12⟩, ⟨o1, o2, o3, o4, o5, o6, o7⟩, ⟨w1, w2, w3, w4, w5, w6, w7⟩⟩ := id l
  obtain ⟨h2, e2, f2, c2⟩ := g_hw29 l c w hx hx1 (p := 0 ≤ x ∧ x ≤ 36) id
  unfold f_X4_heightWithin
  rw [g_isW ⟨by omega, by omega⟩ ⟨by omega, by omega⟩ ⟨by omega, by omega⟩, bnd_ret]
  by_cases hh : 0 ≤ x ∧ x ≤ 36
  · rw [if_neg (fun z => bN0.mp z hh), chk_pos h1, r12, chk_pos o7, w7, ck_in hh.1 (by omega) (by omega), iN_cl hh.1 (by omega)]
    by_cases hm : qI h (q + 7) x.toNat = iN (-1)
    · rw [if_pos hm]; exact ⟨h2, e2, f2, c2⟩
    · rw [if_neg hm]
      have := (c.2.2.2.2 x.toNat (by omega)).resolve_left hm
      rw [Int.toNat_of_nonneg hh.1] at this
      rw [this]
      exact ⟨h, rfl, FZ.rf, c⟩
  · rw [if_pos (bN0.mpr hh)]; exact ⟨h2, e2, f2, c2⟩
