/-! ===== STAGE B: the class's descend ===== -/
theorem BP_tc {m low t t2 f : Int → Int} {D : Int → Prop} (bp : BP m low t D f) (h : ∀ i, 0 ≤ i → i < m 5 → D i → wC m i t = wC m i t2) : BP m low t2 D f := fun r r1 r2 => by
  obtain ⟨b1, b2, b3⟩ := bp r r1 r2
  refine ⟨b1, fun i i1 i2 i3 i4 => by rw [← h i i1 i2 i4]; exact b2 i i1 i2 i3 i4, b3.imp id (fun ⟨i, i1, i2, i3, q⟩ => ⟨i, i1, i2, i3, q.imp id (fun q => ⟨q.1, by rw [← h i i1 i2 q.1]; exact q.2⟩)⟩)⟩
theorem BP_sum {m low t f : Int → Int} {D : Int → Prop} (w : WF m) (bp : BP m low t D f) : 0 ≤ m 2 * (m 4 + 1) + sumF f 0 (m 4).toNat ∧ m 2 * (m 4 + 1) + sumF f 0 (m 4).toNat ≤ 182 := by
  have h4 := w.1.2.2.2.2.1
  have h2 := w.1.2.2.1
  have b := sumF_bd (F := f) (B := 28) (m 4).toNat (fun j _ _ => (bp j (by omega) (by omega)).1)
  have n1 : 0 ≤ m 2 * (m 4 + 1) := Int.mul_nonneg (by omega) (by omega)
  have n2 : m 2 * (m 4 + 1) ≤ 2 * (m 4 + 1) := Int.mul_le_mul_of_nonneg_right (by omega) (by omega)
  omega
theorem g_desc {m : Int → Int} {S C T : Nat} (w : WF m) {a L sl0 : Int} (ha : 0 ≤ a ∧ a < 37) (hs0 : 0 ≤ sl0) : ∀ d n : Nat, d < n → Dsp m (lowF m sl0) S C T a L sl0 d n := by
  have hm := w.1.2.2.2.2.2
  have h0 := w.1.1
  have h4 := w.1.2.2.2.2.1
  have lfb := lfF_bd (m := m) (m 0).toNat
  intro d
  induction d with
  | zero =>
    intro n hn h c sl t f s c0 c1 sl1 sl2 l tm q10 q6 An At Af bp ht hn2 hsub cs s1 s2 hg
    obtain ⟨n, rfl⟩ : ∃ z, n = z + 1 := ⟨n - 1, by omega⟩
    have hc : c = m 0 := by omega
    subst hc
    have tin : t ∈ layC m (lfF m (m 0).toNat) (m 0).toNat 0 sl0 (fun _ => 0) := hsub t (by rw [layC]; exact List.mem_singleton.mpr rfl)
    have hl : ∀ i, 0 ≤ i → i < m 5 → lowF m sl0 i ≤ hC m i (wC m i t) := fun i i1 i2 => hC_low w hs0 tin ⟨i1, i2⟩
    obtain ⟨h2, e2, g2, t2, c2⟩ := g_keep9 (L := L) w ha l tm q10 At Af bp hl
    refine ⟨h2, ?_, g2, t2, ?_⟩
    · show f_X6_descend_E (f_X6_descend n) h S _ _ = _
      unfold f_X6_descend_E
      rw [chk_pos l.o, l.r0, chk_pos tm.1.o, tm.cs, if_neg (nltN (by omega) (by omega) (by omega)), e2, bnd_ret]
    · have es : m 2 * (m 4 + 1) + sumF f 0 (m 4).toNat = taH m t := by
        unfold taH
        rw [BP_eq bp hm.1 hl (fun i i1 i2 => by have := (w.2.2.1 i i1 i2).1; unfold CO at this; omega)]
      have hlt := hg rfl
      rw [es] at hlt
      have : foB (taH m) s (layC m (lfF m (m 0).toNat) 0 (m 0) sl t) = (taH m t, t) := by
        rw [layC]
        show stB (taH m) s t = _
        unfold stB
        rw [if_pos hlt]
      rw [this]
      exact c2
  | succ d ih =>
    intro n hn h c sl t f s c0 c1 sl1 sl2 l tm q10 q6 An At Af bp ht hn2 hsub cs s1 s2 hg
    obtain ⟨n, rfl⟩ : ∃ z, n = z + 1 := ⟨n - 1, by omega⟩
    have st := l.st
    have nc := ndF_bd w (c := c) (by omega)
    have hncl := hn2 c (by omega) (by omega)
    have loop : ∀ (k : Nat) (e to : Int) (h' : Hp) (s' : BS) (n' : Nat), k < n' → e + k = to + 1 → 0 ≤ e → to ≤ sl → (∀ x, e ≤ x → x ≤ to → (sl - x = 0 ∨ c + 1 ≤ lfF m (m 0).toNat) ∧ ∀ t2, t2 ∈ layC m (lfF m (m 0).toNat) d (c + 1) (sl - x) (up t c (ndF m c + x)) → t2 ∈ layC m (lfF m (m 0).toNat) (m 0).toNat 0 sl0 (fun _ => 0)) → FZ (pD T S c a) h h' → TM h' T m → CS h' S m L a s' → -10 ≤ s'.1 → s'.1 ≤ 2000000 →
        ∃ h2, f_X6_descend_L48 (f_X6_descend n) n' h' S (iN c) (iN sl) (iN to) (iN e) = some (h2, .inr ()) ∧ FZ (pD T S c a) h h2 ∧ TM h2 T m ∧ CS h2 S m L a (foB (taH m) s' (wloop (fun e => layC m (lfF m (m 0).toNat) d (c + 1) (sl - e) (up t c (ndF m c + e))) k e)) := by
      intro k
      induction k with
      | zero =>
        intro e to h' s' n' hn' hek he hto hgood ff tt cc b1 b2
        obtain ⟨n', rfl⟩ : ∃ z, n' = z + 1 := ⟨n' - 1, by omega⟩
        refine ⟨h', ?_, ff, tt, cc⟩
        show f_X6_descend_B48 (f_X6_descend n) (f_X6_descend_L48 (f_X6_descend n) n') h' S (iN c) (iN sl) (iN to) (iN e) = _
        unfold f_X6_descend_B48
        rw [if_pos (yltN (by omega) (by omega) (by omega))]
      | succ k ihk =>
        intro e to h' s' n' hn' hek he hto hgood ff tt cc b1 b2
        obtain ⟨n', rfl⟩ : ∃ z, n' = z + 1 := ⟨n' - 1, by omega⟩
        obtain ⟨gd1, gd2⟩ := hgood e (by omega) (by omega)
        have l' := l.ly ff.1
        have An' : AR h' (S + 40) (m 0) (ndF m) := An.fz ff (fun j z => by unfold pD pH at z; omega)
        have Af' : AR h' (S + 42 + c.toNat) (m 4) f := Af.fz ff (fun j z => by unfold pD pH at z; omega)
        have q10' : qI h' S 10 = iN a := (ff.2 S 10 (fun z => by unfold pD pH at z; omega)).trans q10
        have q6' : qI h' S 6 = iN (lfF m (m 0).toNat) := (ff.2 S 6 (fun z => by unfold pD pH at z; omega)).trans q6
        generalize ht' : up t c (ndF m c + e) = t'
        generalize hh1 : putI h' (S + 47) c.toNat (iN (ndF m c + e)) = h1
        have f1 : FZ (fun x j => x = S + 47 ∧ c.toNat ≤ j) h' h1 := by rw [← hh1]; exact FZ.pI ⟨rfl, Nat.le_refl _⟩
        have At1 : AR h1 (S + 47) (c + 1) t' := by
          intro x x1 x2
          rw [← hh1, ← ht']
          by_cases q : x = c
          · rw [q, rd_eq, up_eq]
          · rw [rd_nk (by omega), up_ne q, ff.2 _ _ (fun z => by unfold pD pH at z; omega)]
            exact At x x1 (by omega)
        have t1 := tt.fz hm f1 (fun x j z1 z2 z3 => by omega)
        have l1 := l'.ly f1.1
        have wct : ∀ i, 0 ≤ i → i < m 5 → blk m i 1 + blk m i 2 ≤ c → wC m i t = wC m i t' := fun i i1 i2 i3 => wC_cg i3 (fun x _ x2 => by rw [← ht', up_ne (by omega)])
        have ht2 : ∀ x, 0 ≤ x → x < c + 1 → ndF m x ≤ t' x ∧ t' x ≤ 100 := fun x x1 x2 => by
          rw [← ht']
          by_cases q : x = c
          · rw [q, up_eq]; omega
          · rw [up_ne q]; exact ht x x1 (by omega)
        obtain ⟨h2, f2, e2, g2, t2, a2, bp2⟩ := g_boundWith w (c := c) (by omega) ht2 (BP_tc bp wct) l1 t1 At1 (Af'.fz f1 (fun j z => by omega))
        have l2 := l1.ly g2.1
        have f12 : FZ (pD T S c a) h' h2 := (f1.mo (fun x j z => Or.inr (Or.inr (Or.inl z)))).tr (g2.mo (fun x j z => by
          rcases z with z | z
          · exact Or.inl z
          · exact Or.inr (Or.inr (Or.inr (Or.inl (by omega))))))
        have cc2 : CS h2 S m L a s' := by
          refine ⟨?_, fun z => ?_⟩
          · rw [g2.2 S 11 (fun z => by unfold pH at z; omega), f1.2 S 11 (fun z => by omega)]; exact cc.1
          · exact ((cc.2 z).fz f1 (fun j z => by omega)).fz g2 (fun j z => by unfold pH at z; omega)
        have sb := BP_sum w bp2
        have body : f_X6_descend_L48 (f_X6_descend n) (n' + 1) h' S (iN c) (iN sl) (iN to) (iN e) = if iN s'.1 ≤ iN (m 2 * (m 4 + 1) + sumF f2 0 (m 4).toNat) then f_X6_descend_L48 (f_X6_descend n) n' h2 S (iN c) (iN sl) (iN to) (iN (e + 1)) else bnd (f_X6_descend n h2 S (iN (c + 1)) (iN (sl - e))) fun h12 _ => f_X6_descend_L48 (f_X6_descend n) n' h12 S (iN c) (iN sl) (iN to) (iN (e + 1)) := by
          show f_X6_descend_B48 (f_X6_descend n) (f_X6_descend_L48 (f_X6_descend n) n') h' S (iN c) (iN sl) (iN to) (iN e) = _
          unfold f_X6_descend_B48 f_X6_descend_L93
          rw [if_neg (nltN (by omega) (by omega) (by omega)), chk_pos l'.o, l'.r8, chk_pos l'.o47, l'.r4, chk_pos l'.o40, l'.w40, ck_in (by omega) (by omega) (by omega), l'.w47, ck_in (by omega) (by omega) (by omega), iN_cl (z := c) (by omega) (by omega), An' c (by omega) (by omega), iN_add, hh1, lt_is, e2, bnd_ret, chk_pos l2.o, cc2.1, iN_add, iN_add, iN_sub]
        rw [body]
        have nxt : ∀ h3 s3, FZ (pD T S c a) h h3 → TM h3 T m → CS h3 S m L a s3 → -10 ≤ s3.1 → s3.1 ≤ 2000000 → s3 = foB (taH m) s' (layC m (lfF m (m 0).toNat) d (c + 1) (sl - e) t') → ∃ h4, f_X6_descend_L48 (f_X6_descend n) n' h3 S (iN c) (iN sl) (iN to) (iN (e + 1)) = some (h4, .inr ()) ∧ FZ (pD T S c a) h h4 ∧ TM h4 T m ∧ CS h4 S m L a (foB (taH m) s' (wloop (fun e => layC m (lfF m (m 0).toNat) d (c + 1) (sl - e) (up t c (ndF m c + e))) (k + 1) e)) := by
          intro h3 s3 ff3 tt3 cc3 b3 b4 hs3
          obtain ⟨h4, e4, g4, t4, c4⟩ := ihk (e + 1) to h3 s3 n' (by omega) (by omega) (by omega) hto (fun x x1 x2 => hgood x (by omega) x2) ff3 tt3 cc3 b3 b4
          refine ⟨h4, e4, g4, t4, ?_⟩
          rw [wloop, foB_app, ht', ← hs3]
          exact c4
        by_cases hp : s'.1 ≤ m 2 * (m 4 + 1) + sumF f2 0 (m 4).toNat
        · rw [if_pos (yleN (by omega) (by omega) (by omega))]
          refine nxt h2 s' (ff.tr f12) t2 cc2 b1 b2 (foB_id _ (fun t2 h2m => ?_)).symm
          have mem := layC_mem w d (c + 1) (sl - e) t' (by omega) (by omega) (by omega) h2m
          have full := gd2 t2 (by rw [ht']; exact h2m)
          have le := BP_le (t2 := t2) bp2 hm.1 (fun i i1 i2 => hC_low w hs0 full ⟨i1, i2⟩) (fun i i1 i2 i3 => wC_cg i3 (fun x _ x2 => (mem.1 x x2).symm))
          unfold taH
          omega
        · rw [if_neg (nleN (by omega) (by omega) (by omega))]
          have q10'' : qI h2 S 10 = iN a := by rw [g2.2 S 10 (fun z => by unfold pH at z; omega), f1.2 S 10 (fun z => by omega)]; exact q10'
          have q6'' : qI h2 S 6 = iN (lfF m (m 0).toNat) := by rw [g2.2 S 6 (fun z => by unfold pH at z; omega), f1.2 S 6 (fun z => by omega)]; exact q6'
          obtain ⟨h3, e3, g3, t3, c3⟩ := ih n (by omega) h2 (c + 1) (sl - e) t' f2 s' (by omega) (by omega) (by omega) gd1 l2 t2 q10'' q6'' ((An'.fz f1 (fun j z => by omega)).fz g2 (fun j z => by unfold pH at z; omega)) (At1.fz g2 (fun j z => by unfold pH at z; omega)) a2 bp2 ht2 (fun x x1 x2 => by have := hn2 x (by omega) x2; omega) (fun t2 h2m => gd2 t2 (by rw [ht']; exact h2m)) cc2 b1 b2 (fun _ => by omega)
          have fle := foB_le (H := taH m) (layC m (lfF m (m 0).toNat) d (c + 1) (sl - e) t') s'
          have fge := foB_ge (H := taH m) (B := -10) (layC m (lfF m (m 0).toNat) d (c + 1) (sl - e) t') s' b1 (fun t2 h2m => by
            have le := BP_le (t2 := t2) bp2 hm.1 (fun i i1 i2 => hC_low w hs0 (gd2 t2 (by rw [ht']; exact h2m)) ⟨i1, i2⟩) (fun i i1 i2 i3 => wC_cg i3 (fun x _ x2 => ((layC_mem w d (c + 1) (sl - e) t' (by omega) (by omega) (by omega) h2m).1 x x2).symm))
            unfold taH
            omega)
          rw [e3, bnd_ret]
          exact nxt h3 _ ((ff.tr f12).tr (g3.mo (fun x j z => by
            rcases z with z | z | z | z | z
            · exact Or.inl z
            · exact Or.inr (Or.inl z)
            · exact Or.inr (Or.inr (Or.inl (by omega)))
            · exact Or.inr (Or.inr (Or.inr (Or.inl (by omega))))
            · exact Or.inr (Or.inr (Or.inr (Or.inr z)))))) t3 c3 fge (by omega) rfl
    have lfc : c < (m 0).toNat := by omega
    have e0 : f_X6_descend (n + 1) h S (iN c) (iN sl) = f_X6_descend_L48 (f_X6_descend n) 2000 h S (iN c) (iN sl) (iN (if fxF m c = true then 0 else sl)) (iN (if c = lfF m (m 0).toNat then sl else 0)) := by
      show f_X6_descend_E (f_X6_descend n) h S (iN c) (iN sl) = _
      unfold f_X6_descend_E f_X6_descend_L29 f_X6_descend_L43
      rw [chk_pos l.o, l.r0, chk_pos tm.1.o, tm.cs, if_pos (yltN (by omega) (by omega) (by omega)), q6]
      by_cases hcl : c = lfF m (m 0).toNat
      · rw [if_pos (by rw [hcl]), if_pos hcl, chk_pos l.o, g_isFree w l tm (by omega), bnd_ret]
        by_cases hf : fxF m c = true
        · rw [if_pos (bN0.mpr (fun z => z hf)), if_pos hf]
        · rw [if_neg (fun z => bN0.mp z hf), if_neg hf]
      · rw [if_neg (neN hcl (by omega) (by omega) (by omega) (by omega)), if_neg hcl, chk_pos l.o, g_isFree w l tm (by omega), bnd_ret]
        by_cases hf : fxF m c = true
        · rw [if_pos (bN0.mpr (fun z => z hf)), if_pos hf]
        · rw [if_neg (fun z => bN0.mp z hf), if_neg hf]
    rw [e0]
    have hlfc : c = lfF m (m 0).toNat → fxF m c = false := fun z => by rw [z]; exact lfb.2.2.1 (by omega)
    have lay1 : layC m (lfF m (m 0).toNat) (d + 1) c sl t = wloop (fun e => layC m (lfF m (m 0).toNat) d (c + 1) (sl - e) (up t c (ndF m c + e))) ((if fxF m c = true then 0 else sl) - (if c = lfF m (m 0).toNat then sl else 0) + 1).toNat (if c = lfF m (m 0).toNat then sl else 0) := by rw [layC]
    have rng : 0 ≤ (if c = lfF m (m 0).toNat then sl else 0) ∧ (if c = lfF m (m 0).toNat then sl else 0) ≤ (if fxF m c = true then 0 else sl) ∧ (if fxF m c = true then 0 else sl) ≤ sl := by
      by_cases q : c = lfF m (m 0).toNat
      · rw [if_pos q, if_neg (by rw [hlfc q]; simp)]; omega
      · rw [if_neg q]
        split <;> omega
    have good : ∀ x, (if c = lfF m (m 0).toNat then sl else 0) ≤ x → x ≤ (if fxF m c = true then 0 else sl) → (sl - x = 0 ∨ c + 1 ≤ lfF m (m 0).toNat) ∧ ∀ t2, t2 ∈ layC m (lfF m (m 0).toNat) d (c + 1) (sl - x) (up t c (ndF m c + x)) → t2 ∈ layC m (lfF m (m 0).toNat) (m 0).toNat 0 sl0 (fun _ => 0) := by
      intro x x1 x2
      refine ⟨?_, fun t2 h2m => hsub t2 ?_⟩
      · by_cases q : c = lfF m (m 0).toNat
        · rw [if_pos q] at x1
          have := rng.2.2
          omega
        · rw [if_neg q] at x1
          by_cases q2 : fxF m c = true
          · rw [if_pos q2] at x2
            omega
          · refine Or.inr ?_
            by_cases q3 : lfF m (m 0).toNat < c
            · exact absurd (lfb.2.2.2 c q3 (by omega) c0) q2
            · omega
      · rw [lay1]
        exact wloop_in _ _ x x1 (by omega) h2m
    obtain ⟨h2, e2, g2, t2, c2⟩ := loop ((if fxF m c = true then 0 else sl) - (if c = lfF m (m 0).toNat then sl else 0) + 1).toNat _ _ h s 2000 (by omega) (by omega) rng.1 rng.2.2 good FZ.rf tm cs s1 s2
    refine ⟨h2, e2, g2, t2, ?_⟩
    rw [lay1]
    exact c2
