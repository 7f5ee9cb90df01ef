/-! ===== STAGE B: raggedness ===== -/
theorem kE1_ge {l b : Int} : l ≤ kE1 l b ∧ kE1 l b ≤ l + 1 := by
  unfold kE1
  split <;> omega
theorem S_brk_rm {room : Int} : ∀ (r : List (Int × Int)) (L : List Int) (u : Int) (o : Bool), (∀ p ∈ r, 1 ≤ p.1 ∧ kE1 p.1 p.2 ≤ room) → (∀ z ∈ L, 1 ≤ z ∧ z ≤ room) → 0 ≤ u → ∀ z ∈ S_brk room r L u o, 1 ≤ z ∧ z ≤ room
  | [], L, u, o, _, h, _ => h
  | (l, b) :: r, L, u, o, hp, h, hu => by
    have h1 := hp (l, b) (List.mem_cons_self ..)
    have hr := fun p hp2 => hp p (List.mem_cons_of_mem _ hp2)
    dsimp only at h1
    have k1 := kE1_ge (l := l) (b := b)
    have hP : 0 ≤ kP1 l b := by unfold kP1; split <;> omega
    rw [S_brk]
    by_cases q : o = false ∨ room < u + kE1 l b
    · rw [if_pos q]
      refine S_brk_rm r _ _ _ hr (fun z hz => ?_) (by omega)
      rcases List.mem_append.mp hz with y | y
      · exact h z y
      · rw [List.mem_singleton.mp y]
        omega
    · rw [if_neg q]
      have q2 : ¬ room < u + kE1 l b := fun y => q (Or.inr y)
      refine S_brk_rm r _ _ _ hr (fun z hz => ?_) (by omega)
      rcases List.mem_append.mp hz with y | y
      · exact h z (List.dropLast_subset _ y)
      · rw [List.mem_singleton.mp y]
        omega
theorem S_mx_all : ∀ (r : List (Int × Int)) (m : Int), ∀ p ∈ r, kE1 p.1 p.2 ≤ S_mx r m
  | [], m, p, hp => by cases hp
  | (l, b) :: r, m, p, hp => by
    rw [S_mx]
    cases hp with
    | head =>
      have := S_mx_ge r (max m (kE1 l b))
      dsimp only
      omega
    | tail _ hp => exact S_mx_all r _ p hp
/-- a line fits its room -/
theorem lnB_rm {b : Int → Int} (w : WB b) (h3 : b 3 ≤ 3) {x : Int} (hx : mnB b ≤ x) : ∀ z ∈ lnB b x, 1 ≤ z ∧ z ≤ x - indOf (b 3) := by
  have h1 := psB_ok w
  unfold mnB S_min at hx
  rw [if_pos h3] at hx
  refine S_brk_rm _ _ _ _ (fun p hp => ?_) (fun z hz => by cases hz) (by omega)
  have := (h1.1 p hp).1.1
  have := S_mx_all (psB b) 0 p hp
  omega
/-- a cell of the best layout is as wide as the table at most -/
theorem bs_36 {m : Int → Int} (w : WF m) {L x : Int} (hx : x ≤ 36) (h : (bsC m L x).1 < L) {i : Int} (hi : 0 ≤ i ∧ i < m 5) : wC m i (bsC m L x).2 ≤ 36 := by
  have h0 := w.1.1
  have h2 := w.1.2.2.1
  obtain ⟨-, ⟨s1, s2⟩, hin⟩ := bsC_in w hx h
  have sm := layC_sum w (m 0).toNat 0 (slF m x) _ (by omega) (by omega) s1 hin
  have mem := (layC_mem w (m 0).toNat 0 (slF m x) _ (by omega) (by omega) s1 hin).2
  have co := (w.2.2.1 i hi.1 hi.2).1
  have b1 := co.2.1
  have b2 := co.2.2.1
  have b3 := co.2.2.2
  have sub := sumF_sub (F := fun _ => 0) (G := (bsC m L x).2) (c := blk m i 1) (s := blk m i 2) (K := m 0) b1 (by omega) b3 (fun j j0 j1 => by have := mem j j0 j1; have := (ndF_bd w (c := j) ⟨j0, j1⟩).1; show 0 ≤ _; omega)
  rw [sumF_z (F := fun _ => 0) _ (fun _ _ _ => rfl), sumF_z (F := fun _ => 0) _ (fun _ _ _ => rfl)] at sub
  have n1 : m 2 * (blk m i 2 - 1) ≤ m 2 * (m 0 + 1) := Int.mul_le_mul_of_nonneg_left (by omega) h2.1
  unfold wC
  unfold slF at sm
  omega
theorem sh_n1 {S a : Int} (h0 : 0 ≤ a) (h1 : a < S) (h2 : S ≤ 36) : vf_n32 (FP.fdiv (FP.i2f (iN a)) (FP.i2f (iN S))) := n32_lt (x := lsF S a) (by have := sh_bd h0 h1 h2; omega)
theorem sh_n2 {S a : Int} (h0 : 0 ≤ a) (h1 : a < S) (h2 : S ≤ 36) : vf_n32 (FP.fmul (FP.fdiv (FP.i2f (iN a)) (FP.i2f (iN S))) (FP.fdiv (FP.i2f (iN a)) (FP.i2f (iN S)))) := n32_lt (x := sqF S a) (by have := sh_bd h0 h1 h2; omega)
theorem sh_n3 {S a : Int} {k : Nat} {x : UInt32} (s : SmO k (FP.fadd x (sqF S a))) : vf_n32 (FP.fadd x (FP.fmul (FP.fdiv (FP.i2f (iN a)) (FP.i2f (iN S))) (FP.fdiv (FP.i2f (iN a)) (FP.i2f (iN S))))) := n32_lt (x := FP.fadd x (sqF S a)) (by have := s.1; omega)
/-- the sum of the squares -/
noncomputable def rgA (S : Int) : List Int → UInt32 → UInt32
  | [], a => a
  | z :: r, a => rgA S r (FP.fadd a (sqF S (S - z)))
theorem rgA_ok {S : Int} (hS : S ≤ 36) : ∀ (r : List Int) (k : Nat) (a : UInt32), SmO k a → k + r.length ≤ 12 → (∀ z ∈ r, 1 ≤ z ∧ z ≤ S) → SmO (k + r.length) (rgA S r a)
  | [], k, a, s, _, _ => s
  | z :: r, k, a, s, hk, h => by
    rw [List.length_cons] at hk
    have hz := h z (List.mem_cons_self ..)
    have := rgA_ok hS r (k + 1) (FP.fadd a (sqF S (S - z))) (s.ad (by omega) (by omega) (by omega) hS) (by omega) (fun y hy => h y (List.mem_cons_of_mem _ hy))
    rw [List.length_cons, show k + (r.length + 1) = k + 1 + r.length by omega]
    exact this
noncomputable def rgF (S : Int) (L : List Int) : UInt32 := FP.fdiv (rgA S L 0) (FP.i2f (iN (L.length : Int)))
theorem rgF_bd {S : Int} (hS : S ≤ 36) {L : List Int} (h1 : 1 ≤ L.length) (h2 : L.length ≤ 12) (h : ∀ z ∈ L, 1 ≤ z ∧ z ≤ S) : (rgF S L).toNat = 0 ∨ (8388608 ≤ (rgF S L).toNat ∧ (rgF S L).toNat ≤ 1065353216) := by
  have a := rgA_ok hS L 0 0 SmO.z (by omega) h
  rw [Nat.zero_add] at a
  exact a.dv h1 h2
theorem LC.o6 {h : Hp} {q : Nat} (l : LC h q) : qR h q 11 = q + 6 ∧ okr h (q + 6) 20 ∧ qW h (q + 6) = 12 := ⟨l.2.1.2.2.2.2.2.1, l.2.2.1.2.2.2.2.2.1, l.2.2.2.2.2.2.2.2.1⟩
theorem drop_a2 {L r : List Int} {z : Int} {k : Nat} (h : L.drop k = z :: r) : L[k]? = some z ∧ L.drop (k + 1) = r := by
  refine ⟨?_, ?_⟩
  · have := List.getElem?_drop (xs := L) (i := k) (j := 0)
    rw [h] at this
    exact this.symm
  · rw [← List.drop_drop, h]
    rfl
theorem g_rgL {h : Hp} {q : Nat} {S : Int} {L : List Int} (l : LC h q) (hl : HL h q L) (hS : S ≤ 36) (h1 : 1 ≤ L.length) (h2 : L.length ≤ 12) (hz : ∀ z ∈ L, 1 ≤ z ∧ z ≤ S) : ∀ (r : List Int) (k n : Nat) (a : UInt32), L.drop k = r → k + r.length = L.length → r.length < n → SmO k a → f_X4_raggedness_L31 n h q (iN S) (iN (L.length : Int)) a (iN (k : Int)) = some (h, .inr (FP.fdiv (rgA S r a) (FP.i2f (iN (L.length : Int)))))
  | [], k, n, a, hd, hk, hn, s => by
    obtain ⟨n, rfl⟩ : ∃ z, n = z + 1 := ⟨n - 1, by omega⟩
    rw [List.length_nil] at hk
    have hk2 : k = L.length := by omega
    rw [hk2] at s
    have b := s.dv h1 h2
    show f_X4_raggedness_B31 (f_X4_raggedness_L31 n) h q (iN S) (iN (L.length : Int)) a (iN (k : Int)) = _
    unfold f_X4_raggedness_B31
    rw [if_pos (yleN (by omega) (by omega) (by omega)), chk_pos (n32_lt (by omega)), rgA]
  | z :: r, k, n, a, hd, hk, hn, s => by
    obtain ⟨n, rfl⟩ : ∃ z, n = z + 1 := ⟨n - 1, by omega⟩
    rw [List.length_cons] at hk hn
    obtain ⟨d1, d2⟩ := drop_a2 hd
    have zb := hz z (List.mem_of_mem_drop (i := k) (by rw [hd]; exact List.mem_cons_self ..))
    have sb := sh_bd (S := S) (a := S - z) (by omega) (by omega) (by omega)
    have sa := s.ad (S := S) (a := S - z) (by omega) (by omega) (by omega) (by omega)
    show f_X4_raggedness_B31 (f_X4_raggedness_L31 n) h q (iN S) (iN (L.length : Int)) a (iN (k : Int)) = _
    unfold f_X4_raggedness_B31
    rw [if_neg (nleN (by omega) (by omega) (by omega)), chk_pos l.1, l.o6.1, chk_pos l.o6.2.1, l.o6.2.2, ck_in (by omega) (by omega) (by omega), iN_cl (by omega) (by omega), show (k : Int).toNat = k by omega, hl k z d1, iN_sub, chk_pos (sh_n1 (by omega) (by omega) (by omega)), chk_pos (sh_n2 (by omega) (by omega) (by omega)), chk_pos (sh_n3 sa), iN_add, rgA]
    exact g_rgL l hl hS h1 h2 hz r (k + 1) n _ d2 (by omega) (by omega) sa
theorem g_rgL9 {h : Hp} {S : Int} {L : List Int} (s9 : SL h) (e20 : qI h 632 20 = iN (L.length : Int)) (hl : ∀ (k : Nat) (y : Int), L[k]? = some y → qI h 643 k = iN y) (hS : S ≤ 36) (h1 : 1 ≤ L.length) (h2 : L.length ≤ 12) (hz : ∀ z ∈ L, 1 ≤ z ∧ z ≤ S) : ∀ (r : List Int) (k n : Nat) (a : UInt32), L.drop k = r → k + r.length = L.length → r.length < n → SmO k a → f_X9_raggednessBits_L85 n h 632 (iN S) a (iN (k : Int)) = f_X9_raggednessBits_L144 h (FP.fdiv (rgA S r a) (FP.i2f (iN (L.length : Int))))
  | [], k, n, a, hd, hk, hn, s => by
    obtain ⟨n, rfl⟩ : ∃ z, n = z + 1 := ⟨n - 1, by omega⟩
    rw [List.length_nil] at hk
    have hk2 : k = L.length := by omega
    rw [hk2] at s
    have b := s.dv h1 h2
    show f_X9_raggednessBits_B85 (f_X9_raggednessBits_L85 n) h 632 (iN S) a (iN (k : Int)) = _
    unfold f_X9_raggednessBits_B85
    rw [chk_pos s9.m.1, e20, if_pos (yleN (by omega) (by omega) (by omega)), if_neg (eN0 (by omega) (by omega) (by omega)), chk_pos (n32_lt (by omega)), rgA]
  | z :: r, k, n, a, hd, hk, hn, s => by
    obtain ⟨n, rfl⟩ : ∃ z, n = z + 1 := ⟨n - 1, by omega⟩
    rw [List.length_cons] at hk hn
    obtain ⟨d1, d2⟩ := drop_a2 hd
    have zb := hz z (List.mem_of_mem_drop (i := k) (by rw [hd]; exact List.mem_cons_self ..))
    have sb := sh_bd (S := S) (a := S - z) (by omega) (by omega) (by omega)
    have sa := s.ad (S := S) (a := S - z) (by omega) (by omega) (by omega) (by omega)
    show f_X9_raggednessBits_B85 (f_X9_raggednessBits_L85 n) h 632 (iN S) a (iN (k : Int)) = _
    unfold f_X9_raggednessBits_B85
    rw [chk_pos s9.m.1, e20, if_neg (nleN (by omega) (by omega) (by omega)), s9.m.r19, chk_pos s9.m.o19, s9.m.w19, ck_in (by omega) (by omega) (by omega), iN_cl (by omega) (by omega), show (k : Int).toNat = k by omega, hl k z d1, iN_sub, chk_pos (sh_n1 (by omega) (by omega) (by omega)), chk_pos (sh_n2 (by omega) (by omega) (by omega)), chk_pos (sh_n3 sa), iN_add, rgA]
    exact g_rgL9 s9 e20 hl hS h1 h2 hz r (k + 1) n _ d2 (by omega) (by omega) sa
theorem ofA {h : Hp} {x : UInt32} (b : x.toNat = 0 ∨ (8388608 ≤ x.toNat ∧ x.toNat ≤ 1065353216)) : f_X0_ofFloat h x = some (h, .inr (iN (x.toNat : Int))) := by
  rcases b with z | z
  · rw [show x = 0 from UInt32.toNat_inj.mp z, of32_z]
    rfl
  · exact of32 z.1 (by omega)
theorem o_ragged {h : Hp} {D : Dt} (wd : WD D) (s : SL h) (c : CI h D) {x : Int} (hx : InR x) : OpP h D (f_L_raggednessBits h 1 (iN x) 656) (fun h1 => f_X9_raggednessBits h1 632 (iN x)) := by
  have w := wd.1
  have t := c.1.1
  have h0 := w.1.1
  have hm1 := w.1.2.1
  have hm3 := w.1.2.2.2.1
  have h5 := w.1.2.2.2.2.2
  by_cases q : 0 ≤ x ∧ x ≤ D.1 5 - 1
  · have hx3 : 0 ≤ x ∧ x < D.1 5 := by omega
    have hx2 : 0 ≤ x ∧ x < 16 := by omega
    have wb := (w.2.2.1 x hx3.1 hx3.2).2
    by_cases q3 : blk D.1 x 3 ≤ 3
    · obtain ⟨h2, e2, f2, t2, sm2, a2⟩ := g_bestW w s c.1
      have st := (Stq.rf s c).s wd f2 t2 sm2
      have s2 := st.1
      have lb := lh_bd w (L := 1000000) (x := D.1 1) hm1.2
      by_cases p : 0 ≤ lhF D.1 1000000 (D.1 1)
      · have a2 := a2 p
        rw [if_pos p] at e2
        have lt : (bsC D.1 1000000 (D.1 1)).1 < 1000000 := lb.2.2.1.mp p
        have gw := (bs_GW w hm1.2 lt).1
        have u36 := bs_36 w (x := D.1 1) hm1.2 lt hx3
        have gx := gw x hx3.1 hx3.2
        have ib := indOf_bd (blk D.1 x 3)
        have mb := mnB_bd wb
        have mc : mnC D.1 x = mnB (blk D.1 x) + 2 * D.1 3 := rfl
        have ao := s2.u.lo (x := (D.1 1).toNat) (by omega)
        have aw := s2.u.lw (x := (D.1 1).toNat) (by omega)
        have eW := g_widthIn t2 w hx3 ao aw a2
        have ref : ∀ h1, SL h1 → RM (putI h1 632 0 (iN 0)) 632 D.1 → SL (putI h1 632 0 (iN 0)) → ∃ h5, f_X9_raggednessBits h1 632 (iN x) = f_X9_raggednessBits_L85 2000 h5 632 (iN (wC D.1 x (bsC D.1 1000000 (D.1 1)).2 - 2 * D.1 3 - indOf (blk D.1 x 3))) 0 (iN 0) ∧ FZ (pX 632) (putI h1 632 0 (iN 0)) h5 ∧ SL h5 ∧ qI h5 632 20 = iN (lnB (blk D.1 x) (wC D.1 x (bsC D.1 1000000 (D.1 1)).2 - 2 * D.1 3)).length ∧ ∀ (k : Nat) (y : Int), (lnB (blk D.1 x) (wC D.1 x (bsC D.1 1000000 (D.1 1)).2 - 2 * D.1 3))[k]? = some y → qI h5 643 k = iN y := by
          intro h1 s1 rm s0
          obtain ⟨h3, e3, f3, t3, a3⟩ := g_isBest w rm
          have s3 := s0.ly f3.1
          have rm3 := rm.x f3
          obtain ⟨h4, e4, f4, n4, a4⟩ := g_breaksLines rm3 hx2 wb (x := wC D.1 x (bsC D.1 1000000 (D.1 1)).2 - 2 * D.1 3) (by omega)
          refine ⟨h4, ?_, f3.tr f4.bx, s3.ly f4.1, n4, a4⟩
          unfold f_X9_raggednessBits
          rw [chk_pos s1.m.1, lt_is, g_isCell rm w hx, bnd_ret, if_neg (fun z => bN0.mp z q), chk_pos s0.m.1, g_isText9 rm hx2 wb, bnd_ret, if_neg (fun z => bN0.mp z q3), chk_pos s0.m.1, e3, bnd_ret, if_neg (fun z => bN0.mp z p), chk_pos s3.m.1, s3.m.r31, chk_pos s3.m.o31, g_widthOf rm3 w hx3 s3.m.o31 s3.m.w31 (a3 p).2, bnd_ret, chk_pos s3.m.1, s3.m.r1, chk_pos s3.m.o1, s3.m.w1, ck_in (by omega) (by omega) (by omega), g_indentOf s3.m hx2 (rm3.2 (10 + 31 * x + 3) (by omega) (by omega)) wb.1, bnd_ret, chk_pos s3.m.1, g_rd rm3 (by omega) (by omega), iN_mul, iN_sub, e4, bnd_ret, iN_sub]
          rfl
        generalize (bsC D.1 1000000 (D.1 1)).2 = W at *
        obtain ⟨h3, e3, f3, t3, l3⟩ := c_lines w s2 t2 hx3 (x := wC D.1 x W - 2 * D.1 3) (by omega)
        have st3 := st.h wd f3 t3
        have s3 := st3.1
        have ca : cA h3 2 x = cA h 2 x := (cA_ly f3.1).trans (cA_ly f2.1)
        have ca2 : cA h2 2 x = cA h 2 x := cA_ly f2.1
        have lc3 := t3.1.cl hx2
        rw [ca] at lc3
        have hc3 := (t3.cc hx3.1 hx3.2).2
        rw [ca] at hc3
        rw [ca2] at e3 l3 eW
        have lc2 := t2.1.cl hx2
        rw [ca2] at lc2
        have hc2 := (t2.cc hx3.1 hx3.2).2
        rw [ca2] at hc2
        have lr := lnB_rm wb q3 (x := wC D.1 x W - 2 * D.1 3) (by omega)
        have ln := lnB_len wb (wC D.1 x W - 2 * D.1 3)
        generalize lnB (blk D.1 x) (wC D.1 x W - 2 * D.1 3) = L at *
        generalize hu : wC D.1 x W - 2 * D.1 3 = u at *
        have cls : f_X8_raggednessBits h 1 (iN x) = bnd (if (iN (L.length : Int)) < iN 1 then some (h3, .inr (0x00000000 : UInt32)) else if iN 1 ≤ iN (u - indOf (blk D.1 x 3)) then f_X4_raggedness_L31 2000 h3 (cA h 2 x + 1) (iN (u - indOf (blk D.1 x 3))) (iN (L.length : Int)) (0x00000000 : UInt32) (iN 0) else some (h3, .inr (0x00000000 : UInt32))) fun h17 r18 => bnd (f_X0_ofFloat h17 r18) fun h19 r20 => some (h19, .inr r20) := by
          unfold f_X8_raggednessBits f_X4_raggedness
          rw [chk_pos s.o1, g_textOf w s t hx, if_pos q, if_pos q3, bnd_ret, SL.rq wd s t hx3, e2, bnd_ret, s.t0, chk_pos t2.1.o, t.1.r8, cA_eq (by omega) (by omega), eW, bnd_ret, chk_pos s2.o1, s2.t0, chk_pos t2.1.o, t2.2.1.2.2.1, iN_mul, iN_sub, hu, chk_pos lc2.1, chk_pos lc2.1, e3, bnd_ret, hc2.2.2.1, iN_sub]
        by_cases l0 : L.length = 0
        · refine OpP.A 0 wd st3 ?_ (fun h1 s1 r1 s0 rm => ?_)
          · unfold f_L_raggednessBits
            rw [chk_pos s.o1, cls, if_pos (yltN (by omega) (by omega) (by omega)), bnd_ret, of32_z, bnd_ret, bndX_ret]
          · obtain ⟨h5, e5, f5, s5, n5, a5⟩ := ref h1 s1 rm s0
            refine ⟨h5, ?_, f5⟩
            rw [e5]
            show f_X9_raggednessBits_B85 (f_X9_raggednessBits_L85 1999) h5 632 (iN (u - indOf (blk D.1 x 3))) 0 (iN 0) = _
            unfold f_X9_raggednessBits_B85 f_X9_raggednessBits_L144
            rw [chk_pos s5.m.1, n5, if_pos (yleN (by omega) (by omega) (by omega)), if_pos (by rw [l0]; rfl), fb32 (by decide), bnd_ret]
            rfl
        · obtain ⟨z, hz⟩ : ∃ z, z ∈ L := ⟨L[0], List.getElem_mem (by omega)⟩
          have zb := lr z hz
          have bd := rgF_bd (S := u - indOf (blk D.1 x 3)) (by omega) (L := L) (by omega) ln lr
          refine OpP.A ((rgF (u - indOf (blk D.1 x 3)) L).toNat : Int) wd st3 ?_ (fun h1 s1 r1 s0 rm => ?_)
          · have e9 := g_rgL (S := u - indOf (blk D.1 x 3)) lc3 l3 (by omega) (by omega) ln lr L 0 2000 0 rfl (by omega) (by omega) SmO.z
            have e9' : f_X4_raggedness_L31 2000 h3 (cA h 2 x + 1) (iN (u - indOf (blk D.1 x 3))) (iN (L.length : Int)) (0x00000000 : UInt32) (iN 0) = some (h3, .inr (rgF (u - indOf (blk D.1 x 3)) L)) := e9
            unfold f_L_raggednessBits
            rw [chk_pos s.o1, cls, if_neg (nltN (by omega) (by omega) (by omega)), if_pos (yleN (by omega) (by omega) (by omega)), e9', bnd_ret, ofA bd, bnd_ret, bndX_ret]
          · obtain ⟨h5, e5, f5, s5, n5, a5⟩ := ref h1 s1 rm s0
            refine ⟨h5, ?_, f5⟩
            have e9 := g_rgL9 (S := u - indOf (blk D.1 x 3)) s5 n5 a5 (by omega) (by omega) ln lr L 0 2000 0 rfl (by omega) (by omega) SmO.z
            have e9' : f_X9_raggednessBits_L85 2000 h5 632 (iN (u - indOf (blk D.1 x 3))) 0 (iN 0) = f_X9_raggednessBits_L144 h5 (rgF (u - indOf (blk D.1 x 3)) L) := e9
            rw [e5, e9']
            unfold f_X9_raggednessBits_L144
            rw [fb32 (by omega), bnd_ret]
      · rw [if_neg p] at e2
        refine OpP.F 3 (by omega) wd st ?_ (fun h1 s1 r1 s0 rm => ?_)
        · unfold f_L_raggednessBits f_X8_raggednessBits
          rw [chk_pos s.o1, chk_pos s.o1, g_textOf w s t hx, if_pos q, if_pos q3, bnd_ret, SL.rq wd s t hx3, e2, bnd_thr, bndX_thr, if_neg (by decide), if_neg (by decide), if_pos rfl]
        · obtain ⟨h3, e3, f3, t3, a3⟩ := g_isBest w rm
          have s3 := s0.ly f3.1
          refine ⟨h3, ?_, f3⟩
          unfold f_X9_raggednessBits
          rw [chk_pos s1.m.1, lt_is, g_isCell rm w hx, bnd_ret, if_neg (fun z => bN0.mp z q), chk_pos s0.m.1, g_isText9 rm hx2 wb, bnd_ret, if_neg (fun z => bN0.mp z q3), chk_pos s0.m.1, e3, bnd_ret, if_pos (bN0.mpr p), chk_pos s3.m.1, g_fails s3, bnd_ret]
    · refine OpP.f0 2 (by omega) wd s c ?_ (fun h1 s1 r1 s0 rm => ?_)
      · unfold f_L_raggednessBits f_X8_raggednessBits
        rw [chk_pos s.o1, chk_pos s.o1, g_textOf w s t hx, if_pos q, if_neg q3, bnd_thr, bndX_thr, if_neg (by decide), if_pos rfl]
      · unfold f_X9_raggednessBits
        rw [chk_pos s1.m.1, lt_is, g_isCell rm w hx, bnd_ret, if_neg (fun z => bN0.mp z q), chk_pos s0.m.1, g_isText9 rm hx2 wb, bnd_ret, if_pos (bN0.mpr q3), chk_pos s0.m.1, g_fails s0, bnd_ret]
  · refine OpP.f0 1 (by omega) wd s c ?_ (fun h1 s1 r1 s0 rm => ?_)
    · unfold f_L_raggednessBits f_X8_raggednessBits
      rw [chk_pos s.o1, chk_pos s.o1, g_textOf w s t hx, if_neg q, bnd_thr, bndX_thr, if_pos rfl]
    · unfold f_X9_raggednessBits
      rw [chk_pos s1.m.1, lt_is, g_isCell rm w hx, bnd_ret, if_pos (bN0.mpr q), chk_pos s0.m.1, g_fails s0, bnd_ret]
