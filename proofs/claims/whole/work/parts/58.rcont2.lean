/-! ===== STAGE B: the reference's contents whole ===== -/
theorem LM.r1 {h : Hp} {M : Nat} (l : LM h M) : qR h M 1 = M + 1 := (l.2 (1, 1, 20, 506) (by decide)).1
theorem LM.o1 {h : Hp} {M : Nat} (l : LM h M) : okr h (M + 1) 20 := (l.2 (1, 1, 20, 506) (by decide)).2.1
theorem LM.w1 {h : Hp} {M : Nat} (l : LM h M) : qW h (M + 1) = 506 := (l.2 (1, 1, 20, 506) (by decide)).2.2
theorem LM.r2 {h : Hp} {M : Nat} (l : LM h M) : qR h M 2 = M + 2 := (l.2 (2, 2, 20, 506) (by decide)).1
theorem LM.o2 {h : Hp} {M : Nat} (l : LM h M) : okr h (M + 2) 20 := (l.2 (2, 2, 20, 506) (by decide)).2.1
theorem LM.w2 {h : Hp} {M : Nat} (l : LM h M) : qW h (M + 2) = 506 := (l.2 (2, 2, 20, 506) (by decide)).2.2
theorem LM.r3 {h : Hp} {M : Nat} (l : LM h M) : qR h M 3 = M + 3 := (l.2 (3, 3, 20, 506) (by decide)).1
theorem LM.o3 {h : Hp} {M : Nat} (l : LM h M) : okr h (M + 3) 20 := (l.2 (3, 3, 20, 506) (by decide)).2.1
theorem LM.w3 {h : Hp} {M : Nat} (l : LM h M) : qW h (M + 3) = 506 := (l.2 (3, 3, 20, 506) (by decide)).2.2
theorem LM.r5 {h : Hp} {M : Nat} (l : LM h M) : qR h M 5 = M + 4 := (l.2 (5, 4, 20, 60) (by decide)).1
theorem LM.o5 {h : Hp} {M : Nat} (l : LM h M) : okr h (M + 4) 20 := (l.2 (5, 4, 20, 60) (by decide)).2.1
theorem LM.w5 {h : Hp} {M : Nat} (l : LM h M) : qW h (M + 4) = 60 := (l.2 (5, 4, 20, 60) (by decide)).2.2
theorem LM.r8 {h : Hp} {M : Nat} (l : LM h M) : qR h M 8 = M + 5 := (l.2 (8, 5, 20, 2) (by decide)).1
theorem LM.o8 {h : Hp} {M : Nat} (l : LM h M) : okr h (M + 5) 20 := (l.2 (8, 5, 20, 2) (by decide)).2.1
theorem LM.w8 {h : Hp} {M : Nat} (l : LM h M) : qW h (M + 5) = 2 := (l.2 (8, 5, 20, 2) (by decide)).2.2
theorem LM.r9 {h : Hp} {M : Nat} (l : LM h M) : qR h M 9 = M + 6 := (l.2 (9, 6, 20, 2) (by decide)).1
theorem LM.o9 {h : Hp} {M : Nat} (l : LM h M) : okr h (M + 6) 20 := (l.2 (9, 6, 20, 2) (by decide)).2.1
theorem LM.w9 {h : Hp} {M : Nat} (l : LM h M) : qW h (M + 6) = 2 := (l.2 (9, 6, 20, 2) (by decide)).2.2
theorem LM.r10 {h : Hp} {M : Nat} (l : LM h M) : qR h M 10 = M + 7 := (l.2 (10, 7, 20, 186) (by decide)).1
theorem LM.o10 {h : Hp} {M : Nat} (l : LM h M) : okr h (M + 7) 20 := (l.2 (10, 7, 20, 186) (by decide)).2.1
theorem LM.w10 {h : Hp} {M : Nat} (l : LM h M) : qW h (M + 7) = 186 := (l.2 (10, 7, 20, 186) (by decide)).2.2
theorem LM.r11 {h : Hp} {M : Nat} (l : LM h M) : qR h M 11 = M + 8 := (l.2 (11, 8, 22, 6) (by decide)).1
theorem LM.o11 {h : Hp} {M : Nat} (l : LM h M) : okr h (M + 8) 22 := (l.2 (11, 8, 22, 6) (by decide)).2.1
theorem LM.w11 {h : Hp} {M : Nat} (l : LM h M) : qW h (M + 8) = 6 := (l.2 (11, 8, 22, 6) (by decide)).2.2
theorem LM.r16 {h : Hp} {M : Nat} (l : LM h M) : qR h M 16 = M + 9 := (l.2 (16, 9, 20, 12) (by decide)).1
theorem LM.o16 {h : Hp} {M : Nat} (l : LM h M) : okr h (M + 9) 20 := (l.2 (16, 9, 20, 12) (by decide)).2.1
theorem LM.w16 {h : Hp} {M : Nat} (l : LM h M) : qW h (M + 9) = 12 := (l.2 (16, 9, 20, 12) (by decide)).2.2
theorem LM.r17 {h : Hp} {M : Nat} (l : LM h M) : qR h M 17 = M + 10 := (l.2 (17, 10, 20, 12) (by decide)).1
theorem LM.o17 {h : Hp} {M : Nat} (l : LM h M) : okr h (M + 10) 20 := (l.2 (17, 10, 20, 12) (by decide)).2.1
theorem LM.w17 {h : Hp} {M : Nat} (l : LM h M) : qW h (M + 10) = 12 := (l.2 (17, 10, 20, 12) (by decide)).2.2
theorem LM.r19 {h : Hp} {M : Nat} (l : LM h M) : qR h M 19 = M + 11 := (l.2 (19, 11, 20, 12) (by decide)).1
theorem LM.o19 {h : Hp} {M : Nat} (l : LM h M) : okr h (M + 11) 20 := (l.2 (19, 11, 20, 12) (by decide)).2.1
theorem LM.w19 {h : Hp} {M : Nat} (l : LM h M) : qW h (M + 11) = 12 := (l.2 (19, 11, 20, 12) (by decide)).2.2
theorem LM.r21 {h : Hp} {M : Nat} (l : LM h M) : qR h M 21 = M + 12 := (l.2 (21, 12, 20, 4) (by decide)).1
theorem LM.o21 {h : Hp} {M : Nat} (l : LM h M) : okr h (M + 12) 20 := (l.2 (21, 12, 20, 4) (by decide)).2.1
theorem LM.w21 {h : Hp} {M : Nat} (l : LM h M) : qW h (M + 12) = 4 := (l.2 (21, 12, 20, 4) (by decide)).2.2
theorem LM.r22 {h : Hp} {M : Nat} (l : LM h M) : qR h M 22 = M + 13 := (l.2 (22, 13, 20, 4) (by decide)).1
theorem LM.o22 {h : Hp} {M : Nat} (l : LM h M) : okr h (M + 13) 20 := (l.2 (22, 13, 20, 4) (by decide)).2.1
theorem LM.w22 {h : Hp} {M : Nat} (l : LM h M) : qW h (M + 13) = 4 := (l.2 (22, 13, 20, 4) (by decide)).2.2
theorem LM.r23 {h : Hp} {M : Nat} (l : LM h M) : qR h M 23 = M + 14 := (l.2 (23, 14, 20, 4) (by decide)).1
theorem LM.o23 {h : Hp} {M : Nat} (l : LM h M) : okr h (M + 14) 20 := (l.2 (23, 14, 20, 4) (by decide)).2.1
theorem LM.w23 {h : Hp} {M : Nat} (l : LM h M) : qW h (M + 14) = 4 := (l.2 (23, 14, 20, 4) (by decide)).2.2
theorem LM.r24 {h : Hp} {M : Nat} (l : LM h M) : qR h M 24 = M + 15 := (l.2 (24, 15, 20, 4) (by decide)).1
theorem LM.o24 {h : Hp} {M : Nat} (l : LM h M) : okr h (M + 15) 20 := (l.2 (24, 15, 20, 4) (by decide)).2.1
theorem LM.w24 {h : Hp} {M : Nat} (l : LM h M) : qW h (M + 15) = 4 := (l.2 (24, 15, 20, 4) (by decide)).2.2
theorem LM.r25 {h : Hp} {M : Nat} (l : LM h M) : qR h M 25 = M + 16 := (l.2 (25, 16, 20, 4) (by decide)).1
theorem LM.o25 {h : Hp} {M : Nat} (l : LM h M) : okr h (M + 16) 20 := (l.2 (25, 16, 20, 4) (by decide)).2.1
theorem LM.w25 {h : Hp} {M : Nat} (l : LM h M) : qW h (M + 16) = 4 := (l.2 (25, 16, 20, 4) (by decide)).2.2
theorem LM.r26 {h : Hp} {M : Nat} (l : LM h M) : qR h M 26 = M + 17 := (l.2 (26, 17, 20, 16) (by decide)).1
theorem LM.o26 {h : Hp} {M : Nat} (l : LM h M) : okr h (M + 17) 20 := (l.2 (26, 17, 20, 16) (by decide)).2.1
theorem LM.w26 {h : Hp} {M : Nat} (l : LM h M) : qW h (M + 17) = 16 := (l.2 (26, 17, 20, 16) (by decide)).2.2
theorem LM.r27 {h : Hp} {M : Nat} (l : LM h M) : qR h M 27 = M + 18 := (l.2 (27, 18, 20, 4) (by decide)).1
theorem LM.o27 {h : Hp} {M : Nat} (l : LM h M) : okr h (M + 18) 20 := (l.2 (27, 18, 20, 4) (by decide)).2.1
theorem LM.w27 {h : Hp} {M : Nat} (l : LM h M) : qW h (M + 18) = 4 := (l.2 (27, 18, 20, 4) (by decide)).2.2
theorem LM.r28 {h : Hp} {M : Nat} (l : LM h M) : qR h M 28 = M + 19 := (l.2 (28, 19, 20, 1600) (by decide)).1
theorem LM.o28 {h : Hp} {M : Nat} (l : LM h M) : okr h (M + 19) 20 := (l.2 (28, 19, 20, 1600) (by decide)).2.1
theorem LM.w28 {h : Hp} {M : Nat} (l : LM h M) : qW h (M + 19) = 1600 := (l.2 (28, 19, 20, 1600) (by decide)).2.2
theorem LM.r29 {h : Hp} {M : Nat} (l : LM h M) : qR h M 29 = M + 20 := (l.2 (29, 20, 20, 6) (by decide)).1
theorem LM.o29 {h : Hp} {M : Nat} (l : LM h M) : okr h (M + 20) 20 := (l.2 (29, 20, 20, 6) (by decide)).2.1
theorem LM.w29 {h : Hp} {M : Nat} (l : LM h M) : qW h (M + 20) = 6 := (l.2 (29, 20, 20, 6) (by decide)).2.2
theorem LM.r30 {h : Hp} {M : Nat} (l : LM h M) : qR h M 30 = M + 21 := (l.2 (30, 21, 20, 4) (by decide)).1
theorem LM.o30 {h : Hp} {M : Nat} (l : LM h M) : okr h (M + 21) 20 := (l.2 (30, 21, 20, 4) (by decide)).2.1
theorem LM.w30 {h : Hp} {M : Nat} (l : LM h M) : qW h (M + 21) = 4 := (l.2 (30, 21, 20, 4) (by decide)).2.2
theorem LM.r31 {h : Hp} {M : Nat} (l : LM h M) : qR h M 31 = M + 22 := (l.2 (31, 22, 20, 4) (by decide)).1
theorem LM.o31 {h : Hp} {M : Nat} (l : LM h M) : okr h (M + 22) 20 := (l.2 (31, 22, 20, 4) (by decide)).2.1
theorem LM.w31 {h : Hp} {M : Nat} (l : LM h M) : qW h (M + 22) = 4 := (l.2 (31, 22, 20, 4) (by decide)).2.2
theorem LM.r33 {h : Hp} {M : Nat} (l : LM h M) : qR h M 33 = M + 23 := (l.2 (33, 23, 20, 4) (by decide)).1
theorem LM.o33 {h : Hp} {M : Nat} (l : LM h M) : okr h (M + 23) 20 := (l.2 (33, 23, 20, 4) (by decide)).2.1
theorem LM.w33 {h : Hp} {M : Nat} (l : LM h M) : qW h (M + 23) = 4 := (l.2 (33, 23, 20, 4) (by decide)).2.2
theorem LM.o {h : Hp} {M : Nat} (l : LM h M) : okr h M 9 := l.1
def mnB (b : Int → Int) : Int := S_min (b 3) (b 5) (psB b)
def mxB (b : Int → Int) : Int := S_max (b 3) (b 5) (psB b)
def lnB (b : Int → Int) (x : Int) : List Int := S_brk (x - indOf (b 3)) (psB b) [] 0 false
def picF (wd ht x : Int) : Int := (FP.f2i (FP.fmul (FP.fdiv (FP.i2f (iN x)) (FP.i2f (iN wd))) (FP.i2f (iN ht)))).toInt
def picN (wd ht x : Int) : Int := if wd ≤ x then ht else max 1 (picF wd ht x)
def hB (b : Int → Int) (x : Int) : Int := if b 3 ≤ 3 then (lnB b x).length * (if b 3 = 1 then 2 else 1) else if b 3 = 4 then picN (b 5) (b 6) x else b 6
def picC (wd x ht : Nat) : Bool := decide (((FP.fdiv (FP.i2f (iN x)) (FP.i2f (iN wd))) &&& 0x7fffffff) ≤ 0x7f800000) && decide (((FP.fmul (FP.fdiv (FP.i2f (iN x)) (FP.i2f (iN wd))) (FP.i2f (iN ht))) &&& 0x7fffffff) ≤ 0x7f800000) && decide (0 ≤ picF wd ht x) && decide (picF wd ht x ≤ ht) && (if x + 1 < wd then decide (picF wd ht x ≤ picF wd ht (x + 1)) else true)
theorem pic_tab : ((List.range 21).all fun wd => (List.range wd).all fun x => (List.range 21).all fun ht => if 1 ≤ x ∧ 1 ≤ ht then picC wd x ht else true) = true := by decide +kernel
theorem pic_all {wd x ht : Int} (h1 : 1 ≤ x) (h2 : x < wd) (h3 : wd ≤ 20) (h4 : 1 ≤ ht) (h5 : ht ≤ 20) : vf_n32 (FP.fdiv (FP.i2f (iN x)) (FP.i2f (iN wd))) ∧ vf_n32 (FP.fmul (FP.fdiv (FP.i2f (iN x)) (FP.i2f (iN wd))) (FP.i2f (iN ht))) ∧ 0 ≤ picF wd ht x ∧ picF wd ht x ≤ ht ∧ (x + 1 < wd → picF wd ht x ≤ picF wd ht (x + 1)) := by
  obtain ⟨wd, rfl⟩ : ∃ n : Nat, wd = n := ⟨wd.toNat, by omega⟩
  obtain ⟨x, rfl⟩ : ∃ n : Nat, x = n := ⟨x.toNat, by omega⟩
  obtain ⟨ht, rfl⟩ : ∃ n : Nat, ht = n := ⟨ht.toNat, by omega⟩
  have t := List.all_eq_true.mp (List.all_eq_true.mp (List.all_eq_true.mp pic_tab wd (List.mem_range.mpr (by omega))) x (List.mem_range.mpr (by omega))) ht (List.mem_range.mpr (by omega))
  rw [if_pos ⟨by omega, by omega⟩] at t
  unfold picC at t
  simp only [Bool.and_eq_true, decide_eq_true_eq] at t
  obtain ⟨⟨⟨⟨t1, t2⟩, t3⟩, t4⟩, t5⟩ := t
  refine ⟨t1, t2, t3, t4, fun h => ?_⟩
  rw [if_pos (by omega)] at t5
  exact of_decide_eq_true t5
theorem g_cutsB {h : Hp} {M : Nat} {m : Int → Int} (r : RM h M m) {i : Int} (hi : 0 ≤ i ∧ i < 16) (w : WB (blk m i)) : ∃ h2, f_X9_cuts h M (iN i) = some (h2, .inr ()) ∧ FZ (pB M) h h2 ∧ RP h2 M (psB (blk m i)) := by
  obtain ⟨h2, e, y, p, f⟩ := g_cuts hi w.1 w.ws2 w.wl r.1 (r.rw hi w)
  exact ⟨h2, e, ⟨y, fun x j z => f x j (fun q => z (Or.inl ⟨q.1, Or.inl q.2⟩)) (fun q => z (Or.inr (Or.inl q))) (fun q => z (Or.inr (Or.inr (Or.inl q))))⟩, p⟩
theorem g_indB {h : Hp} {M : Nat} {m : Int → Int} (r : RM h M m) {i : Int} (hi : 0 ≤ i ∧ i < 16) (w : WB (blk m i)) : f_X9_indentOf h M (iN i) = some (h, .inr (iN (indOf (blk m i 3)))) := g_indentOf r.1 hi (kd := blk m i 3) (r.2 _ (by omega) (by omega)) w.1
theorem S_lo_0 {ps : List (Int × Int)} {k : Nat} : S_lo ps 0 k = kE1 (pcAt ps k).1 (pcAt ps k).2 := by
  rw [S_lo_us]
  show 0 + kE1 (pcAt ps (k + 0)).1 (pcAt ps (k + 0)).2 = _
  rw [Nat.add_zero]
  omega
theorem g_lcL {h : Hp} {M : Nat} {m : Int → Int} (r : RM h M m) {i : Int} (hi : 0 ≤ i ∧ i < 16) (w : WB (blk m i)) {ps : List (Int × Int)} (hp : PO ps) (p : RP h M ps) : ∀ (d k : Nat) (mx : Int) (n : Nat), k + d = ps.length → d < n → (0 ≤ mx ∧ mx ≤ 1000) →
    f_X9_leastContent_L47 n h M (iN i) (iN mx) (iN k) = some (h, .inr (iN (indOf (blk m i 3) + S_mx (ps.drop k) mx))) := by
  have h12 := hp.2.1
  intro d
  induction d with
  | zero =>
    intro k mx n hk hn hm
    obtain ⟨n, rfl⟩ : ∃ z, n = z + 1 := ⟨n - 1, by omega⟩
    show f_X9_leastContent_B47 (f_X9_leastContent_L47 n) h M (iN i) (iN mx) (iN k) = _
    unfold f_X9_leastContent_B47
    rw [chk_pos r.1.1, p.1, if_pos ((iN_leO (by omega) (by omega) (by omega) (by omega)).mpr (by omega)), g_indB r hi w, bnd_ret, iN_add, show k = ps.length by omega, List.drop_length]
    rfl
  | succ d ih =>
    intro k mx n hk hn hm
    obtain ⟨n, rfl⟩ : ∃ z, n = z + 1 := ⟨n - 1, by omega⟩
    have hkl : k < ps.length := by omega
    have g := g_longOf hp.h2 hp.2.1 r.1 p (d := 0) (k := k) (by omega)
    have bd := S_lo_bd hp.h2 (d := 0) (k := k) (by omega)
    rw [Nat.add_zero] at g
    show f_X9_leastContent_B47 (f_X9_leastContent_L47 n) h M (iN i) (iN mx) (iN k) = _
    unfold f_X9_leastContent_B47
    rw [chk_pos r.1.1, p.1, if_neg (fun z => by have := (iN_leO (by omega) (by omega) (by omega) (by omega)).mp z; omega), g, bnd_ret, g_greater ⟨by omega, by omega⟩ ⟨by omega, by omega⟩, bnd_ret, iN_add]
    have := ih (k + 1) (max mx (S_lo ps 0 k)) n (by omega) (by omega) (by omega)
    rw [show ((k + 1 : Nat) : Int) = (k : Int) + 1 from rfl] at this
    rw [this, drop_pc hkl, S_mx, S_lo_0]
theorem g_mcL {h : Hp} {M : Nat} {m : Int → Int} (r : RM h M m) {i : Int} (hi : 0 ≤ i ∧ i < 16) (w : WB (blk m i)) {ps : List (Int × Int)} (hp : PO ps) (p : RP h M ps) : ∀ (d k f : Nat) (mx : Int) (n : Nat), k + d = ps.length → f ≤ k → d < n → (0 ≤ mx ∧ mx ≤ 5000) →
    f_X9_mostContent_L27 n h M (iN i) (iN mx) (iN f) (iN k) = some (h, .inr (iN (indOf (blk m i 3) + S_my (ps.drop k) mx (S_us ps f (k - f))))) := by
  have h12 := hp.2.1
  intro d
  induction d with
  | zero =>
    intro k f mx n hk hf hn hm
    obtain ⟨n, rfl⟩ : ∃ z, n = z + 1 := ⟨n - 1, by omega⟩
    show f_X9_mostContent_B27 (f_X9_mostContent_L27 n) h M (iN i) (iN mx) (iN f) (iN k) = _
    unfold f_X9_mostContent_B27
    rw [chk_pos r.1.1, p.1, if_pos ((iN_leO (by omega) (by omega) (by omega) (by omega)).mpr (by omega)), g_indB r hi w, bnd_ret, iN_add, show k = ps.length by omega, List.drop_length]
    rfl
  | succ d ih =>
    intro k f mx n hk hf hn hm
    obtain ⟨n, rfl⟩ : ∃ z, n = z + 1 := ⟨n - 1, by omega⟩
    have hkl : k < ps.length := by omega
    obtain ⟨e1, e2⟩ := p.2 k _ (pcAt_get hkl)
    obtain ⟨q1, q2⟩ := hp.1 _ (List.mem_of_getElem? (pcAt_get hkl))
    have g := g_longOf hp.h2 hp.2.1 r.1 p (d := k - f) (k := f) (by omega)
    have bd := S_lo_bd hp.h2 (d := k - f) (k := f) (by omega)
    rw [show f + (k - f) = k by omega] at g
    have elo : S_lo ps (k - f) f = S_us ps f (k - f) + kE1 (pcAt ps k).1 (pcAt ps k).2 := by
      rw [S_lo_us, show f + (k - f) = k by omega]
    show f_X9_mostContent_B27 (f_X9_mostContent_L27 n) h M (iN i) (iN mx) (iN f) (iN k) = _
    unfold f_X9_mostContent_B27 f_X9_mostContent_L64
    rw [chk_pos r.1.1, p.1, if_neg (fun z => by have := (iN_leO (by omega) (by omega) (by omega) (by omega)).mp z; omega), r.1.r17, chk_pos r.1.o17, r.1.w17, ck_in (by omega) (by omega) (by omega), iN_clN (by omega), e2, drop_pc hkl, S_my]
    by_cases hb : (pcAt ps k).2 = 1
    · rw [if_pos (by rw [hb]), if_pos hb, g, bnd_ret, g_greater ⟨by omega, by omega⟩ ⟨by omega, by omega⟩, bnd_ret, iN_add]
      have := ih (k + 1) (k + 1) (max mx (S_lo ps (k - f) f)) n (by omega) (by omega) (by omega) (by omega)
      rw [show ((k + 1 : Nat) : Int) = (k : Int) + 1 from rfl, Nat.sub_self] at this
      rw [this, elo]
      rfl
    · rw [if_neg (fun z => hb ((iN_eqO (by omega) (by omega) (by omega) (by omega)).mp z)), if_neg hb, iN_add]
      have := ih (k + 1) f mx n (by omega) (by omega) (by omega) (by omega)
      rw [show ((k + 1 : Nat) : Int) = (k : Int) + 1 from rfl, show k + 1 - f = (k - f) + 1 by omega, S_us, show f + (k - f) = k by omega] at this
      exact this
theorem g_leastContent {h : Hp} {M : Nat} {m : Int → Int} (r : RM h M m) {i : Int} (hi : 0 ≤ i ∧ i < 16) (w : WB (blk m i)) : ∃ h2, f_X9_leastContent h M (iN i) = some (h2, .inr (iN (mnB (blk m i)))) ∧ FZ (pB M) h h2 := by
  have w1 := w.1
  have w3 := w.2.2.1
  unfold f_X9_leastContent mnB S_min
  rw [chk_pos r.1.1, g_ofA r hi (by omega), bnd_ret]
  by_cases h4 : blk m i 3 = 4
  · refine ⟨h, ?_, FZ.rf⟩
    rw [if_pos (by rw [h4]), chk_pos r.1.1, g_ofA r hi (by omega), bnd_ret, chk_pos (by decide), iN_add, iN_div ⟨by omega, by omega⟩ ⟨by omega, by omega⟩ (by omega) (by omega), if_neg (by omega), if_pos h4]
  · rw [if_neg (fun z => h4 ((iN_eqO (by omega) (by omega) (by omega) (by omega)).mp z)), chk_pos r.1.1, g_ofA r hi (by omega), bnd_ret]
    by_cases h5 : blk m i 3 = 5
    · refine ⟨h, ?_, FZ.rf⟩
      rw [if_pos (by rw [h5]), chk_pos r.1.1, g_ofA r hi (by omega), bnd_ret, if_neg (by omega), if_neg h4]
    · rw [if_neg (fun z => h5 ((iN_eqO (by omega) (by omega) (by omega) (by omega)).mp z)), chk_pos r.1.1, if_pos (show blk m i 3 ≤ 3 by omega)]
      obtain ⟨h2, e, f, p⟩ := g_cutsB r hi w
      refine ⟨h2, ?_, f⟩
      rw [e, bnd_ret]
      exact g_lcL (r.b f) hi w (psB_ok w) p (psB (blk m i)).length 0 0 2000 (by omega) (by have := (psB_ok w).2.1; omega) (by omega)
theorem g_mostContent {h : Hp} {M : Nat} {m : Int → Int} (r : RM h M m) {i : Int} (hi : 0 ≤ i ∧ i < 16) (w : WB (blk m i)) : ∃ h2, f_X9_mostContent h M (iN i) = some (h2, .inr (iN (mxB (blk m i)))) ∧ FZ (pB M) h h2 := by
  unfold f_X9_mostContent mxB S_max
  rw [chk_pos r.1.1, g_isText9 r hi w, bnd_ret]
  by_cases h3 : blk m i 3 ≤ 3
  · rw [if_neg (fun z => bN0.mp z h3), chk_pos r.1.1, if_pos h3]
    obtain ⟨h2, e, f, p⟩ := g_cutsB r hi w
    refine ⟨h2, ?_, f⟩
    rw [e, bnd_ret]
    exact g_mcL (r.b f) hi w (psB_ok w) p (psB (blk m i)).length 0 0 0 2000 (by omega) (by omega) (by have := (psB_ok w).2.1; omega) (by omega)
  · refine ⟨h, ?_, FZ.rf⟩
    rw [if_pos (bN0.mpr h3), chk_pos r.1.1, g_ofA r hi (by omega), bnd_ret, if_neg h3]
theorem indOf_bd (k : Int) : 0 ≤ indOf k ∧ indOf k ≤ 2 := by unfold indOf; split <;> omega
theorem g_breaksLines {h : Hp} {M : Nat} {m : Int → Int} (r : RM h M m) {i : Int} (hi : 0 ≤ i ∧ i < 16) (w : WB (blk m i)) {x : Int} (hx : -50000 ≤ x ∧ x ≤ 50000) : ∃ h2, f_X9_breaksLines h M (iN i) (iN x) = some (h2, .inr ()) ∧ FZ (pB M) h h2 ∧ qI h2 M 20 = iN (lnB (blk m i) x).length ∧ ∀ (k : Nat) (y : Int), (lnB (blk m i) x)[k]? = some y → qI h2 (M + 11) k = iN y := by
  obtain ⟨h1, e1, f1, p1⟩ := g_cutsB r hi w
  have f2 : FZ (pB M) h1 (putI h1 M 20 (iN 0)) := FZ.pI (Or.inl ⟨rfl, Or.inr rfl⟩)
  have r2 := (r.b f1).b f2
  have p2 : RP (putI h1 M 20 (iN 0)) M (psB (blk m i)) := by
    refine ⟨by rw [qI_pI, if_neg (by omega)]; exact p1.1, fun k y hk => ?_⟩
    obtain ⟨a, b⟩ := p1.2 k y hk
    rw [qI_pI, if_neg (by omega), qI_pI, if_neg (by omega)]
    exact ⟨a, b⟩
  have ib := indOf_bd (blk m i 3)
  have po := psB_ok w
  obtain ⟨h2, g1, g2, g3, g4⟩ := g_linOut po.1 po.2.1 po.2.2 (room := x - indOf (blk m i 3)) (by omega) 2000 0 [] _ (by omega) (by have := po.2.1; omega) r2.1 p2 (by rw [qI_pI, if_pos ⟨rfl, rfl⟩]; rfl) (fun i x hx => by cases hx) (Nat.le_refl _)
  refine ⟨h2, ?_, (f1.tr f2).tr g2, g3, g4⟩
  unfold f_X9_breaksLines
  rw [chk_pos r.1.1, e1, bnd_ret, chk_pos (r.b f1).1.1, lt_is, g_indB r2 hi w, bnd_ret, iN_sub]
  exact g1
theorem g_contentHeight {h : Hp} {M : Nat} {m : Int → Int} (r : RM h M m) {i : Int} (hi : 0 ≤ i ∧ i < 16) (w : WB (blk m i)) {x : Int} (hx : -50000 ≤ x ∧ x ≤ 50000) (hx1 : 4 ≤ blk m i 3 → 1 ≤ x) : ∃ h2, f_X9_contentHeight h M (iN i) (iN x) = some (h2, .inr (iN (hB (blk m i) x))) ∧ FZ (pB M) h h2 := by
  have w1 := w.1
  have w3 := w.2.2.1
  have w4 := w.2.2.2.1
  unfold f_X9_contentHeight f_X9_contentHeight_L30 f_X9_contentHeight_L38
  rw [chk_pos r.1.1, g_ofA r hi (by omega), bnd_ret]
  by_cases h5 : blk m i 3 = 5
  · refine ⟨h, ?_, FZ.rf⟩
    have eh : hB (blk m i) x = blk m i 6 := by unfold hB; rw [if_neg (by omega), if_neg (by omega)]
    rw [if_pos (by rw [h5]), chk_pos r.1.1, g_ofA r hi (by omega), bnd_ret, eh]
  · rw [if_neg (fun z => h5 ((iN_eqO (by omega) (by omega) (by omega) (by omega)).mp z)), chk_pos r.1.1, g_ofA r hi (by omega), bnd_ret]
    by_cases h4 : blk m i 3 = 4
    · refine ⟨h, ?_, FZ.rf⟩
      have eh : hB (blk m i) x = picN (blk m i 5) (blk m i 6) x := by unfold hB; rw [if_neg (by omega), if_pos h4]
      rw [if_pos (by rw [h4]), chk_pos r.1.1, g_ofA r hi (by omega), bnd_ret, eh]
      unfold picN
      by_cases hw : blk m i 5 ≤ x
      · rw [if_neg (fun z => by have := (iN_ltO (by omega) (by omega) (by omega) (by omega)).mp z; omega), chk_pos r.1.1, g_ofA r hi (by omega), bnd_ret, if_pos hw]
      · obtain ⟨t1, t2, t3, t4, -⟩ := pic_all (wd := blk m i 5) (x := x) (ht := blk m i 6) (hx1 (by omega)) (by omega) (by omega) (by omega) (by omega)
        rw [if_pos ((iN_ltO (by omega) (by omega) (by omega) (by omega)).mpr (by omega)), chk_pos r.1.1, g_ofA r hi (by omega), bnd_ret, if_pos (by rw [h4]), chk_pos r.1.1, g_ofA r hi (by omega), bnd_ret, chk_pos t1, chk_pos r.1.1, g_ofA r hi (by omega), bnd_ret, chk_pos t2, if_neg hw]
        have e : FP.f2i (FP.fmul (FP.fdiv (FP.i2f (iN x)) (FP.i2f (iN (blk m i 5)))) (FP.i2f (iN (blk m i 6)))) = iN (picF (blk m i 5) (blk m i 6) x) := (iN_of _).symm
        rw [e, g_greater ⟨by omega, by omega⟩ ⟨by omega, by omega⟩, bnd_ret, Int.max_comm]
    · rw [if_neg (fun z => h4 ((iN_eqO (by omega) (by omega) (by omega) (by omega)).mp z)), chk_pos r.1.1, g_ofA r hi (by omega), bnd_ret, if_neg (fun z => h4 ((iN_eqO (by omega) (by omega) (by omega) (by omega)).mp z)), chk_pos r.1.1]
      have eh : hB (blk m i) x = (lnB (blk m i) x).length * (if blk m i 3 = 1 then 2 else 1) := by unfold hB; rw [if_pos (by omega)]
      rw [eh]
      obtain ⟨h2, e, f, g3, -⟩ := g_breaksLines r hi w hx
      have r2 := r.b f
      refine ⟨h2, ?_, f⟩
      rw [e, bnd_ret, chk_pos r2.1.1, g_ofA r2 hi (by omega), bnd_ret]
      by_cases h1 : blk m i 3 = 1
      · rw [if_pos (by rw [h1]), chk_pos r2.1.1, g3, iN_mul, if_pos h1, Int.mul_comm]
      · rw [if_neg (fun z => h1 ((iN_eqO (by omega) (by omega) (by omega) (by omega)).mp z)), chk_pos r2.1.1, g3, if_neg h1, Int.mul_one]
def mnC (m : Int → Int) (i : Int) : Int := mnB (blk m i) + 2 * m 3
def mxC (m : Int → Int) (i : Int) : Int := mxB (blk m i) + 2 * m 3
def hC (m : Int → Int) (i x : Int) : Int := hB (blk m i) (x - 2 * m 3) + 2 * m 3
theorem g_rd {h : Hp} {M : Nat} {m : Int → Int} (r : RM h M m) {k : Int} (h0 : 0 ≤ k) (h1 : k < 506) : qI h (M + 1) (iN k).toNatClampNeg = iN (m k) := by
  rw [iN_cl h0 (by omega)]
  exact r.2 k h0 h1
theorem g_leastOf {h : Hp} {M : Nat} {m : Int → Int} (r : RM h M m) {i : Int} (hi : 0 ≤ i ∧ i < 16) (w : WB (blk m i)) : ∃ h2, f_X9_leastOf h M (iN i) = some (h2, .inr (iN (mnC m i))) ∧ FZ (pB M) h h2 := by
  obtain ⟨h2, e, f⟩ := g_leastContent r hi w
  have r2 := r.b f
  refine ⟨h2, ?_, f⟩
  unfold f_X9_leastOf mnC
  rw [chk_pos r.1.1, e, bnd_ret, chk_pos r2.1.1, r2.1.r1, chk_pos r2.1.o1, r2.1.w1, ck_in (by omega) (by omega) (by omega), g_rd r2 (by omega) (by omega), iN_mul, iN_add]
theorem g_mostOf {h : Hp} {M : Nat} {m : Int → Int} (r : RM h M m) {i : Int} (hi : 0 ≤ i ∧ i < 16) (w : WB (blk m i)) : ∃ h2, f_X9_mostOf h M (iN i) = some (h2, .inr (iN (mxC m i))) ∧ FZ (pB M) h h2 := by
  obtain ⟨h2, e, f⟩ := g_mostContent r hi w
  have r2 := r.b f
  refine ⟨h2, ?_, f⟩
  unfold f_X9_mostOf mxC
  rw [chk_pos r.1.1, e, bnd_ret, chk_pos r2.1.1, r2.1.r1, chk_pos r2.1.o1, r2.1.w1, ck_in (by omega) (by omega) (by omega), g_rd r2 (by omega) (by omega), iN_mul, iN_add]
theorem g_heightOf {h : Hp} {M : Nat} {m : Int → Int} (r : RM h M m) {i : Int} (hi : 0 ≤ i ∧ i < 16) (w : WB (blk m i)) (hpd : 0 ≤ m 3 ∧ m 3 ≤ 2) {x : Int} (hx : -10000 ≤ x ∧ x ≤ 10000) (hx1 : 4 ≤ blk m i 3 → 1 ≤ x - 2 * m 3) : ∃ h2, f_X9_heightOf h M (iN i) (iN x) = some (h2, .inr (iN (hC m i x))) ∧ FZ (pB M) h h2 := by
  obtain ⟨h2, e, f⟩ := g_contentHeight r hi w (x := x - 2 * m 3) (by omega) hx1
  have r2 := r.b f
  refine ⟨h2, ?_, f⟩
  unfold f_X9_heightOf hC
  rw [chk_pos r.1.1, r.1.r1, chk_pos r.1.o1, r.1.w1, ck_in (by omega) (by omega) (by omega), g_rd r (by omega) (by omega), iN_mul, iN_sub, e, bnd_ret, chk_pos r2.1.1, r2.1.r1, chk_pos r2.1.o1, r2.1.w1, ck_in (by omega) (by omega) (by omega), g_rd r2 (by omega) (by omega), iN_mul, iN_add]
