/-! ===== STAGE B: the law ===== -/
theorem g_thrown {h : Hp} (s : SL h) {k : Int} (e : qI h 632 0 = iN k) : f_X9_thrown h 632 = some (h, .inr (iN k)) := by
  unfold f_X9_thrown
  rw [chk_pos s.m.1, e]


/-- what both sides' call gives -/
def Bth (h : Hp) (D2 : Dt) (h6 : Hp) (k : Int) (v : Int64) : Prop := (0 ≤ k ∧ k ≤ 4) ∧ WD D2 ∧ SL h6 ∧ CI h6 D2 ∧ RI h6 D2 ∧ qI h6 632 0 = iN k ∧ (k = 0 → qL h6 656 0 = v) ∧ qC h6 ≤ qC h + 1 ∧ qS h6 ≤ qS h + 6
theorem law_op {h : Hp} {D : Dt} {x : Option (Rs Int32)} {y : Hp → Option (Rs Int32)} (o : OpP h D x y) (r : RI h D) : ∃ h2 k D2 h6 v6, x = some (h2, .inr (iN k)) ∧ SL h2 ∧ y h2 = some (h6, .inr (iN v6)) ∧ Bth h D2 h6 k (Int32.toInt64 (iN v6)) := by
  obtain ⟨k, v, D2, hk, wd2, ⟨h1, ex, s1, c1, f1, q1, ec, es⟩, ref⟩ := o
  obtain ⟨h2, v2, ey, kv, e0, fz, r2⟩ := ref h1 s1 (r.fa f1)
  refine ⟨h1, k, D2, h2, v2, ex, s1, ey, hk, wd2, s1.ly fz.1, c1.fb wd2 fz (fun x j z => z), r2, e0, fun z => ?_, by rw [fz.qc.1]; exact ec, by rw [fz.qc.2]; exact es⟩
  rw [show qL h2 = qL h1 from fz.1.2.2.2.2.1, q1 z, kv z]
theorem law_opL {h : Hp} {D : Dt} {x : Option (Rs Int32)} {y : Hp → Option (Rs Int64)} (wd : WD D) (o : OpL h D x y) (r : RI h D) : ∃ h2 k h6 v6, x = some (h2, .inr (iN k)) ∧ SL h2 ∧ y h2 = some (h6, .inr v6) ∧ Bth h D h6 k v6 := by
  obtain ⟨k, v, hk, ⟨h1, ex, s1, c1, f1, q1, ec, es⟩, ref⟩ := o
  obtain ⟨h2, v2, ey, kv, e0, fz, r2⟩ := ref h1 s1 (r.fa f1)
  refine ⟨h1, k, h2, v2, ex, s1, ey, hk, wd, s1.ly fz.1, c1.fb wd fz (fun x j z => z), r2, e0, fun z => ?_, by rw [fz.qc.1]; exact ec, by rw [fz.qc.2]; exact es⟩
  rw [show qL h2 = qL h1 from fz.1.2.2.2.2.1, q1 z, kv z]
theorem law_opD {h : Hp} {D : Dt} {x : Option (Rs Int32)} {y : Hp → Option (Rs Int32)} (o : OpD h D x y) (r : RI h D) : ∃ h2 v D2 h6, x = some (h2, .inr v) ∧ SL h2 ∧ y h2 = some (h6, .inr v) ∧ WD D2 ∧ SL h6 ∧ CI h6 D2 ∧ RI h6 D2 ∧ qC h6 ≤ qC h + 1 ∧ qS h6 ≤ qS h + 6 := by
  obtain ⟨v, D2, wd2, ⟨h1, ex, s1, c1, f1, ec, es⟩, ref⟩ := o
  obtain ⟨h2, ey, fz, r2⟩ := ref h1 s1 (r.fa f1)
  exact ⟨h1, v, D2, h2, ex, s1, ey, wd2, s1.ly fz.1, c1.fb wd2 fz (fun x j z => z), r2, by rw [fz.qc.1]; exact ec, by rw [fz.qc.2]; exact es⟩
theorem law_end {h h6 : Hp} {D2 : Dt} {k : Int} {v : Int64} {K : Hp → Option (Rs Int32)} (b : Bth h D2 h6 k v) : (chk (okr h6 632 9) <| bnd (f_X9_thrown h6 632) fun h9 r10 => if r10 = iN k then (if iN k = 0 then (chk (okr h9 656 21) <| chk (vp_in (iN 0) (qW h9 656)) <| if (lg_cmp (qL h9 656 (Int32.toNatClampNeg (iN 0))) v) = 0 then K h9 else some (h9, .inr (iN 0))) else K h9) else some (h9, .inr (iN 0))) = K h6 := by
  obtain ⟨hk, wd, s6, c6, r6, e0, q, -, -⟩ := b
  rw [chk_pos s6.m.1, g_thrown s6 e0, bnd_ret, if_pos rfl]
  by_cases z : k = 0
  · have t0 : (iN 0).toNatClampNeg = 0 := by rw [iN_cl (by omega) (by omega)]; rfl
    rw [if_pos (show iN k = 0 by rw [z]; rfl), chk_pos s6.oo, s6.ow, ck_in (by omega) (by omega) (by omega), t0, q z, if_pos ((lg_cmp_eq v v).mpr rfl)]
  · rw [if_neg (eN0 z (by omega) (by omega))]
/-- the state after a call, the script's place five further -/
def LwS (k23 : Hp → Nat → Nat → Nat → Int32 → Option (Rs Int32)) (h : Hp) (p : Int) (out : Option (Rs Int32)) : Prop := ∃ h6 D2, out = k23 h6 1 632 656 (iN (p + 5)) ∧ WD D2 ∧ SL h6 ∧ CI h6 D2 ∧ RI h6 D2 ∧ qC h6 ≤ qC h + 1 ∧ qS h6 ≤ qS h + 6
theorem xs_in (v : Int32) : ∃ z, InR z ∧ v = iN z := ⟨v.toInt, ⟨Int32.le_toInt v, Int32.toInt_lt v⟩, (iN_of v).symm⟩
theorem b_0 {xs : Nat → Int32} {n : Nat} {k23 : Hp → Nat → Nat → Nat → Int32 → Option (Rs Int32)} {h : Hp} {D : Dt} {p : Int} (p0 : 0 ≤ p) (p1 : p + 5 ≤ n) (hn : n ≤ 2560) (wd : WD D) (s : SL h) (c : CI h D) (r : RI h D) : LwS k23 h p (f_L_law_L224 xs n k23 h 1 632 656 (iN p)) := by
  obtain ⟨z1, y1, e1⟩ := xs_in (xs (Int32.toNatClampNeg (iN (p + 1))))
  obtain ⟨h2, k, D2, h6, v6, ex, s2, ey, b⟩ := law_op (o_setColumns wd s c y1) r
  refine ⟨h6, D2, ?_, b.2.1, b.2.2.1, b.2.2.2.1, b.2.2.2.2.1, b.2.2.2.2.2.2.2⟩
  unfold f_L_law_L224 f_L_law_L277 f_L_law_L2775
  rw [iN_add, ck_in (by omega) (by omega) (by omega), e1, ex, bnd_ret, ck_in (by omega) (by omega) (by omega), chk_pos s2.m.1, ey, bnd_ret]
  refine (law_end (K := fun g => k23 g 1 632 656 (iN p + iN 5)) b).trans ?_
  rw [iN_add]
theorem b_1 {xs : Nat → Int32} {n : Nat} {k23 : Hp → Nat → Nat → Nat → Int32 → Option (Rs Int32)} {h : Hp} {D : Dt} {p : Int} (p0 : 0 ≤ p) (p1 : p + 5 ≤ n) (hn : n ≤ 2560) (wd : WD D) (s : SL h) (c : CI h D) (r : RI h D) : LwS k23 h p (f_L_law_L280 xs n k23 h 1 632 656 (iN p)) := by
  obtain ⟨z1, y1, e1⟩ := xs_in (xs (Int32.toNatClampNeg (iN (p + 1))))
  obtain ⟨z2, y2, e2⟩ := xs_in (xs (Int32.toNatClampNeg (iN (p + 2))))
  obtain ⟨h2, k, D2, h6, v6, ex, s2, ey, b⟩ := law_op (o_setMeasure wd s c y1 y2) r
  refine ⟨h6, D2, ?_, b.2.1, b.2.2.1, b.2.2.2.1, b.2.2.2.2.1, b.2.2.2.2.2.2.2⟩
  unfold f_L_law_L280 f_L_law_L345 f_L_law_L2775
  rw [iN_add, iN_add, ck_in (by omega) (by omega) (by omega), ck_in (by omega) (by omega) (by omega), e1, e2, ex, bnd_ret, ck_in (by omega) (by omega) (by omega), ck_in (by omega) (by omega) (by omega), chk_pos s2.m.1, ey, bnd_ret]
  refine (law_end (K := fun g => k23 g 1 632 656 (iN p + iN 5)) b).trans ?_
  rw [iN_add]
theorem b_2 {xs : Nat → Int32} {n : Nat} {k23 : Hp → Nat → Nat → Nat → Int32 → Option (Rs Int32)} {h : Hp} {D : Dt} {p : Int} (p0 : 0 ≤ p) (p1 : p + 5 ≤ n) (hn : n ≤ 2560) (wd : WD D) (s : SL h) (c : CI h D) (r : RI h D) : LwS k23 h p (f_L_law_L348 xs n k23 h 1 632 656 (iN p)) := by
  obtain ⟨z1, y1, e1⟩ := xs_in (xs (Int32.toNatClampNeg (iN (p + 1))))
  obtain ⟨z2, y2, e2⟩ := xs_in (xs (Int32.toNatClampNeg (iN (p + 2))))
  obtain ⟨z3, y3, e3⟩ := xs_in (xs (Int32.toNatClampNeg (iN (p + 3))))
  obtain ⟨h2, k, D2, h6, v6, ex, s2, ey, b⟩ := law_op (o_setColumn wd s c y1 y2 y3) r
  refine ⟨h6, D2, ?_, b.2.1, b.2.2.1, b.2.2.2.1, b.2.2.2.2.1, b.2.2.2.2.2.2.2⟩
  unfold f_L_law_L348 f_L_law_L425 f_L_law_L2775
  rw [iN_add, iN_add, iN_add, ck_in (by omega) (by omega) (by omega), ck_in (by omega) (by omega) (by omega), ck_in (by omega) (by omega) (by omega), e1, e2, e3, ex, bnd_ret, ck_in (by omega) (by omega) (by omega), ck_in (by omega) (by omega) (by omega), ck_in (by omega) (by omega) (by omega), chk_pos s2.m.1, ey, bnd_ret]
  refine (law_end (K := fun g => k23 g 1 632 656 (iN p + iN 5)) b).trans ?_
  rw [iN_add]
theorem b_3 {xs : Nat → Int32} {n : Nat} {k23 : Hp → Nat → Nat → Nat → Int32 → Option (Rs Int32)} {h : Hp} {D : Dt} {p : Int} (p0 : 0 ≤ p) (p1 : p + 5 ≤ n) (hn : n ≤ 2560) (wd : WD D) (s : SL h) (c : CI h D) (r : RI h D) : LwS k23 h p (f_L_law_L428 xs n k23 h 1 632 656 (iN p)) := by
  obtain ⟨h2, k, D2, h6, v6, ex, s2, ey, b⟩ := law_op (o_addRow wd s c) r
  refine ⟨h6, D2, ?_, b.2.1, b.2.2.1, b.2.2.2.1, b.2.2.2.2.1, b.2.2.2.2.2.2.2⟩
  unfold f_L_law_L428 f_L_law_L469 f_L_law_L2775
  rw [ex, bnd_ret, chk_pos s2.m.1, ey, bnd_ret]
  refine (law_end (K := fun g => k23 g 1 632 656 (iN p + iN 5)) b).trans ?_
  rw [iN_add]
theorem b_4 {xs : Nat → Int32} {n : Nat} {k23 : Hp → Nat → Nat → Nat → Int32 → Option (Rs Int32)} {h : Hp} {D : Dt} {p : Int} (p0 : 0 ≤ p) (p1 : p + 5 ≤ n) (hn : n ≤ 2560) (wd : WD D) (s : SL h) (c : CI h D) (r : RI h D) : LwS k23 h p (f_L_law_L472 xs n k23 h 1 632 656 (iN p)) := by
  obtain ⟨z1, y1, e1⟩ := xs_in (xs (Int32.toNatClampNeg (iN (p + 1))))
  obtain ⟨z2, y2, e2⟩ := xs_in (xs (Int32.toNatClampNeg (iN (p + 2))))
  obtain ⟨z3, y3, e3⟩ := xs_in (xs (Int32.toNatClampNeg (iN (p + 3))))
  obtain ⟨z4, y4, e4⟩ := xs_in (xs (Int32.toNatClampNeg (iN (p + 4))))
  obtain ⟨h2, k, D2, h6, v6, ex, s2, ey, b⟩ := law_op (o_addCell wd s c y1 y2 y3 y4) r
  refine ⟨h6, D2, ?_, b.2.1, b.2.2.1, b.2.2.2.1, b.2.2.2.2.1, b.2.2.2.2.2.2.2⟩
  unfold f_L_law_L472 f_L_law_L561 f_L_law_L2775
  rw [iN_add, iN_add, iN_add, iN_add, ck_in (by omega) (by omega) (by omega), ck_in (by omega) (by omega) (by omega), ck_in (by omega) (by omega) (by omega), ck_in (by omega) (by omega) (by omega), e1, e2, e3, e4, ex, bnd_ret, ck_in (by omega) (by omega) (by omega), ck_in (by omega) (by omega) (by omega), ck_in (by omega) (by omega) (by omega), ck_in (by omega) (by omega) (by omega), chk_pos s2.m.1, ey, bnd_ret]
  refine (law_end (K := fun g => k23 g 1 632 656 (iN p + iN 5)) b).trans ?_
  rw [iN_add]
theorem b_5 {xs : Nat → Int32} {n : Nat} {k23 : Hp → Nat → Nat → Nat → Int32 → Option (Rs Int32)} {h : Hp} {D : Dt} {p : Int} (p0 : 0 ≤ p) (p1 : p + 5 ≤ n) (hn : n ≤ 2560) (wd : WD D) (s : SL h) (c : CI h D) (r : RI h D) : LwS k23 h p (f_L_law_L564 xs n k23 h 1 632 656 (iN p)) := by
  obtain ⟨z1, y1, e1⟩ := xs_in (xs (Int32.toNatClampNeg (iN (p + 1))))
  obtain ⟨h2, k, D2, h6, v6, ex, s2, ey, b⟩ := law_op (o_removeCell wd s c y1) r
  refine ⟨h6, D2, ?_, b.2.1, b.2.2.1, b.2.2.2.1, b.2.2.2.2.1, b.2.2.2.2.2.2.2⟩
  unfold f_L_law_L564 f_L_law_L617 f_L_law_L2775
  rw [iN_add, ck_in (by omega) (by omega) (by omega), e1, ex, bnd_ret, ck_in (by omega) (by omega) (by omega), chk_pos s2.m.1, ey, bnd_ret]
  refine (law_end (K := fun g => k23 g 1 632 656 (iN p + iN 5)) b).trans ?_
  rw [iN_add]
theorem b_6 {xs : Nat → Int32} {n : Nat} {k23 : Hp → Nat → Nat → Nat → Int32 → Option (Rs Int32)} {h : Hp} {D : Dt} {p : Int} (p0 : 0 ≤ p) (p1 : p + 5 ≤ n) (hn : n ≤ 2560) (wd : WD D) (s : SL h) (c : CI h D) (r : RI h D) : LwS k23 h p (f_L_law_L620 xs n k23 h 1 632 656 (iN p)) := by
  obtain ⟨z1, y1, e1⟩ := xs_in (xs (Int32.toNatClampNeg (iN (p + 1))))
  obtain ⟨z2, y2, e2⟩ := xs_in (xs (Int32.toNatClampNeg (iN (p + 2))))
  obtain ⟨z3, y3, e3⟩ := xs_in (xs (Int32.toNatClampNeg (iN (p + 3))))
  obtain ⟨h2, k, D2, h6, v6, ex, s2, ey, b⟩ := law_op (o_addWord wd s c y1 y2 y3) r
  refine ⟨h6, D2, ?_, b.2.1, b.2.2.1, b.2.2.2.1, b.2.2.2.2.1, b.2.2.2.2.2.2.2⟩
  unfold f_L_law_L620 f_L_law_L697 f_L_law_L2775
  rw [iN_add, iN_add, iN_add, ck_in (by omega) (by omega) (by omega), ck_in (by omega) (by omega) (by omega), ck_in (by omega) (by omega) (by omega), e1, e2, e3, ex, bnd_ret, ck_in (by omega) (by omega) (by omega), ck_in (by omega) (by omega) (by omega), ck_in (by omega) (by omega) (by omega), chk_pos s2.m.1, ey, bnd_ret]
  refine (law_end (K := fun g => k23 g 1 632 656 (iN p + iN 5)) b).trans ?_
  rw [iN_add]
theorem b_7 {xs : Nat → Int32} {n : Nat} {k23 : Hp → Nat → Nat → Nat → Int32 → Option (Rs Int32)} {h : Hp} {D : Dt} {p : Int} (p0 : 0 ≤ p) (p1 : p + 5 ≤ n) (hn : n ≤ 2560) (wd : WD D) (s : SL h) (c : CI h D) (r : RI h D) : LwS k23 h p (f_L_law_L700 xs n k23 h 1 632 656 (iN p)) := by
  obtain ⟨z1, y1, e1⟩ := xs_in (xs (Int32.toNatClampNeg (iN (p + 1))))
  obtain ⟨h2, k, D2, h6, v6, ex, s2, ey, b⟩ := law_op (o_clearWords wd s c y1) r
  refine ⟨h6, D2, ?_, b.2.1, b.2.2.1, b.2.2.2.1, b.2.2.2.2.1, b.2.2.2.2.2.2.2⟩
  unfold f_L_law_L700 f_L_law_L753 f_L_law_L2775
  rw [iN_add, ck_in (by omega) (by omega) (by omega), e1, ex, bnd_ret, ck_in (by omega) (by omega) (by omega), chk_pos s2.m.1, ey, bnd_ret]
  refine (law_end (K := fun g => k23 g 1 632 656 (iN p + iN 5)) b).trans ?_
  rw [iN_add]
theorem b_8 {xs : Nat → Int32} {n : Nat} {k23 : Hp → Nat → Nat → Nat → Int32 → Option (Rs Int32)} {h : Hp} {D : Dt} {p : Int} (p0 : 0 ≤ p) (p1 : p + 5 ≤ n) (hn : n ≤ 2560) (wd : WD D) (s : SL h) (c : CI h D) (r : RI h D) : LwS k23 h p (f_L_law_L756 xs n k23 h 1 632 656 (iN p)) := by
  obtain ⟨z1, y1, e1⟩ := xs_in (xs (Int32.toNatClampNeg (iN (p + 1))))
  obtain ⟨z2, y2, e2⟩ := xs_in (xs (Int32.toNatClampNeg (iN (p + 2))))
  obtain ⟨z3, y3, e3⟩ := xs_in (xs (Int32.toNatClampNeg (iN (p + 3))))
  obtain ⟨h2, k, D2, h6, v6, ex, s2, ey, b⟩ := law_op (o_setSize wd s c y1 y2 y3) r
  refine ⟨h6, D2, ?_, b.2.1, b.2.2.1, b.2.2.2.1, b.2.2.2.2.1, b.2.2.2.2.2.2.2⟩
  unfold f_L_law_L756 f_L_law_L833 f_L_law_L2775
  rw [iN_add, iN_add, iN_add, ck_in (by omega) (by omega) (by omega), ck_in (by omega) (by omega) (by omega), ck_in (by omega) (by omega) (by omega), e1, e2, e3, ex, bnd_ret, ck_in (by omega) (by omega) (by omega), ck_in (by omega) (by omega) (by omega), ck_in (by omega) (by omega) (by omega), chk_pos s2.m.1, ey, bnd_ret]
  refine (law_end (K := fun g => k23 g 1 632 656 (iN p + iN 5)) b).trans ?_
  rw [iN_add]
theorem b_9 {xs : Nat → Int32} {n : Nat} {k23 : Hp → Nat → Nat → Nat → Int32 → Option (Rs Int32)} {h : Hp} {D : Dt} {p : Int} (p0 : 0 ≤ p) (p1 : p + 5 ≤ n) (hn : n ≤ 2560) (wd : WD D) (s : SL h) (c : CI h D) (r : RI h D) : LwS k23 h p (f_L_law_L836 xs n k23 h 1 632 656 (iN p)) := by
  obtain ⟨z1, y1, e1⟩ := xs_in (xs (Int32.toNatClampNeg (iN (p + 1))))
  obtain ⟨z2, y2, e2⟩ := xs_in (xs (Int32.toNatClampNeg (iN (p + 2))))
  obtain ⟨h2, k, D2, h6, v6, ex, s2, ey, b⟩ := law_op (o_setKind wd s c y1 y2) r
  refine ⟨h6, D2, ?_, b.2.1, b.2.2.1, b.2.2.2.1, b.2.2.2.2.1, b.2.2.2.2.2.2.2⟩
  unfold f_L_law_L836 f_L_law_L901 f_L_law_L2775
  rw [iN_add, iN_add, ck_in (by omega) (by omega) (by omega), ck_in (by omega) (by omega) (by omega), e1, e2, ex, bnd_ret, ck_in (by omega) (by omega) (by omega), ck_in (by omega) (by omega) (by omega), chk_pos s2.m.1, ey, bnd_ret]
  refine (law_end (K := fun g => k23 g 1 632 656 (iN p + iN 5)) b).trans ?_
  rw [iN_add]
theorem b_10 {xs : Nat → Int32} {n : Nat} {k23 : Hp → Nat → Nat → Nat → Int32 → Option (Rs Int32)} {h : Hp} {D : Dt} {p : Int} (p0 : 0 ≤ p) (p1 : p + 5 ≤ n) (hn : n ≤ 2560) (wd : WD D) (s : SL h) (c : CI h D) (r : RI h D) : LwS k23 h p (f_L_law_L904 xs n k23 h 1 632 656 (iN p)) := by
  obtain ⟨h2, k, D2, h6, v6, ex, s2, ey, b⟩ := law_op (o_append wd s c (x := xs (Int32.toNatClampNeg (iN (p + 1))))) r
  refine ⟨h6, D2, ?_, b.2.1, b.2.2.1, b.2.2.2.1, b.2.2.2.2.1, b.2.2.2.2.2.2.2⟩
  unfold f_L_law_L904 f_L_law_L957 f_L_law_L2775
  rw [iN_add, ck_in (by omega) (by omega) (by omega), ex, bnd_ret, ck_in (by omega) (by omega) (by omega), chk_pos s2.m.1, ey, bnd_ret]
  refine (law_end (K := fun g => k23 g 1 632 656 (iN p + iN 5)) b).trans ?_
  rw [iN_add]
theorem b_11 {xs : Nat → Int32} {n : Nat} {k23 : Hp → Nat → Nat → Nat → Int32 → Option (Rs Int32)} {h : Hp} {D : Dt} {p : Int} (p0 : 0 ≤ p) (p1 : p + 5 ≤ n) (hn : n ≤ 2560) (wd : WD D) (s : SL h) (c : CI h D) (r : RI h D) : LwS k23 h p (f_L_law_L960 xs n k23 h 1 632 656 (iN p)) := by
  obtain ⟨h2, k, D2, h6, v6, ex, s2, ey, b⟩ := law_op (o_execute wd s c) r
  refine ⟨h6, D2, ?_, b.2.1, b.2.2.1, b.2.2.2.1, b.2.2.2.2.1, b.2.2.2.2.2.2.2⟩
  unfold f_L_law_L960 f_L_law_L1001 f_L_law_L2775
  rw [ex, bnd_ret, chk_pos s2.m.1, ey, bnd_ret]
  refine (law_end (K := fun g => k23 g 1 632 656 (iN p + iN 5)) b).trans ?_
  rw [iN_add]
theorem b_12 {xs : Nat → Int32} {n : Nat} {k23 : Hp → Nat → Nat → Nat → Int32 → Option (Rs Int32)} {h : Hp} {D : Dt} {p : Int} (p0 : 0 ≤ p) (p1 : p + 5 ≤ n) (hn : n ≤ 2560) (wd : WD D) (s : SL h) (c : CI h D) (r : RI h D) : LwS k23 h p (f_L_law_L1004 xs n k23 h 1 632 656 (iN p)) := by
  obtain ⟨h2, v, D2, h6, ex, s2, ey, b1, b2, b3, b4, b5, b6⟩ := law_opD (o_errorPosition wd s c) r
  refine ⟨h6, D2, ?_, b1, b2, b3, b4, b5, b6⟩
  unfold f_L_law_L1004 f_L_law_L2775
  rw [chk_pos s.o1, ex, bnd_ret, chk_pos s2.m.1, ey, bnd_ret, if_pos rfl, iN_add]
theorem b_13 {xs : Nat → Int32} {n : Nat} {k23 : Hp → Nat → Nat → Nat → Int32 → Option (Rs Int32)} {h : Hp} {D : Dt} {p : Int} (p0 : 0 ≤ p) (p1 : p + 5 ≤ n) (hn : n ≤ 2560) (wd : WD D) (s : SL h) (c : CI h D) (r : RI h D) : LwS k23 h p (f_L_law_L1017 xs n k23 h 1 632 656 (iN p)) := by
  obtain ⟨z1, y1, e1⟩ := xs_in (xs (Int32.toNatClampNeg (iN (p + 1))))
  obtain ⟨h2, k, D2, h6, v6, ex, s2, ey, b⟩ := law_op (o_count wd s c y1) r
  refine ⟨h6, D2, ?_, b.2.1, b.2.2.1, b.2.2.2.1, b.2.2.2.2.1, b.2.2.2.2.2.2.2⟩
  unfold f_L_law_L1017 f_L_law_L1070 f_L_law_L2775
  rw [iN_add, ck_in (by omega) (by omega) (by omega), e1, ex, bnd_ret, ck_in (by omega) (by omega) (by omega), chk_pos s2.m.1, ey, bnd_ret]
  refine (law_end (K := fun g => k23 g 1 632 656 (iN p + iN 5)) b).trans ?_
  rw [iN_add]
theorem b_14 {xs : Nat → Int32} {n : Nat} {k23 : Hp → Nat → Nat → Nat → Int32 → Option (Rs Int32)} {h : Hp} {D : Dt} {p : Int} (p0 : 0 ≤ p) (p1 : p + 5 ≤ n) (hn : n ≤ 2560) (wd : WD D) (s : SL h) (c : CI h D) (r : RI h D) : LwS k23 h p (f_L_law_L1073 xs n k23 h 1 632 656 (iN p)) := by
  obtain ⟨z1, y1, e1⟩ := xs_in (xs (Int32.toNatClampNeg (iN (p + 1))))
  obtain ⟨z2, y2, e2⟩ := xs_in (xs (Int32.toNatClampNeg (iN (p + 2))))
  obtain ⟨h2, k, D2, h6, v6, ex, s2, ey, b⟩ := law_op (o_property wd s c y1 y2) r
  refine ⟨h6, D2, ?_, b.2.1, b.2.2.1, b.2.2.2.1, b.2.2.2.2.1, b.2.2.2.2.2.2.2⟩
  unfold f_L_law_L1073 f_L_law_L1138 f_L_law_L2775
  rw [iN_add, iN_add, ck_in (by omega) (by omega) (by omega), ck_in (by omega) (by omega) (by omega), e1, e2, ex, bnd_ret, ck_in (by omega) (by omega) (by omega), ck_in (by omega) (by omega) (by omega), chk_pos s2.m.1, ey, bnd_ret]
  refine (law_end (K := fun g => k23 g 1 632 656 (iN p + iN 5)) b).trans ?_
  rw [iN_add]
theorem b_15 {xs : Nat → Int32} {n : Nat} {k23 : Hp → Nat → Nat → Nat → Int32 → Option (Rs Int32)} {h : Hp} {D : Dt} {p : Int} (p0 : 0 ≤ p) (p1 : p + 5 ≤ n) (hn : n ≤ 2560) (wd : WD D) (s : SL h) (c : CI h D) (r : RI h D) : LwS k23 h p (f_L_law_L1141 xs n k23 h 1 632 656 (iN p)) := by
  obtain ⟨z1, y1, e1⟩ := xs_in (xs (Int32.toNatClampNeg (iN (p + 1))))
  obtain ⟨z2, y2, e2⟩ := xs_in (xs (Int32.toNatClampNeg (iN (p + 2))))
  obtain ⟨h2, k, D2, h6, v6, ex, s2, ey, b⟩ := law_op (o_cellAt wd s c y1 y2) r
  refine ⟨h6, D2, ?_, b.2.1, b.2.2.1, b.2.2.2.1, b.2.2.2.2.1, b.2.2.2.2.2.2.2⟩
  unfold f_L_law_L1141 f_L_law_L1206 f_L_law_L2775
  rw [iN_add, iN_add, ck_in (by omega) (by omega) (by omega), ck_in (by omega) (by omega) (by omega), e1, e2, ex, bnd_ret, ck_in (by omega) (by omega) (by omega), ck_in (by omega) (by omega) (by omega), chk_pos s2.m.1, ey, bnd_ret]
  refine (law_end (K := fun g => k23 g 1 632 656 (iN p + iN 5)) b).trans ?_
  rw [iN_add]
theorem b_16 {xs : Nat → Int32} {n : Nat} {k23 : Hp → Nat → Nat → Nat → Int32 → Option (Rs Int32)} {h : Hp} {D : Dt} {p : Int} (p0 : 0 ≤ p) (p1 : p + 5 ≤ n) (hn : n ≤ 2560) (wd : WD D) (s : SL h) (c : CI h D) (r : RI h D) : LwS k23 h p (f_L_law_L1209 xs n k23 h 1 632 656 (iN p)) := by
  obtain ⟨z1, y1, e1⟩ := xs_in (xs (Int32.toNatClampNeg (iN (p + 1))))
  obtain ⟨z2, y2, e2⟩ := xs_in (xs (Int32.toNatClampNeg (iN (p + 2))))
  obtain ⟨h2, k, D2, h6, v6, ex, s2, ey, b⟩ := law_op (o_lineCount wd s c y1 y2) r
  refine ⟨h6, D2, ?_, b.2.1, b.2.2.1, b.2.2.2.1, b.2.2.2.2.1, b.2.2.2.2.2.2.2⟩
  unfold f_L_law_L1209 f_L_law_L1274 f_L_law_L2775
  rw [iN_add, iN_add, ck_in (by omega) (by omega) (by omega), ck_in (by omega) (by omega) (by omega), e1, e2, ex, bnd_ret, ck_in (by omega) (by omega) (by omega), ck_in (by omega) (by omega) (by omega), chk_pos s2.m.1, ey, bnd_ret]
  refine (law_end (K := fun g => k23 g 1 632 656 (iN p + iN 5)) b).trans ?_
  rw [iN_add]
theorem b_17 {xs : Nat → Int32} {n : Nat} {k23 : Hp → Nat → Nat → Nat → Int32 → Option (Rs Int32)} {h : Hp} {D : Dt} {p : Int} (p0 : 0 ≤ p) (p1 : p + 5 ≤ n) (hn : n ≤ 2560) (wd : WD D) (s : SL h) (c : CI h D) (r : RI h D) : LwS k23 h p (f_L_law_L1277 xs n k23 h 1 632 656 (iN p)) := by
  obtain ⟨z1, y1, e1⟩ := xs_in (xs (Int32.toNatClampNeg (iN (p + 1))))
  obtain ⟨z2, y2, e2⟩ := xs_in (xs (Int32.toNatClampNeg (iN (p + 2))))
  obtain ⟨z3, y3, e3⟩ := xs_in (xs (Int32.toNatClampNeg (iN (p + 3))))
  obtain ⟨h2, k, D2, h6, v6, ex, s2, ey, b⟩ := law_op (o_lineLength wd s c y1 y2 y3) r
  refine ⟨h6, D2, ?_, b.2.1, b.2.2.1, b.2.2.2.1, b.2.2.2.2.1, b.2.2.2.2.2.2.2⟩
  unfold f_L_law_L1277 f_L_law_L1354 f_L_law_L2775
  rw [iN_add, iN_add, iN_add, ck_in (by omega) (by omega) (by omega), ck_in (by omega) (by omega) (by omega), ck_in (by omega) (by omega) (by omega), e1, e2, e3, ex, bnd_ret, ck_in (by omega) (by omega) (by omega), ck_in (by omega) (by omega) (by omega), ck_in (by omega) (by omega) (by omega), chk_pos s2.m.1, ey, bnd_ret]
  refine (law_end (K := fun g => k23 g 1 632 656 (iN p + iN 5)) b).trans ?_
  rw [iN_add]
theorem b_18 {xs : Nat → Int32} {n : Nat} {k23 : Hp → Nat → Nat → Nat → Int32 → Option (Rs Int32)} {h : Hp} {D : Dt} {p : Int} (p0 : 0 ≤ p) (p1 : p + 5 ≤ n) (hn : n ≤ 2560) (wd : WD D) (s : SL h) (c : CI h D) (r : RI h D) : LwS k23 h p (f_L_law_L1357 xs n k23 h 1 632 656 (iN p)) := by
  obtain ⟨z1, y1, e1⟩ := xs_in (xs (Int32.toNatClampNeg (iN (p + 1))))
  obtain ⟨z2, y2, e2⟩ := xs_in (xs (Int32.toNatClampNeg (iN (p + 2))))
  obtain ⟨h2, k, D2, h6, v6, ex, s2, ey, b⟩ := law_op (o_cellHeight wd s c y1 y2) r
  refine ⟨h6, D2, ?_, b.2.1, b.2.2.1, b.2.2.2.1, b.2.2.2.2.1, b.2.2.2.2.2.2.2⟩
  unfold f_L_law_L1357 f_L_law_L1422 f_L_law_L2775
  rw [iN_add, iN_add, ck_in (by omega) (by omega) (by omega), ck_in (by omega) (by omega) (by omega), e1, e2, ex, bnd_ret, ck_in (by omega) (by omega) (by omega), ck_in (by omega) (by omega) (by omega), chk_pos s2.m.1, ey, bnd_ret]
  refine (law_end (K := fun g => k23 g 1 632 656 (iN p + iN 5)) b).trans ?_
  rw [iN_add]
theorem b_19 {xs : Nat → Int32} {n : Nat} {k23 : Hp → Nat → Nat → Nat → Int32 → Option (Rs Int32)} {h : Hp} {D : Dt} {p : Int} (p0 : 0 ≤ p) (p1 : p + 5 ≤ n) (hn : n ≤ 2560) (wd : WD D) (s : SL h) (c : CI h D) (r : RI h D) : LwS k23 h p (f_L_law_L1425 xs n k23 h 1 632 656 (iN p)) := by
  obtain ⟨z1, y1, e1⟩ := xs_in (xs (Int32.toNatClampNeg (iN (p + 1))))
  obtain ⟨z2, y2, e2⟩ := xs_in (xs (Int32.toNatClampNeg (iN (p + 2))))
  obtain ⟨h2, k, D2, h6, v6, ex, s2, ey, b⟩ := law_op (o_nextStep wd s c y1 y2) r
  refine ⟨h6, D2, ?_, b.2.1, b.2.2.1, b.2.2.2.1, b.2.2.2.2.1, b.2.2.2.2.2.2.2⟩
  unfold f_L_law_L1425 f_L_law_L1490 f_L_law_L2775
  rw [iN_add, iN_add, ck_in (by omega) (by omega) (by omega), ck_in (by omega) (by omega) (by omega), e1, e2, ex, bnd_ret, ck_in (by omega) (by omega) (by omega), ck_in (by omega) (by omega) (by omega), chk_pos s2.m.1, ey, bnd_ret]
  refine (law_end (K := fun g => k23 g 1 632 656 (iN p + iN 5)) b).trans ?_
  rw [iN_add]
theorem b_20 {xs : Nat → Int32} {n : Nat} {k23 : Hp → Nat → Nat → Nat → Int32 → Option (Rs Int32)} {h : Hp} {D : Dt} {p : Int} (p0 : 0 ≤ p) (p1 : p + 5 ≤ n) (hn : n ≤ 2560) (wd : WD D) (s : SL h) (c : CI h D) (r : RI h D) : LwS k23 h p (f_L_law_L1493 xs n k23 h 1 632 656 (iN p)) := by
  obtain ⟨z1, y1, e1⟩ := xs_in (xs (Int32.toNatClampNeg (iN (p + 1))))
  obtain ⟨z2, y2, e2⟩ := xs_in (xs (Int32.toNatClampNeg (iN (p + 2))))
  obtain ⟨h2, k, D2, h6, v6, ex, s2, ey, b⟩ := law_op (o_columnWidth wd s c y1 y2) r
  refine ⟨h6, D2, ?_, b.2.1, b.2.2.1, b.2.2.2.1, b.2.2.2.2.1, b.2.2.2.2.2.2.2⟩
  unfold f_L_law_L1493 f_L_law_L1558 f_L_law_L2775
  rw [iN_add, iN_add, ck_in (by omega) (by omega) (by omega), ck_in (by omega) (by omega) (by omega), e1, e2, ex, bnd_ret, ck_in (by omega) (by omega) (by omega), ck_in (by omega) (by omega) (by omega), chk_pos s2.m.1, ey, bnd_ret]
  refine (law_end (K := fun g => k23 g 1 632 656 (iN p + iN 5)) b).trans ?_
  rw [iN_add]
theorem b_21 {xs : Nat → Int32} {n : Nat} {k23 : Hp → Nat → Nat → Nat → Int32 → Option (Rs Int32)} {h : Hp} {D : Dt} {p : Int} (p0 : 0 ≤ p) (p1 : p + 5 ≤ n) (hn : n ≤ 2560) (wd : WD D) (s : SL h) (c : CI h D) (r : RI h D) : LwS k23 h p (f_L_law_L1561 xs n k23 h 1 632 656 (iN p)) := by
  obtain ⟨h2, v, D2, h6, ex, s2, ey, b1, b2, b3, b4, b5, b6⟩ := law_opD (o_conflicts wd s c) r
  refine ⟨h6, D2, ?_, b1, b2, b3, b4, b5, b6⟩
  unfold f_L_law_L1561 f_L_law_L2775
  rw [chk_pos s.o1, ex, bnd_ret, chk_pos s2.m.1, ey, bnd_ret, if_pos rfl, iN_add]
theorem b_22 {xs : Nat → Int32} {n : Nat} {k23 : Hp → Nat → Nat → Nat → Int32 → Option (Rs Int32)} {h : Hp} {D : Dt} {p : Int} (p0 : 0 ≤ p) (p1 : p + 5 ≤ n) (hn : n ≤ 2560) (wd : WD D) (s : SL h) (c : CI h D) (r : RI h D) : LwS k23 h p (f_L_law_L1574 xs n k23 h 1 632 656 (iN p)) := by
  obtain ⟨z1, y1, e1⟩ := xs_in (xs (Int32.toNatClampNeg (iN (p + 1))))
  obtain ⟨z2, y2, e2⟩ := xs_in (xs (Int32.toNatClampNeg (iN (p + 2))))
  obtain ⟨h2, k, D2, h6, v6, ex, s2, ey, b⟩ := law_op (o_guess wd s c y1 y2) r
  refine ⟨h6, D2, ?_, b.2.1, b.2.2.1, b.2.2.2.1, b.2.2.2.2.1, b.2.2.2.2.2.2.2⟩
  unfold f_L_law_L1574 f_L_law_L1639 f_L_law_L2775
  rw [iN_add, iN_add, ck_in (by omega) (by omega) (by omega), ck_in (by omega) (by omega) (by omega), e1, e2, ex, bnd_ret, ck_in (by omega) (by omega) (by omega), ck_in (by omega) (by omega) (by omega), chk_pos s2.m.1, ey, bnd_ret]
  refine (law_end (K := fun g => k23 g 1 632 656 (iN p + iN 5)) b).trans ?_
  rw [iN_add]
theorem b_23 {xs : Nat → Int32} {n : Nat} {k23 : Hp → Nat → Nat → Nat → Int32 → Option (Rs Int32)} {h : Hp} {D : Dt} {p : Int} (p0 : 0 ≤ p) (p1 : p + 5 ≤ n) (hn : n ≤ 2560) (wd : WD D) (s : SL h) (c : CI h D) (r : RI h D) : LwS k23 h p (f_L_law_L1642 xs n k23 h 1 632 656 (iN p)) := by
  obtain ⟨z1, y1, e1⟩ := xs_in (xs (Int32.toNatClampNeg (iN (p + 1))))
  obtain ⟨h2, k, D2, h6, v6, ex, s2, ey, b⟩ := law_op (o_autoWidth wd s c y1) r
  refine ⟨h6, D2, ?_, b.2.1, b.2.2.1, b.2.2.2.1, b.2.2.2.2.1, b.2.2.2.2.2.2.2⟩
  unfold f_L_law_L1642 f_L_law_L1695 f_L_law_L2775
  rw [iN_add, ck_in (by omega) (by omega) (by omega), e1, ex, bnd_ret, ck_in (by omega) (by omega) (by omega), chk_pos s2.m.1, ey, bnd_ret]
  refine (law_end (K := fun g => k23 g 1 632 656 (iN p + iN 5)) b).trans ?_
  rw [iN_add]
theorem b_24 {xs : Nat → Int32} {n : Nat} {k23 : Hp → Nat → Nat → Nat → Int32 → Option (Rs Int32)} {h : Hp} {D : Dt} {p : Int} (p0 : 0 ≤ p) (p1 : p + 5 ≤ n) (hn : n ≤ 2560) (wd : WD D) (s : SL h) (c : CI h D) (r : RI h D) : LwS k23 h p (f_L_law_L1698 xs n k23 h 1 632 656 (iN p)) := by
  obtain ⟨h2, k, D2, h6, v6, ex, s2, ey, b⟩ := law_op (o_autoHeight wd s c) r
  refine ⟨h6, D2, ?_, b.2.1, b.2.2.1, b.2.2.2.1, b.2.2.2.2.1, b.2.2.2.2.2.2.2⟩
  unfold f_L_law_L1698 f_L_law_L1739 f_L_law_L2775
  rw [ex, bnd_ret, chk_pos s2.m.1, ey, bnd_ret]
  refine (law_end (K := fun g => k23 g 1 632 656 (iN p + iN 5)) b).trans ?_
  rw [iN_add]
theorem b_25 {xs : Nat → Int32} {n : Nat} {k23 : Hp → Nat → Nat → Nat → Int32 → Option (Rs Int32)} {h : Hp} {D : Dt} {p : Int} (p0 : 0 ≤ p) (p1 : p + 5 ≤ n) (hn : n ≤ 2560) (wd : WD D) (s : SL h) (c : CI h D) (r : RI h D) : LwS k23 h p (f_L_law_L1742 xs n k23 h 1 632 656 (iN p)) := by
  obtain ⟨z1, y1, e1⟩ := xs_in (xs (Int32.toNatClampNeg (iN (p + 1))))
  obtain ⟨h2, k, D2, h6, v6, ex, s2, ey, b⟩ := law_op (o_bestWidth wd s c y1) r
  refine ⟨h6, D2, ?_, b.2.1, b.2.2.1, b.2.2.2.1, b.2.2.2.2.1, b.2.2.2.2.2.2.2⟩
  unfold f_L_law_L1742 f_L_law_L1795 f_L_law_L2775
  rw [iN_add, ck_in (by omega) (by omega) (by omega), e1, ex, bnd_ret, ck_in (by omega) (by omega) (by omega), chk_pos s2.m.1, ey, bnd_ret]
  refine (law_end (K := fun g => k23 g 1 632 656 (iN p + iN 5)) b).trans ?_
  rw [iN_add]
theorem b_26 {xs : Nat → Int32} {n : Nat} {k23 : Hp → Nat → Nat → Nat → Int32 → Option (Rs Int32)} {h : Hp} {D : Dt} {p : Int} (p0 : 0 ≤ p) (p1 : p + 5 ≤ n) (hn : n ≤ 2560) (wd : WD D) (s : SL h) (c : CI h D) (r : RI h D) : LwS k23 h p (f_L_law_L1798 xs n k23 h 1 632 656 (iN p)) := by
  obtain ⟨h2, k, D2, h6, v6, ex, s2, ey, b⟩ := law_op (o_bestHeight wd s c) r
  refine ⟨h6, D2, ?_, b.2.1, b.2.2.1, b.2.2.2.1, b.2.2.2.2.1, b.2.2.2.2.2.2.2⟩
  unfold f_L_law_L1798 f_L_law_L1839 f_L_law_L2775
  rw [ex, bnd_ret, chk_pos s2.m.1, ey, bnd_ret]
  refine (law_end (K := fun g => k23 g 1 632 656 (iN p + iN 5)) b).trans ?_
  rw [iN_add]
theorem b_27 {xs : Nat → Int32} {n : Nat} {k23 : Hp → Nat → Nat → Nat → Int32 → Option (Rs Int32)} {h : Hp} {D : Dt} {p : Int} (p0 : 0 ≤ p) (p1 : p + 5 ≤ n) (hn : n ≤ 2560) (wd : WD D) (s : SL h) (c : CI h D) (r : RI h D) : LwS k23 h p (f_L_law_L1842 xs n k23 h 1 632 656 (iN p)) := by
  obtain ⟨z1, y1, e1⟩ := xs_in (xs (Int32.toNatClampNeg (iN (p + 1))))
  have go : ∀ w : Int32, (w = iN 0 ∨ w = iN 1) → (∀ (u v : Option (Rs Int32)), (if (xs (Int32.toNatClampNeg (iN (p + 2)))) = 0 then u else v) = if w = iN 0 then u else v) → LwS k23 h p (f_L_law_L1842 xs n k23 h 1 632 656 (iN p)) := by
    intro w hw hv
    obtain ⟨h2, k, D2, h6, v6, ex, s2, ey, b⟩ := law_op (o_rowHeight wd s c y1 (b := w)) r
    refine ⟨h6, D2, ?_, b.2.1, b.2.2.1, b.2.2.2.1, b.2.2.2.2.1, b.2.2.2.2.2.2.2⟩
    unfold f_L_law_L1842 f_L_law_L1863 f_L_law_L1890 f_L_law_L1923 f_L_law_L2775
    rw [iN_add, iN_add, ck_in (by omega) (by omega) (by omega), ck_in (by omega) (by omega) (by omega), hv, e1]
    rcases hw with rfl | rfl
    · rw [if_pos rfl, ex, bnd_ret, ck_in (by omega) (by omega) (by omega), ck_in (by omega) (by omega) (by omega), hv, if_pos rfl, chk_pos s2.m.1, ey, bnd_ret]
      refine (law_end (K := fun g => k23 g 1 632 656 (iN p + iN 5)) b).trans ?_
      rw [iN_add]
    · rw [if_neg (by decide), ex, bnd_ret, ck_in (by omega) (by omega) (by omega), ck_in (by omega) (by omega) (by omega), hv, if_neg (by decide), chk_pos s2.m.1, ey, bnd_ret]
      refine (law_end (K := fun g => k23 g 1 632 656 (iN p + iN 5)) b).trans ?_
      rw [iN_add]
  by_cases q : xs (Int32.toNatClampNeg (iN (p + 2))) = 0
  · exact go (iN 0) (Or.inl rfl) (fun u v => by rw [if_pos q, if_pos rfl])
  · exact go (iN 1) (Or.inr rfl) (fun u v => by rw [if_neg q, if_neg (by decide)])
theorem b_28 {xs : Nat → Int32} {n : Nat} {k23 : Hp → Nat → Nat → Nat → Int32 → Option (Rs Int32)} {h : Hp} {D : Dt} {p : Int} (p0 : 0 ≤ p) (p1 : p + 5 ≤ n) (hn : n ≤ 2560) (wd : WD D) (s : SL h) (c : CI h D) (r : RI h D) : LwS k23 h p (f_L_law_L1926 xs n k23 h 1 632 656 (iN p)) := by
  obtain ⟨z1, y1, e1⟩ := xs_in (xs (Int32.toNatClampNeg (iN (p + 1))))
  obtain ⟨h2, k, D2, h6, v6, ex, s2, ey, b⟩ := law_op (o_tallest wd s c y1) r
  refine ⟨h6, D2, ?_, b.2.1, b.2.2.1, b.2.2.2.1, b.2.2.2.2.1, b.2.2.2.2.2.2.2⟩
  unfold f_L_law_L1926 f_L_law_L1979 f_L_law_L2775
  rw [iN_add, ck_in (by omega) (by omega) (by omega), e1, ex, bnd_ret, ck_in (by omega) (by omega) (by omega), chk_pos s2.m.1, ey, bnd_ret]
  refine (law_end (K := fun g => k23 g 1 632 656 (iN p + iN 5)) b).trans ?_
  rw [iN_add]
theorem b_29 {xs : Nat → Int32} {n : Nat} {k23 : Hp → Nat → Nat → Nat → Int32 → Option (Rs Int32)} {h : Hp} {D : Dt} {p : Int} (p0 : 0 ≤ p) (p1 : p + 5 ≤ n) (hn : n ≤ 2560) (wd : WD D) (s : SL h) (c : CI h D) (r : RI h D) : LwS k23 h p (f_L_law_L1982 xs n k23 h 1 632 656 (iN p)) := by
  obtain ⟨z1, y1, e1⟩ := xs_in (xs (Int32.toNatClampNeg (iN (p + 1))))
  obtain ⟨z2, y2, e2⟩ := xs_in (xs (Int32.toNatClampNeg (iN (p + 2))))
  obtain ⟨z3, y3, e3⟩ := xs_in (xs (Int32.toNatClampNeg (iN (p + 3))))
  obtain ⟨z4, y4, e4⟩ := xs_in (xs (Int32.toNatClampNeg (iN (p + 4))))
  obtain ⟨h2, k, D2, h6, v6, ex, s2, ey, b⟩ := law_op (o_heightFor wd s c y1 y2 y3 y4) r
  refine ⟨h6, D2, ?_, b.2.1, b.2.2.1, b.2.2.2.1, b.2.2.2.2.1, b.2.2.2.2.2.2.2⟩
  unfold f_L_law_L1982 f_L_law_L2071 f_L_law_L2775
  rw [iN_add, iN_add, iN_add, iN_add, ck_in (by omega) (by omega) (by omega), ck_in (by omega) (by omega) (by omega), ck_in (by omega) (by omega) (by omega), ck_in (by omega) (by omega) (by omega), e1, e2, e3, e4, ex, bnd_ret, ck_in (by omega) (by omega) (by omega), ck_in (by omega) (by omega) (by omega), ck_in (by omega) (by omega) (by omega), ck_in (by omega) (by omega) (by omega), chk_pos s2.m.1, ey, bnd_ret]
  refine (law_end (K := fun g => k23 g 1 632 656 (iN p + iN 5)) b).trans ?_
  rw [iN_add]
theorem b_30 {xs : Nat → Int32} {n : Nat} {k23 : Hp → Nat → Nat → Nat → Int32 → Option (Rs Int32)} {h : Hp} {D : Dt} {p : Int} (p0 : 0 ≤ p) (p1 : p + 5 ≤ n) (hn : n ≤ 2560) (wd : WD D) (s : SL h) (c : CI h D) (r : RI h D) : LwS k23 h p (f_L_law_L2074 xs n k23 h 1 632 656 (iN p)) := by
  obtain ⟨z1, y1, e1⟩ := xs_in (xs (Int32.toNatClampNeg (iN (p + 1))))
  obtain ⟨h2, k, D2, h6, v6, ex, s2, ey, b⟩ := law_op (o_heightAt wd s c y1) r
  refine ⟨h6, D2, ?_, b.2.1, b.2.2.1, b.2.2.2.1, b.2.2.2.2.1, b.2.2.2.2.2.2.2⟩
  unfold f_L_law_L2074 f_L_law_L2127 f_L_law_L2775
  rw [iN_add, ck_in (by omega) (by omega) (by omega), e1, ex, bnd_ret, ck_in (by omega) (by omega) (by omega), chk_pos s2.m.1, ey, bnd_ret]
  refine (law_end (K := fun g => k23 g 1 632 656 (iN p + iN 5)) b).trans ?_
  rw [iN_add]
theorem b_31 {xs : Nat → Int32} {n : Nat} {k23 : Hp → Nat → Nat → Nat → Int32 → Option (Rs Int32)} {h : Hp} {D : Dt} {p : Int} (p0 : 0 ≤ p) (p1 : p + 5 ≤ n) (hn : n ≤ 2560) (wd : WD D) (s : SL h) (c : CI h D) (r : RI h D) : LwS k23 h p (f_L_law_L2130 xs n k23 h 1 632 656 (iN p)) := by
  obtain ⟨z1, y1, e1⟩ := xs_in (xs (Int32.toNatClampNeg (iN (p + 1))))
  obtain ⟨h2, k, D2, h6, v6, ex, s2, ey, b⟩ := law_op (o_narrowest wd s c y1) r
  refine ⟨h6, D2, ?_, b.2.1, b.2.2.1, b.2.2.2.1, b.2.2.2.2.1, b.2.2.2.2.2.2.2⟩
  unfold f_L_law_L2130 f_L_law_L2183 f_L_law_L2775
  rw [iN_add, ck_in (by omega) (by omega) (by omega), e1, ex, bnd_ret, ck_in (by omega) (by omega) (by omega), chk_pos s2.m.1, ey, bnd_ret]
  refine (law_end (K := fun g => k23 g 1 632 656 (iN p + iN 5)) b).trans ?_
  rw [iN_add]
theorem b_32 {xs : Nat → Int32} {n : Nat} {k23 : Hp → Nat → Nat → Nat → Int32 → Option (Rs Int32)} {h : Hp} {D : Dt} {p : Int} (p0 : 0 ≤ p) (p1 : p + 5 ≤ n) (hn : n ≤ 2560) (wd : WD D) (s : SL h) (c : CI h D) (r : RI h D) : LwS k23 h p (f_L_law_L2186 xs n k23 h 1 632 656 (iN p)) := by
  obtain ⟨h2, v, D2, h6, ex, s2, ey, b1, b2, b3, b4, b5, b6⟩ := law_opD (o_improvements wd s c) r
  refine ⟨h6, D2, ?_, b1, b2, b3, b4, b5, b6⟩
  unfold f_L_law_L2186 f_L_law_L2775
  rw [chk_pos s.o1, ex, bnd_ret, chk_pos s2.m.1, ey, bnd_ret, if_pos rfl, iN_add]
theorem b_33 {xs : Nat → Int32} {n : Nat} {k23 : Hp → Nat → Nat → Nat → Int32 → Option (Rs Int32)} {h : Hp} {D : Dt} {p : Int} (p0 : 0 ≤ p) (p1 : p + 5 ≤ n) (hn : n ≤ 2560) (wd : WD D) (s : SL h) (c : CI h D) (r : RI h D) : LwS k23 h p (f_L_law_L2199 xs n k23 h 1 632 656 (iN p)) := by
  obtain ⟨z1, y1, e1⟩ := xs_in (xs (Int32.toNatClampNeg (iN (p + 1))))
  obtain ⟨h2, k, D2, h6, v6, ex, s2, ey, b⟩ := law_op (o_improvement wd s c y1) r
  refine ⟨h6, D2, ?_, b.2.1, b.2.2.1, b.2.2.2.1, b.2.2.2.2.1, b.2.2.2.2.2.2.2⟩
  unfold f_L_law_L2199 f_L_law_L2252 f_L_law_L2775
  rw [iN_add, ck_in (by omega) (by omega) (by omega), e1, ex, bnd_ret, ck_in (by omega) (by omega) (by omega), chk_pos s2.m.1, ey, bnd_ret]
  refine (law_end (K := fun g => k23 g 1 632 656 (iN p + iN 5)) b).trans ?_
  rw [iN_add]
theorem b_34 {xs : Nat → Int32} {n : Nat} {k23 : Hp → Nat → Nat → Nat → Int32 → Option (Rs Int32)} {h : Hp} {D : Dt} {p : Int} (p0 : 0 ≤ p) (p1 : p + 5 ≤ n) (hn : n ≤ 2560) (wd : WD D) (s : SL h) (c : CI h D) (r : RI h D) : LwS k23 h p (f_L_law_L2255 xs n k23 h 1 632 656 (iN p)) := by
  obtain ⟨h2, k, D2, h6, v6, ex, s2, ey, b⟩ := law_op (o_critical wd s c) r
  refine ⟨h6, D2, ?_, b.2.1, b.2.2.1, b.2.2.2.1, b.2.2.2.2.1, b.2.2.2.2.2.2.2⟩
  unfold f_L_law_L2255 f_L_law_L2296 f_L_law_L2775
  rw [ex, bnd_ret, chk_pos s2.m.1, ey, bnd_ret]
  refine (law_end (K := fun g => k23 g 1 632 656 (iN p + iN 5)) b).trans ?_
  rw [iN_add]
theorem b_35 {xs : Nat → Int32} {n : Nat} {k23 : Hp → Nat → Nat → Nat → Int32 → Option (Rs Int32)} {h : Hp} {D : Dt} {p : Int} (p0 : 0 ≤ p) (p1 : p + 5 ≤ n) (hn : n ≤ 2560) (wd : WD D) (s : SL h) (c : CI h D) (r : RI h D) : LwS k23 h p (f_L_law_L2299 xs n k23 h 1 632 656 (iN p)) := by
  obtain ⟨z1, y1, e1⟩ := xs_in (xs (Int32.toNatClampNeg (iN (p + 1))))
  obtain ⟨z2, y2, e2⟩ := xs_in (xs (Int32.toNatClampNeg (iN (p + 2))))
  obtain ⟨h2, k, D2, h6, v6, ex, s2, ey, b⟩ := law_op (o_costOfWord wd s c y1 y2) r
  refine ⟨h6, D2, ?_, b.2.1, b.2.2.1, b.2.2.2.1, b.2.2.2.2.1, b.2.2.2.2.2.2.2⟩
  unfold f_L_law_L2299 f_L_law_L2364 f_L_law_L2775
  rw [iN_add, iN_add, ck_in (by omega) (by omega) (by omega), ck_in (by omega) (by omega) (by omega), e1, e2, ex, bnd_ret, ck_in (by omega) (by omega) (by omega), ck_in (by omega) (by omega) (by omega), chk_pos s2.m.1, ey, bnd_ret]
  refine (law_end (K := fun g => k23 g 1 632 656 (iN p + iN 5)) b).trans ?_
  rw [iN_add]
theorem b_36 {xs : Nat → Int32} {n : Nat} {k23 : Hp → Nat → Nat → Nat → Int32 → Option (Rs Int32)} {h : Hp} {D : Dt} {p : Int} (p0 : 0 ≤ p) (p1 : p + 5 ≤ n) (hn : n ≤ 2560) (wd : WD D) (s : SL h) (c : CI h D) (r : RI h D) : LwS k23 h p (f_L_law_L2367 xs n k23 h 1 632 656 (iN p)) := by
  obtain ⟨z1, y1, e1⟩ := xs_in (xs (Int32.toNatClampNeg (iN (p + 1))))
  obtain ⟨h2, k, D2, h6, v6, ex, s2, ey, b⟩ := law_op (o_ragged wd s c y1) r
  refine ⟨h6, D2, ?_, b.2.1, b.2.2.1, b.2.2.2.1, b.2.2.2.2.1, b.2.2.2.2.2.2.2⟩
  unfold f_L_law_L2367 f_L_law_L2420 f_L_law_L2775
  rw [iN_add, ck_in (by omega) (by omega) (by omega), e1, ex, bnd_ret, ck_in (by omega) (by omega) (by omega), chk_pos s2.m.1, ey, bnd_ret]
  refine (law_end (K := fun g => k23 g 1 632 656 (iN p + iN 5)) b).trans ?_
  rw [iN_add]
theorem b_37 {xs : Nat → Int32} {n : Nat} {k23 : Hp → Nat → Nat → Nat → Int32 → Option (Rs Int32)} {h : Hp} {D : Dt} {p : Int} (p0 : 0 ≤ p) (p1 : p + 5 ≤ n) (hn : n ≤ 2560) (wd : WD D) (s : SL h) (c : CI h D) (r : RI h D) : LwS k23 h p (f_L_law_L2423 xs n k23 h 1 632 656 (iN p)) := by
  obtain ⟨h2, k, h6, v6, ex, s2, ey, b⟩ := law_opL wd (o_density wd s c) r
  refine ⟨h6, D, ?_, b.2.1, b.2.2.1, b.2.2.2.1, b.2.2.2.2.1, b.2.2.2.2.2.2.2⟩
  unfold f_L_law_L2423 f_L_law_L2463 f_L_law_L2775
  rw [ex, bnd_ret, chk_pos s2.m.1, ey, bnd_ret]
  refine (law_end (K := fun g => k23 g 1 632 656 (iN p + iN 5)) b).trans ?_
  rw [iN_add]
theorem b_38 {xs : Nat → Int32} {n : Nat} {k23 : Hp → Nat → Nat → Nat → Int32 → Option (Rs Int32)} {h : Hp} {D : Dt} {p : Int} (p0 : 0 ≤ p) (p1 : p + 5 ≤ n) (hn : n ≤ 2560) (wd : WD D) (s : SL h) (c : CI h D) (r : RI h D) : LwS k23 h p (f_L_law_L2466 xs n k23 h 1 632 656 (iN p)) := by
  obtain ⟨z1, y1, e1⟩ := xs_in (xs (Int32.toNatClampNeg (iN (p + 1))))
  obtain ⟨z2, y2, e2⟩ := xs_in (xs (Int32.toNatClampNeg (iN (p + 2))))
  obtain ⟨z3, y3, e3⟩ := xs_in (xs (Int32.toNatClampNeg (iN (p + 3))))
  obtain ⟨h2, k, D2, h6, v6, ex, s2, ey, b⟩ := law_op (o_makeClip wd s c y1 y2 y3) r
  refine ⟨h6, D2, ?_, b.2.1, b.2.2.1, b.2.2.2.1, b.2.2.2.2.1, b.2.2.2.2.2.2.2⟩
  unfold f_L_law_L2466 f_L_law_L2543 f_L_law_L2775
  rw [iN_add, iN_add, iN_add, ck_in (by omega) (by omega) (by omega), ck_in (by omega) (by omega) (by omega), ck_in (by omega) (by omega) (by omega), e1, e2, e3, ex, bnd_ret, ck_in (by omega) (by omega) (by omega), ck_in (by omega) (by omega) (by omega), ck_in (by omega) (by omega) (by omega), chk_pos s2.m.1, ey, bnd_ret]
  refine (law_end (K := fun g => k23 g 1 632 656 (iN p + iN 5)) b).trans ?_
  rw [iN_add]
theorem b_39 {xs : Nat → Int32} {n : Nat} {k23 : Hp → Nat → Nat → Nat → Int32 → Option (Rs Int32)} {h : Hp} {D : Dt} {p : Int} (p0 : 0 ≤ p) (p1 : p + 5 ≤ n) (hn : n ≤ 2560) (wd : WD D) (s : SL h) (c : CI h D) (r : RI h D) : LwS k23 h p (f_L_law_L2546 xs n k23 h 1 632 656 (iN p)) := by
  obtain ⟨z1, y1, e1⟩ := xs_in (xs (Int32.toNatClampNeg (iN (p + 1))))
  obtain ⟨z2, y2, e2⟩ := xs_in (xs (Int32.toNatClampNeg (iN (p + 2))))
  obtain ⟨z3, y3, e3⟩ := xs_in (xs (Int32.toNatClampNeg (iN (p + 3))))
  obtain ⟨h2, k, D2, h6, v6, ex, s2, ey, b⟩ := law_op (o_copyTo wd s c y1 y2 y3) r
  refine ⟨h6, D2, ?_, b.2.1, b.2.2.1, b.2.2.2.1, b.2.2.2.2.1, b.2.2.2.2.2.2.2⟩
  unfold f_L_law_L2546 f_L_law_L2623 f_L_law_L2775
  rw [iN_add, iN_add, iN_add, ck_in (by omega) (by omega) (by omega), ck_in (by omega) (by omega) (by omega), ck_in (by omega) (by omega) (by omega), e1, e2, e3, ex, bnd_ret, ck_in (by omega) (by omega) (by omega), ck_in (by omega) (by omega) (by omega), ck_in (by omega) (by omega) (by omega), chk_pos s2.m.1, ey, bnd_ret]
  refine (law_end (K := fun g => k23 g 1 632 656 (iN p + iN 5)) b).trans ?_
  rw [iN_add]
theorem b_40 {xs : Nat → Int32} {n : Nat} {k23 : Hp → Nat → Nat → Nat → Int32 → Option (Rs Int32)} {h : Hp} {D : Dt} {p : Int} (p0 : 0 ≤ p) (p1 : p + 5 ≤ n) (hn : n ≤ 2560) (wd : WD D) (s : SL h) (c : CI h D) (r : RI h D) : LwS k23 h p (f_L_law_L2626 xs n k23 h 1 632 656 (iN p)) := by
  obtain ⟨z1, y1, e1⟩ := xs_in (xs (Int32.toNatClampNeg (iN (p + 1))))
  obtain ⟨z2, y2, e2⟩ := xs_in (xs (Int32.toNatClampNeg (iN (p + 2))))
  obtain ⟨z3, y3, e3⟩ := xs_in (xs (Int32.toNatClampNeg (iN (p + 3))))
  obtain ⟨z4, y4, e4⟩ := xs_in (xs (Int32.toNatClampNeg (iN (p + 4))))
  obtain ⟨h2, k, D2, h6, v6, ex, s2, ey, b⟩ := law_op (o_paste wd s c y1 y2 y3 y4) r
  refine ⟨h6, D2, ?_, b.2.1, b.2.2.1, b.2.2.2.1, b.2.2.2.2.1, b.2.2.2.2.2.2.2⟩
  unfold f_L_law_L2626 f_L_law_L2715 f_L_law_L2775
  rw [iN_add, iN_add, iN_add, iN_add, ck_in (by omega) (by omega) (by omega), ck_in (by omega) (by omega) (by omega), ck_in (by omega) (by omega) (by omega), ck_in (by omega) (by omega) (by omega), e1, e2, e3, e4, ex, bnd_ret, ck_in (by omega) (by omega) (by omega), ck_in (by omega) (by omega) (by omega), ck_in (by omega) (by omega) (by omega), ck_in (by omega) (by omega) (by omega), chk_pos s2.m.1, ey, bnd_ret]
  refine (law_end (K := fun g => k23 g 1 632 656 (iN p + iN 5)) b).trans ?_
  rw [iN_add]
theorem b_41 {xs : Nat → Int32} {n : Nat} {k23 : Hp → Nat → Nat → Nat → Int32 → Option (Rs Int32)} {h : Hp} {D : Dt} {p : Int} (p0 : 0 ≤ p) (p1 : p + 5 ≤ n) (hn : n ≤ 2560) (wd : WD D) (s : SL h) (c : CI h D) (r : RI h D) : LwS k23 h p (f_L_law_L2718 xs n k23 h 1 632 656 (iN p)) := by
  obtain ⟨h2, v, D2, h6, ex, s2, ey, b1, b2, b3, b4, b5, b6⟩ := law_opD (o_save wd s c) r
  refine ⟨h6, D2, ?_, b1, b2, b3, b4, b5, b6⟩
  unfold f_L_law_L2718 f_L_law_L2775
  rw [chk_pos s.o1, ex, bnd_ret, chk_pos s2.m.1, ey, bnd_ret, if_pos rfl, iN_add]
theorem b_42 {xs : Nat → Int32} {n : Nat} {k23 : Hp → Nat → Nat → Nat → Int32 → Option (Rs Int32)} {h : Hp} {D : Dt} {p : Int} (p0 : 0 ≤ p) (p1 : p + 5 ≤ n) (hn : n ≤ 2560) (wd : WD D) (s : SL h) (c : CI h D) (r : RI h D) : LwS k23 h p (f_L_law_L2731 xs n k23 h 1 632 656 (iN p)) := by
  obtain ⟨h2, k, D2, h6, v6, ex, s2, ey, b⟩ := law_op (o_restore wd s c) r
  refine ⟨h6, D2, ?_, b.2.1, b.2.2.1, b.2.2.2.1, b.2.2.2.2.1, b.2.2.2.2.2.2.2⟩
  unfold f_L_law_L2731 f_L_law_L2772 f_L_law_L2775
  rw [ex, bnd_ret, chk_pos s2.m.1, ey, bnd_ret]
  refine (law_end (K := fun g => k23 g 1 632 656 (iN p + iN 5)) b).trans ?_
  rw [iN_add]
theorem b_43 {xs : Nat → Int32} {n : Nat} {k23 : Hp → Nat → Nat → Nat → Int32 → Option (Rs Int32)} {h : Hp} {D : Dt} {p : Int} (wd : WD D) (s : SL h) (c : CI h D) (r : RI h D) : LwS k23 h p (f_L_law_L2775 xs n k23 h 1 632 656 (iN p)) := by
  refine ⟨h, D, ?_, wd, s, c, r, by omega, by omega⟩
  unfold f_L_law_L2775
  rw [iN_add]
/-- one call -/
theorem law_step {xs : Nat → Int32} {n : Nat} {k23 : Hp → Nat → Nat → Nat → Int32 → Option (Rs Int32)} {h : Hp} {D : Dt} {p : Int} (p0 : 0 ≤ p) (p1 : p + 5 ≤ n) (hn : n ≤ 2560) (wd : WD D) (s : SL h) (c : CI h D) (r : RI h D) : LwS k23 h p (f_L_law_B23 xs n k23 h 1 632 656 (iN p)) := by
  have e : Int32.ofNat n = iN (n : Int) := by
    apply Int32.toBitVec_inj.mp
    show BitVec.ofNat 32 n = BitVec.ofInt 32 (n : Int)
    exact (BitVec.ofInt_natCast ..).symm
  unfold f_L_law_B23
  rw [e, iN_sub, if_neg (nltN (by omega) (by omega) (by omega)), ck_in (by omega) (by omega) (by omega)]
  generalize xs (Int32.toNatClampNeg (iN p)) &&& iN 63 = w
  by_cases q0 : w = iN 0
  · rw [if_pos q0]
    exact b_0 p0 p1 hn wd s c r
  rw [if_neg q0]
  by_cases q1 : w = iN 1
  · rw [if_pos q1]
    exact b_1 p0 p1 hn wd s c r
  rw [if_neg q1]
  by_cases q2 : w = iN 2
  · rw [if_pos q2]
    exact b_2 p0 p1 hn wd s c r
  rw [if_neg q2]
  by_cases q3 : w = iN 3
  · rw [if_pos q3]
    exact b_3 p0 p1 hn wd s c r
  rw [if_neg q3]
  by_cases q4 : w = iN 4
  · rw [if_pos q4]
    exact b_4 p0 p1 hn wd s c r
  rw [if_neg q4]
  by_cases q5 : w = iN 5
  · rw [if_pos q5]
    exact b_5 p0 p1 hn wd s c r
  rw [if_neg q5]
  by_cases q6 : w = iN 6
  · rw [if_pos q6]
    exact b_6 p0 p1 hn wd s c r
  rw [if_neg q6]
  by_cases q7 : w = iN 7
  · rw [if_pos q7]
    exact b_7 p0 p1 hn wd s c r
  rw [if_neg q7]
  by_cases q8 : w = iN 8
  · rw [if_pos q8]
    exact b_8 p0 p1 hn wd s c r
  rw [if_neg q8]
  by_cases q9 : w = iN 9
  · rw [if_pos q9]
    exact b_9 p0 p1 hn wd s c r
  rw [if_neg q9]
  by_cases q10 : w = iN 10
  · rw [if_pos q10]
    exact b_10 p0 p1 hn wd s c r
  rw [if_neg q10]
  by_cases q11 : w = iN 11
  · rw [if_pos q11]
    exact b_11 p0 p1 hn wd s c r
  rw [if_neg q11]
  by_cases q12 : w = iN 12
  · rw [if_pos q12]
    exact b_12 p0 p1 hn wd s c r
  rw [if_neg q12]
  by_cases q13 : w = iN 13
  · rw [if_pos q13]
    exact b_13 p0 p1 hn wd s c r
  rw [if_neg q13]
  by_cases q14 : w = iN 14
  · rw [if_pos q14]
    exact b_14 p0 p1 hn wd s c r
  rw [if_neg q14]
  by_cases q15 : w = iN 15
  · rw [if_pos q15]
    exact b_15 p0 p1 hn wd s c r
  rw [if_neg q15]
  by_cases q16 : w = iN 16
  · rw [if_pos q16]
    exact b_16 p0 p1 hn wd s c r
  rw [if_neg q16]
  by_cases q17 : w = iN 17
  · rw [if_pos q17]
    exact b_17 p0 p1 hn wd s c r
  rw [if_neg q17]
  by_cases q18 : w = iN 18
  · rw [if_pos q18]
    exact b_18 p0 p1 hn wd s c r
  rw [if_neg q18]
  by_cases q19 : w = iN 19
  · rw [if_pos q19]
    exact b_19 p0 p1 hn wd s c r
  rw [if_neg q19]
  by_cases q20 : w = iN 20
  · rw [if_pos q20]
    exact b_20 p0 p1 hn wd s c r
  rw [if_neg q20]
  by_cases q21 : w = iN 21
  · rw [if_pos q21]
    exact b_21 p0 p1 hn wd s c r
  rw [if_neg q21]
  by_cases q22 : w = iN 22
  · rw [if_pos q22]
    exact b_22 p0 p1 hn wd s c r
  rw [if_neg q22]
  by_cases q23 : w = iN 23
  · rw [if_pos q23]
    exact b_23 p0 p1 hn wd s c r
  rw [if_neg q23]
  by_cases q24 : w = iN 24
  · rw [if_pos q24]
    exact b_24 p0 p1 hn wd s c r
  rw [if_neg q24]
  by_cases q25 : w = iN 25
  · rw [if_pos q25]
    exact b_25 p0 p1 hn wd s c r
  rw [if_neg q25]
  by_cases q26 : w = iN 26
  · rw [if_pos q26]
    exact b_26 p0 p1 hn wd s c r
  rw [if_neg q26]
  by_cases q27 : w = iN 27
  · rw [if_pos q27]
    exact b_27 p0 p1 hn wd s c r
  rw [if_neg q27]
  by_cases q28 : w = iN 28
  · rw [if_pos q28]
    exact b_28 p0 p1 hn wd s c r
  rw [if_neg q28]
  by_cases q29 : w = iN 29
  · rw [if_pos q29]
    exact b_29 p0 p1 hn wd s c r
  rw [if_neg q29]
  by_cases q30 : w = iN 30
  · rw [if_pos q30]
    exact b_30 p0 p1 hn wd s c r
  rw [if_neg q30]
  by_cases q31 : w = iN 31
  · rw [if_pos q31]
    exact b_31 p0 p1 hn wd s c r
  rw [if_neg q31]
  by_cases q32 : w = iN 32
  · rw [if_pos q32]
    exact b_32 p0 p1 hn wd s c r
  rw [if_neg q32]
  by_cases q33 : w = iN 33
  · rw [if_pos q33]
    exact b_33 p0 p1 hn wd s c r
  rw [if_neg q33]
  by_cases q34 : w = iN 34
  · rw [if_pos q34]
    exact b_34 p0 p1 hn wd s c r
  rw [if_neg q34]
  by_cases q35 : w = iN 35
  · rw [if_pos q35]
    exact b_35 p0 p1 hn wd s c r
  rw [if_neg q35]
  by_cases q36 : w = iN 36
  · rw [if_pos q36]
    exact b_36 p0 p1 hn wd s c r
  rw [if_neg q36]
  by_cases q37 : w = iN 37
  · rw [if_pos q37]
    exact b_37 p0 p1 hn wd s c r
  rw [if_neg q37]
  by_cases q38 : w = iN 38
  · rw [if_pos q38]
    exact b_38 p0 p1 hn wd s c r
  rw [if_neg q38]
  by_cases q39 : w = iN 39
  · rw [if_pos q39]
    exact b_39 p0 p1 hn wd s c r
  rw [if_neg q39]
  by_cases q40 : w = iN 40
  · rw [if_pos q40]
    exact b_40 p0 p1 hn wd s c r
  rw [if_neg q40]
  by_cases q41 : w = iN 41
  · rw [if_pos q41]
    exact b_41 p0 p1 hn wd s c r
  rw [if_neg q41]
  by_cases q42 : w = iN 42
  · rw [if_pos q42]
    exact b_42 p0 p1 hn wd s c r
  rw [if_neg q42]
  exact b_43 wd s c r
/-- all calls -/
theorem law_all {xs : Nat → Int32} {n : Nat} (hn : n ≤ 2560) : ∀ (d f : Nat) (p : Int) (h : Hp) (D : Dt), 0 ≤ p → n ≤ p + 5 * d + 4 → p ≤ 2560 → d < f → WD D → SL h → CI h D → RI h D → ∃ h2, f_L_law_L23 xs n f h 1 632 656 (iN p) = some (h2, .inr (iN 1)) ∧ qC h2 ≤ qC h + d ∧ qS h2 ≤ qS h + 6 * d := by
  have e : Int32.ofNat n = iN (n : Int) := by
    apply Int32.toBitVec_inj.mp
    show BitVec.ofNat 32 n = BitVec.ofInt 32 (n : Int)
    exact (BitVec.ofInt_natCast ..).symm
  have out : ∀ (f : Nat) (p : Int) (h : Hp), 0 ≤ p → p ≤ 2560 → n < p + 5 → 0 < f → f_L_law_L23 xs n f h 1 632 656 (iN p) = some (h, .inr (iN 1)) := by
    intro f p h p0 p2 p1 hf
    obtain ⟨f, rfl⟩ : ∃ z, f = z + 1 := ⟨f - 1, by omega⟩
    show f_L_law_B23 xs n (f_L_law_L23 xs n f) h 1 632 656 (iN p) = _
    unfold f_L_law_B23
    rw [e, iN_sub, if_pos (yltN (by omega) (by omega) (by omega))]
  intro d
  induction d with
  | zero =>
    intro f p h D p0 p1 p2 hf wd s c r
    exact ⟨h, out f p h p0 p2 (by omega) (by omega), Nat.le_refl _, Nat.le_refl _⟩
  | succ d ih =>
    intro f p h D p0 p1 p2 hf wd s c r
    by_cases q : n < p + 5
    · exact ⟨h, out f p h p0 p2 q (by omega), by omega, by omega⟩
    · obtain ⟨f, rfl⟩ : ∃ z, f = z + 1 := ⟨f - 1, by omega⟩
      obtain ⟨h6, D2, e6, wd2, s6, c6, r6, q1, q2⟩ := law_step (xs := xs) (n := n) (k23 := f_L_law_L23 xs n f) p0 (by omega) hn wd s c r
      obtain ⟨h9, e9, q3, q4⟩ := ih f (p + 5) h6 D2 (by omega) (by omega) (by omega) (by omega) wd2 s6 c6 r6
      exact ⟨h9, e6.trans e9, by omega, by omega⟩
/-- STAGE B: the functions alone: on every script the law's function answers 1 -/
theorem stage_b (xs : Nat → Int32) (n : Nat) (hn : n ≤ 2560) : ∃ h' : Hp, f_L_law xs n hp0 = some (h', .inr 1) ∧ qC h' ≤ 603072 ∧ qS h' ≤ 7178346 := by
  obtain ⟨h, e, s, c, r, q1, q2⟩ := g_start xs n
  obtain ⟨h2, e2, q3, q4⟩ := law_all (xs := xs) hn 512 2000 0 h D00 (by omega) (by omega) (by omega) (by omega) WD_00 s c r
  exact ⟨h2, e.trans e2, by omega, by omega⟩
