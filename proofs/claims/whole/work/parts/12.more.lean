/-! ===== the script, Math, arraycopy, rows of rows; the words of the functions ===== -/
section XM
variable {l : Launch} {K : Ctx} {M : Mi} {tg : Tg} {pc : Nat} {ls : List (Nat × Value)} {st : List Value} {h : Hp}
theorem X.same2 {pc' : Nat} {ls' : List (Nat × Value)} {st' : List Value} (k : X l K M tg pc' ls' st' h) (w : Wf (qN h) ls st → Wf (qN h) ls' st')
    (f : ∀ (p : Program) (e : Env) (R : Room) (s : State) (m : MethodId) (args : Array Value) (below : List Frame) (meth : Method) (c : Code) (H : Heap) (locs : List Loc) (cells slots : Nat) (Q : State → Prop) (σ : Nat → Nat) (la : Array Slot),
      Fr l K M p s m args meth c → va_S (kA K) s.heap H locs → Sm K σ h H → lv_has la (mL M) (cvL σ ls) → R.frames = mD M → R.locals = 100 * mD M → cells ≤ R.cells → slots ≤ R.slots →
      (∀ la' : Array Slot, lv_has la' (mL M) (cvL σ ls') → W p l e R s m args below meth c H locs cells slots Q (F0 m pc' la' (st'.map (cv σ)))) →
      W p l e R s m args below meth c H locs cells slots Q (F0 m pc la (st.map (cv σ)))) : X l K M tg pc ls st h := by
  refine ⟨k.1, ?_⟩
  intro p e s m args below meth c H locs c0 s0 n0 σ0 σ la hF h0 hE hS hM hl hw
  exact f p e _ s m args below meth c H locs _ _ _ σ la hF hS hM hl rfl rfl (by show _ ≤ qC tg.1 - c0; have := k.1.1; omega) (by show _ ≤ qS tg.1 - s0; have := k.1.2.1; omega) (fun la' hl' => k.2 p e s m args below meth c H locs c0 s0 n0 σ0 σ la' hF h0 hE hS hM hl' (w hw))
theorem x_sub (ks : List Nat) {ls' : List (Nat × Value)} (he : lv_pick ls ks = ls') (k : X l K M tg pc ls' st h) : X l K M tg pc ls st h := by
  have hm : ∀ q ∈ ls', q ∈ ls := fun q hq => by
    rw [← he] at hq
    obtain ⟨k, -, hk⟩ := List.mem_filterMap.mp hq
    exact List.mem_of_getElem? hk
  refine ⟨k.1, ?_⟩
  intro p e s m args below meth c H locs c0 s0 n0 σ0 σ la hF h0 hE hS hM hl hw
  exact k.2 p e s m args below meth c H locs c0 s0 n0 σ0 σ la hF h0 hE hS hM ⟨hl.1, hl.2.1, fun q hq => by
    obtain ⟨z, hz, rfl⟩ := List.mem_map.mp hq
    exact hl.2.2 _ (List.mem_map.mpr ⟨z, hm z hz, rfl⟩)⟩ ⟨fun q hq => hw.1 q (hm q hq), hw.2⟩
/-- the script -/
theorem x_sld {i : Int32} (d : decode (mB M) pc = .ok (.iaload, 1)) (hi : vp_in i (kLn K)) (kx : X l K M tg (pc + 1) ls (.int (kXs K i.toNatClampNeg) :: st) h) : X l K M tg pc ls (.int i :: .ref 2000000 :: st) h :=
  X.same kx (fun w => wf_num trivial (wf_pop (wf_pop w))) fun p e R s m args below meth c H locs cells slots Q σ la F S Hm hl rf rl kk => by
    have hx := F.bs.2.2.1
    have e1 : cv σ (.ref 2000000) = .ref (kX K) := by show Value.ref (σ 2000000) = _; rw [Hm.2.2.2.2]
    rw [List.map_cons, List.map_cons, e1]
    exact va_sld F.ex F.cc hx.1 (Nat.lt_of_lt_of_le hx.2 F.bs.2.2.2.2.2) (Nat.not_le.mpr hx.2) S hi d (kk la hl)
theorem x_slen (d : decode (mB M) pc = .ok (.arraylength, 1)) (kx : X l K M tg (pc + 1) ls (.int (Int32.ofNat (kLn K)) :: st) h) : X l K M tg pc ls (.ref 2000000 :: st) h :=
  X.same kx (fun w => wf_num trivial (wf_pop w)) fun p e R s m args below meth c H locs cells slots Q σ la F S Hm hl rf rl kk => by
    have hx := F.bs.2.2.1
    have e1 : cv σ (.ref 2000000) = .ref (kX K) := by show Value.ref (σ 2000000) = _; rw [Hm.2.2.2.2]
    rw [List.map_cons, e1]
    exact va_slen F.ex F.cc hx.1 (Nat.lt_of_lt_of_le hx.2 F.bs.2.2.2.2.2) (Nat.not_le.mpr hx.2) S d (kk la hl)
/-- Math.max, Math.min -/
def jmax (x y : Int32) : Int32 := if x < y then y else x
def jmin (x y : Int32) : Int32 := if y < x then y else x
theorem x_mmax {i : Nat} {x y : Int32} (w1 : Cond.methodLink (mO M) i Lib.Math.max.name ∈ AW) (w2 : Cond.static Lib.Math.max.name ∈ AW) (w3 : Cond.initialized "java/lang/Math" ∈ AW) (w4 : Cond.code Lib.Math.max.name Lib.Math.max.code 2 (some .int) ∈ AW) (hd : 2 ≤ mD M) (hst : (st.map fun v => v.category).sum ≤ 8) (d : decode (mB M) pc = .ok (.invokestatic i, 3)) (kx : X l K M tg (pc + 3) ls (.int (jmax x y) :: st) h) : X l K M tg pc ls (.int y :: .int x :: st) h :=
  X.same2 kx (fun w => wf_num trivial (wf_pop (wf_pop w))) fun p e R s m args below meth c H locs cells slots Q σ la F S Hm hl rf rl hc hs kk =>
    va_mmax F.ex F.cc (F.ml.trans hl.1.symm) F.ow (F.ts _ w1) (F.ts _ w2) (F.ts _ w3) (F.ts _ w4) (by omega) (by have := st_cat (σ := σ) hst; omega) hc hs d (kk la hl)
theorem x_mmin {i : Nat} {x y : Int32} (w1 : Cond.methodLink (mO M) i Lib.Math.min.name ∈ AW) (w2 : Cond.static Lib.Math.min.name ∈ AW) (w3 : Cond.initialized "java/lang/Math" ∈ AW) (w4 : Cond.code Lib.Math.min.name Lib.Math.min.code 2 (some .int) ∈ AW) (hd : 2 ≤ mD M) (hst : (st.map fun v => v.category).sum ≤ 8) (d : decode (mB M) pc = .ok (.invokestatic i, 3)) (kx : X l K M tg (pc + 3) ls (.int (jmin x y) :: st) h) : X l K M tg pc ls (.int y :: .int x :: st) h :=
  X.same2 kx (fun w => wf_num trivial (wf_pop (wf_pop w))) fun p e R s m args below meth c H locs cells slots Q σ la F S Hm hl rf rl hc hs kk =>
    va_mmin F.ex F.cc (F.ml.trans hl.1.symm) F.ow (F.ts _ w1) (F.ts _ w2) (F.ts _ w3) (F.ts _ w4) (by omega) (by have := st_cat (σ := σ) hst; omega) hc hs d (kk la hl)
/-- raw bits -/
theorem x_rawF {i : Nat} {b : UInt32} (w1 : Cond.methodLink (mO M) i ⟨"java/lang/Float", "floatToRawIntBits", "(F)I"⟩ ∈ AW) (w2 : Cond.native ⟨"java/lang/Float", "floatToRawIntBits", "(F)I"⟩ ∈ AW) (w3 : Cond.static ⟨"java/lang/Float", "floatToRawIntBits", "(F)I"⟩ ∈ AW) (w4 : Cond.initialized "java/lang/Float" ∈ AW) (hd : 2 ≤ mD M) (hst : (st.map fun v => v.category).sum ≤ 8) (d : decode (mB M) pc = .ok (.invokestatic i, 3)) (kx : X l K M tg (pc + 3) ls (.int b.toInt32 :: st) h) : X l K M tg pc ls (.float b :: st) h :=
  X.same kx (fun w => wf_num trivial (wf_pop w)) fun p e R s m args below meth c H locs cells slots Q σ la F S Hm hl rf rl kk =>
    vn_f2i F.ex F.cc (F.ml.trans hl.1.symm) F.ow (F.ts _ w1) (F.ts _ w2) (F.ts _ w3) (F.ts _ w4) (by omega) (by have := st_cat (σ := σ) hst; omega) d (kk la hl)
theorem x_rawD {i : Nat} {b : UInt64} (w1 : Cond.methodLink (mO M) i ⟨"java/lang/Double", "doubleToRawLongBits", "(D)J"⟩ ∈ AW) (w2 : Cond.native ⟨"java/lang/Double", "doubleToRawLongBits", "(D)J"⟩ ∈ AW) (w3 : Cond.static ⟨"java/lang/Double", "doubleToRawLongBits", "(D)J"⟩ ∈ AW) (w4 : Cond.initialized "java/lang/Double" ∈ AW) (hd : 2 ≤ mD M) (hst : (st.map fun v => v.category).sum ≤ 8) (d : decode (mB M) pc = .ok (.invokestatic i, 3)) (kx : X l K M tg (pc + 3) ls (.long b.toInt64 :: st) h) : X l K M tg pc ls (.double b :: st) h :=
  X.same kx (fun w => wf_num trivial (wf_pop w)) fun p e R s m args below meth c H locs cells slots Q σ la F S Hm hl rf rl kk =>
    vn_d2l F.ex F.cc (F.ml.trans hl.1.symm) F.ow (F.ts _ w1) (F.ts _ w2) (F.ts _ w3) (F.ts _ w4) (by omega) (by have := st_cat (σ := σ) hst; omega) d (kk la hl)
/-- System.arraycopy between two int arrays -/
def cpyI (h : Hp) (a0 a : Nat) (sp dp n : Nat) : Hp := (qN h, qT h, qW h, fun x j => if x = a ∧ dp ≤ j ∧ j < dp + n then qI h a0 (sp + (j - dp)) else qI h x j, qL h, qR h, qC h, qS h)
theorem X.upd2 {pc' : Nat} {st' : List Value} {h' : Hp} (hq : qC h' = qC h ∧ qS h' = qS h ∧ qN h' = qN h) (hz : Hw h → Hw h') (k : X l K M tg pc' ls st' h') (w : Wf (qN h) ls st → Wf (qN h) ls st')
    (f : ∀ (p : Program) (e : Env) (R : Room) (s : State) (m : MethodId) (args : Array Value) (below : List Frame) (meth : Method) (c : Code) (H : Heap) (locs : List Loc) (cells slots : Nat) (Q : State → Prop) (σ : Nat → Nat) (la : Array Slot),
      Fr l K M p s m args meth c → va_S (kA K) s.heap H locs → Sm K σ h H → lv_has la (mL M) (cvL σ ls) → R.frames = mD M → R.locals = 100 * mD M →
      (∀ (H1 : Heap) (locs1 : List Loc), va_P (kD K) kCl (kW (kG K) σ h') H1 → va_D (kA K) (kW (kG K) σ h') → va_S (kA K) s.heap H1 locs1 → W p l e R s m args below meth c H1 locs1 cells slots Q (F0 m pc' la (st'.map (cv σ)))) →
      W p l e R s m args below meth c H locs cells slots Q (F0 m pc la (st.map (cv σ)))) : X l K M tg pc ls st h := by
  obtain ⟨q1, q2, q3⟩ := hq
  refine ⟨by rw [← q1, ← q2, ← q3]; exact k.1, ?_⟩
  intro p e s m args below meth c H locs c0 s0 n0 σ0 σ la hF h0 hE hS hM hl hw
  refine f p e _ s m args below meth c H locs _ _ _ σ la hF hS hM hl rfl rfl (fun H1 locs1 hP hD hS1 => ?_)
  have := k.2 p e s m args below meth c H1 locs1 c0 s0 n0 σ0 σ la hF (by rw [q1, q2, q3]; exact h0) hE hS1 ⟨⟨hP, hD⟩, by rw [q3]; exact hM.2.1, hz hM.2.2.1, hM.2.2.2⟩ hl (by rw [q3]; exact w hw)
  rw [q1, q2] at this
  exact this
theorem x_copyi {i a0 a : Nat} {sp dp n : Int32} (w1 : Cond.methodLink (mO M) i arraycopyName ∈ AW) (w2 : Cond.native arraycopyName ∈ AW) (w3 : Cond.static arraycopyName ∈ AW) (w4 : Cond.initialized "java/lang/System" ∈ AW) (hd : 2 ≤ mD M) (hst : (st.map fun v => v.category).sum ≤ 8) (d : decode (mB M) pc = .ok (.invokestatic i, 3)) (ha0 : okr h a0 20) (ha : okr h a 20)
    (h1 : ¬ sp < 0 ∧ ¬ dp < 0 ∧ ¬ n < 0) (h4 : sp.toNatClampNeg + n.toNatClampNeg ≤ qW h a0 ∧ dp.toNatClampNeg + n.toNatClampNeg ≤ qW h a) (kx : X l K M tg (pc + 3) ls st (cpyI h a0 a sp.toNatClampNeg dp.toNatClampNeg n.toNatClampNeg)) : X l K M tg pc ls (.int n :: .int dp :: .ref a :: .int sp :: .ref a0 :: st) h :=
  X.upd2 (h' := cpyI h a0 a sp.toNatClampNeg dp.toNatClampNeg n.toNatClampNeg) ⟨rfl, rfl, rfl⟩ (fun q => q) kx (fun w => wf_pop (wf_pop (wf_pop (wf_pop (wf_pop w))))) fun p e R s m args below meth c H locs cells slots Q σ la F S Hm hl rf rl kk => by
    have he0 := kW_get (G := kG K) (σ := σ) ha0.1
    rw [kE_20 ha0.2] at he0
    have he := kW_get (G := kG K) (σ := σ) ha.1
    rw [kE_20 ha.2] at he
    have hset : (kW (kG K) σ h).set (a - 1) (σ a, .inl (kG K 0, qW h a, .inl (va_cpy (fun j => qI h a0 j) (fun j => qI h a j) sp.toNatClampNeg dp.toNatClampNeg n.toNatClampNeg))) = kW (kG K) σ (cpyI h a0 a sp.toNatClampNeg dp.toNatClampNeg n.toNatClampNeg) := by
      have e1 : kE (kG K) σ (cpyI h a0 a sp.toNatClampNeg dp.toNatClampNeg n.toNatClampNeg) a = .inl (kG K 0, qW h a, .inl (va_cpy (fun j => qI h a0 j) (fun j => qI h a j) sp.toNatClampNeg dp.toNatClampNeg n.toNatClampNeg)) := by
        rw [kE_20 (show qT (cpyI h a0 a sp.toNatClampNeg dp.toNatClampNeg n.toNatClampNeg) a = 20 from ha.2)]
        have e2 : (fun j => qI (cpyI h a0 a sp.toNatClampNeg dp.toNatClampNeg n.toNatClampNeg) a j) = va_cpy (fun j => qI h a0 j) (fun j => qI h a j) sp.toNatClampNeg dp.toNatClampNeg n.toNatClampNeg := by
          funext j
          show (if a = a ∧ dp.toNatClampNeg ≤ j ∧ j < dp.toNatClampNeg + n.toNatClampNeg then _ else _) = _
          unfold va_cpy
          by_cases hj : dp.toNatClampNeg ≤ j ∧ j < dp.toNatClampNeg + n.toNatClampNeg
          · rw [if_pos ⟨rfl, hj⟩, if_pos hj]
          · rw [if_neg (fun q => hj q.2), if_neg hj]
        rw [e2]; rfl
      rw [← e1]
      exact kW_set rfl ha.1 (fun x hx => kE_eq rfl rfl (fun j => if_neg (fun q => hx q.1)) (fun _ => rfl) (fun _ => rfl))
    refine va_copyi F.ex F.cc (F.ml.trans hl.1.symm) F.ow (F.ts _ w1) (F.ts _ w2) (F.ts _ w3) (F.ts _ w4) F.bs.K Hm.1.1 Hm.1.2 S (a0 - 1) (a - 1) 0 0 he0 he rfl rfl rfl h1.1 h1.2.1 h1.2.2 h4.1 h4.2 (fun _ _ => rfl) (by omega) ?_ d (fun H1 locs1 hP hD hS => kk H1 locs1 (hset ▸ hP) (hset ▸ hD) hS)
    have h9 : nativeFrameWords "java/lang/System" "arraycopy" 5 ≤ 40 := by decide
    have := st_cat (σ := σ) hst
    omega
theorem Ctr.bd {d : Nat} {y : MethodName} {cw : Cond} {as : List Value} (c : Ctr l K d y cw as h tg) : qC h ≤ qC tg.1 ∧ qS h ≤ qS tg.1 ∧ qN h ≤ qN tg.1 := c.1
/-- calls that return, calls that throw out of this method -/
theorem x_callV_r {y : MethodName} {cw : Cond} {bytes : ByteArray} {maxL n i b ci dc : Nat} {ret : Option FieldType} {as st0 st1 : List Value} {h1 : Hp} {v : Option Value} (mf : MF y cw bytes maxL ret n) (w1 : Cond.instanceMethod y ∈ AW) (w2 : Cond.selects y.cls y y ∈ AW) (lf : LF (mO M) i y) {r : vw_C} (hc : kCl[ci]? = some r) (hcy : r.1 = y.cls)
    (d : decode (mB M) pc = .ok (.invokevirtual i, 3)) (hd : dc + 1 ≤ mD M) (hn : as.length = n) (hs0 : st0 = as.reverse ++ .ref b :: st) (hs : (st.map fun v => v.category).sum ≤ 8) (ha : okr h b (ci + 1)) (cn : Ctr l K dc y cw (.ref b :: as) h (h1, .inr v)) (hs1 : v.toList ++ st = st1) (kr : X l K M tg (pc + 3) ls st1 h1) : X l K M tg pc ls st0 h :=
  x_callV mf w1 w2 lf hc hcy d hd hn hs0 hs ha cn kr.1 (fun v' e => by cases e; rw [hs1]; exact kr) (fun k e => nomatch e)
theorem x_callV_x {y : MethodName} {cw : Cond} {bytes : ByteArray} {maxL n i b ci dc k : Nat} {ret : Option FieldType} {as st0 : List Value} {h1 : Hp} (mf : MF y cw bytes maxL ret n) (w1 : Cond.instanceMethod y ∈ AW) (w2 : Cond.selects y.cls y y ∈ AW) (lf : LF (mO M) i y) {r : vw_C} (hc : kCl[ci]? = some r) (hcy : r.1 = y.cls)
    (d : decode (mB M) pc = .ok (.invokevirtual i, 3)) (hd : dc + 1 ≤ mD M) (hn : as.length = n) (hs0 : st0 = as.reverse ++ .ref b :: st) (hs : (st.map fun v => v.category).sum ≤ 8) (ha : okr h b (ci + 1)) (cn : Ctr l K dc y cw (.ref b :: as) h (h1, .inl k)) (kx : XX l K M tg pc ls k h1) : X l K M tg pc ls st0 h :=
  x_callV (st := st) mf w1 w2 lf hc hcy d hd hn hs0 hs ha cn kx.1 (fun v' e => nomatch e) (fun k e => by cases e; exact kx)
theorem x_callS_r {y : MethodName} {cw : Cond} {bytes : ByteArray} {maxL n i dc : Nat} {ret : Option FieldType} {as st0 st1 : List Value} {h1 : Hp} {v : Option Value} (mf : MF y cw bytes maxL ret n) (w1 : Cond.static y ∈ AW) (lf : LF (mO M) i y)
    (d : decode (mB M) pc = .ok (.invokestatic i, 3)) (hd : dc + 1 ≤ mD M) (hn : as.length = n) (hs0 : st0 = as.reverse ++ st) (hs : (st.map fun v => v.category).sum ≤ 8) (cn : Ctr l K dc y cw as h (h1, .inr v)) (hs1 : v.toList ++ st = st1) (kr : X l K M tg (pc + 3) ls st1 h1) : X l K M tg pc ls st0 h :=
  x_callS mf w1 lf d hd hn hs0 hs cn kr.1 (fun v' e => by cases e; rw [hs1]; exact kr) (fun k e => nomatch e)
theorem x_callS_x {y : MethodName} {cw : Cond} {bytes : ByteArray} {maxL n i dc k : Nat} {ret : Option FieldType} {as st0 : List Value} {h1 : Hp} (mf : MF y cw bytes maxL ret n) (w1 : Cond.static y ∈ AW) (lf : LF (mO M) i y)
    (d : decode (mB M) pc = .ok (.invokestatic i, 3)) (hd : dc + 1 ≤ mD M) (hn : as.length = n) (hs0 : st0 = as.reverse ++ st) (hs : (st.map fun v => v.category).sum ≤ 8) (cn : Ctr l K dc y cw as h (h1, .inl k)) (kx : XX l K M tg pc ls k h1) : X l K M tg pc ls st0 h :=
  x_callS (st := st) mf w1 lf d hd hn hs0 hs cn kx.1 (fun v' e => nomatch e) (fun k e => by cases e; exact kx)
theorem x_callI_r {y : MethodName} {cw : Cond} {bytes : ByteArray} {maxL n i b dc : Nat} {as st0 st1 : List Value} {h1 : Hp} {v : Option Value} (mf : MF y cw bytes maxL none n) (w1 : Cond.instanceMethod y ∈ AW) (hy : y.name = "<init>") (lf : LF (mO M) i y)
    (d : decode (mB M) pc = .ok (.invokespecial i, 3)) (hd : dc + 1 ≤ mD M) (hn : as.length = n) (hs0 : st0 = as.reverse ++ .ref b :: st) (hs : (st.map fun v => v.category).sum ≤ 8) (cn : Ctr l K dc y cw (.ref b :: as) h (h1, .inr v)) (hs1 : v.toList ++ st = st1) (kr : X l K M tg (pc + 3) ls st1 h1) : X l K M tg pc ls st0 h :=
  x_callI mf w1 hy lf d hd hn hs0 hs cn kr.1 (fun v' e => by cases e; rw [hs1]; exact kr) (fun k e => nomatch e)
theorem x_callI_x {y : MethodName} {cw : Cond} {bytes : ByteArray} {maxL n i b dc k : Nat} {as st0 : List Value} {h1 : Hp} (mf : MF y cw bytes maxL none n) (w1 : Cond.instanceMethod y ∈ AW) (hy : y.name = "<init>") (lf : LF (mO M) i y)
    (d : decode (mB M) pc = .ok (.invokespecial i, 3)) (hd : dc + 1 ≤ mD M) (hn : as.length = n) (hs0 : st0 = as.reverse ++ .ref b :: st) (hs : (st.map fun v => v.category).sum ≤ 8) (cn : Ctr l K dc y cw (.ref b :: as) h (h1, .inl k)) (kx : XX l K M tg pc ls k h1) : X l K M tg pc ls st0 h :=
  x_callI (st := st) mf w1 hy lf d hd hn hs0 hs cn kx.1 (fun v' e => nomatch e) (fun k e => by cases e; exact kx)
theorem x_callX_r {y : MethodName} {cw : Cond} {bytes : ByteArray} {maxL n i dc : Nat} {ret : Option FieldType} {hh : List (Nat × Nat × Nat × Nat)} {as st0 st1 : List Value} {h1 : Hp} {v : Option Value} (mf : MFX y cw bytes maxL ret n hh) (w1 : Cond.static y ∈ AW) (lf : Cond.methodLink (mO M) i y ∈ AW)
    (d : decode (mB M) pc = .ok (.invokestatic i, 3)) (hd : dc + 1 ≤ mD M) (hn : as.length = n) (hs0 : st0 = as.reverse ++ st) (hs : (st.map fun v => v.category).sum ≤ 8) (cn : Ctr l K dc y cw as h (h1, .inr v)) (hs1 : v.toList ++ st = st1) (kr : X l K M tg (pc + 3) ls st1 h1) : X l K M tg pc ls st0 h :=
  x_callX mf w1 lf d hd hn hs0 hs cn kr.1 (fun v' e => by cases e; rw [hs1]; exact kr) (fun k e => nomatch e)
theorem x_callX_x {y : MethodName} {cw : Cond} {bytes : ByteArray} {maxL n i dc k : Nat} {ret : Option FieldType} {hh : List (Nat × Nat × Nat × Nat)} {as st0 : List Value} {h1 : Hp} (mf : MFX y cw bytes maxL ret n hh) (w1 : Cond.static y ∈ AW) (lf : Cond.methodLink (mO M) i y ∈ AW)
    (d : decode (mB M) pc = .ok (.invokestatic i, 3)) (hd : dc + 1 ≤ mD M) (hn : as.length = n) (hs0 : st0 = as.reverse ++ st) (hs : (st.map fun v => v.category).sum ≤ 8) (cn : Ctr l K dc y cw as h (h1, .inl k)) (kx : XX l K M tg pc ls k h1) : X l K M tg pc ls st0 h :=
  x_callX (st := st) mf w1 lf d hd hn hs0 hs cn kx.1 (fun v' e => nomatch e) (fun k e => by cases e; exact kx)
/-- switches -/
theorem x_tabK {dflt lo hi : Int} {offs : Array Int} {len : Nat} {x : Int32} {z off : Int} {t : Nat} (d : decode (mB M) pc = .ok (.tableswitch dflt lo hi offs, len)) (hx : x = Int32.ofInt z) (hz : (Int32.ofInt z).toInt = z) (h1 : ¬ z < lo) (h2 : ¬ hi < z) (ho : offs[(z - lo).toNat]? = some off) (ht : (pc : Int) + off = (t : Int)) (k : X l K M tg t ls st h) : X l K M tg pc ls (.int x :: st) h := by
  have e : x.toInt = z := by rw [hx]; exact hz
  exact x_tabI d (by rw [e]; exact h1) (by rw [e]; exact h2) (by rw [e]; exact ho) ht k
end XM
/-! the words of the functions -/
abbrev iN (z : Int) : Int32 := Int32.ofInt z
abbrev Rs (α : Type) : Type := Hp × (Nat ⊕ α)
abbrev okp (h : Hp) (r : Nat) : Prop := 1 ≤ r ∧ r ≤ qN h
noncomputable def chk {α : Type} (c : Prop) (x : Option α) : Option α := @ite _ c (Classical.propDecidable c) x none
theorem chk_pos {α : Type} {c : Prop} {x : Option α} (hc : c) : chk c x = x := @if_pos c (Classical.propDecidable c) hc _ x none
theorem chk_some {α : Type} {c : Prop} {x : Option α} {t : α} (e : chk c x = some t) : c ∧ x = some t := by
  by_cases hc : c
  · exact ⟨hc, by rw [chk_pos hc] at e; exact e⟩
  · have : chk c x = none := @if_neg c (Classical.propDecidable c) hc _ x none
    rw [this] at e; cases e
def bnd {α β : Type} (x : Option (Rs α)) (k : Hp → α → Option (Rs β)) : Option (Rs β) := match x with
  | none => none
  | some (h1, .inl e) => some (h1, .inl e)
  | some (h1, .inr v) => k h1 v
theorem bnd_ret {α β : Type} {h1 : Hp} {v : α} {k : Hp → α → Option (Rs β)} : bnd (some (h1, .inr v)) k = k h1 v := rfl
theorem bnd_thr {α β : Type} {h1 : Hp} {e : Nat} {k : Hp → α → Option (Rs β)} : bnd (some (h1, .inl e)) k = some (h1, .inl e) := rfl
theorem bnd_some {α β : Type} {x : Option (Rs α)} {k : Hp → α → Option (Rs β)} {t : Rs β} (e : bnd x k = some t) : (∃ h1 e1, x = some (h1, .inl e1) ∧ t = (h1, .inl e1)) ∨ ∃ h1 v, x = some (h1, .inr v) ∧ k h1 v = some t := by
  match x, e with
  | some (h1, .inl e1), e => exact Or.inl ⟨h1, e1, rfl, (Option.some.inj e).symm⟩
  | some (h1, .inr v), e => exact Or.inr ⟨h1, v, rfl, e⟩
/-- with handlers: what is thrown goes on at kx -/
def bndX {α β : Type} (x : Option (Rs α)) (k : Hp → α → Option (Rs β)) (kx : Hp → Nat → Option (Rs β)) : Option (Rs β) := match x with
  | none => none
  | some (h1, .inl e) => kx h1 e
  | some (h1, .inr v) => k h1 v
theorem bndX_some {α β : Type} {x : Option (Rs α)} {k : Hp → α → Option (Rs β)} {kx : Hp → Nat → Option (Rs β)} {t : Rs β} (e : bndX x k kx = some t) : (∃ h1 e1, x = some (h1, .inl e1) ∧ kx h1 e1 = some t) ∨ ∃ h1 v, x = some (h1, .inr v) ∧ k h1 v = some t := by
  match x, e with
  | some (h1, .inl e1), e => exact Or.inl ⟨h1, e1, rfl, e⟩
  | some (h1, .inr v), e => exact Or.inr ⟨h1, v, rfl, e⟩
def lt {α : Type} (x : Hp) (k : Hp → α) : α := k x
def tgW {α : Type} (f : α → Option Value) (t : Rs α) : Tg := (t.1, match t.2 with
  | .inl e => .inl e
  | .inr v => .inr (f v))
abbrev tgI : Rs Int32 → Tg := tgW (fun v => some (.int v))
abbrev tgL : Rs Int64 → Tg := tgW (fun v => some (.long v))
abbrev tgF : Rs UInt32 → Tg := tgW (fun v => some (.float v))
abbrev tgR : Rs Nat → Tg := tgW (fun v => some (.ref v))
abbrev tgV : Rs Unit → Tg := tgW (fun _ => none)
