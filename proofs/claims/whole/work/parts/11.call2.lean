/-! ===== calls of methods that have a contract ===== -/
section XC
variable {l : Launch} {K : Ctx} {M : Mi} {tg : Tg} {pc : Nat} {ls : List (Nat × Value)} {st : List Value} {h : Hp}
theorem st_cat {σ : Nat → Nat} (hs : (st.map fun v => v.category).sum ≤ 8) : ((st.map (cv σ)).map fun v => v.category).sum ≤ 8 := by
  rw [List.map_map, show ((fun v : Value => v.category) ∘ cv σ) = fun v => v.category from funext fun v => cv_cat σ v]; exact hs
theorem PcX.pre {σ : Nat → Nat} {as : List Value} {s : State} {H : Heap} {locs : List Loc} (B : Bs K s s.heap) (hS : va_S (kA K) s.heap H locs) (hM : Sm K σ h H) : ∀ U : State, U.heap = H → s.WarmedH U.vm → PcX K σ h as (as.map (cv σ)).toArray U := fun U hU hW => ⟨rfl, by rw [hU]; exact (B.go hS).warm hW, by rw [hU]; exact hM⟩
/-- invokevirtual -/
theorem x_callV {y : MethodName} {cw : Cond} {bytes : ByteArray} {maxL n i b ci dc : Nat} {ret : Option FieldType} {as st0 : List Value} {h1 : Hp} {o : Nat ⊕ Option Value} (mf : MF y cw bytes maxL ret n) (w1 : Cond.instanceMethod y ∈ AW) (w2 : Cond.selects y.cls y y ∈ AW) (lf : LF (mO M) i y) {r : vw_C} (hc : kCl[ci]? = some r) (hcy : r.1 = y.cls)
    (d : decode (mB M) pc = .ok (.invokevirtual i, 3)) (hd : dc + 1 ≤ mD M) (hn : as.length = n) (hs0 : st0 = as.reverse ++ .ref b :: st) (hs : (st.map fun v => v.category).sum ≤ 8) (ha : okr h b (ci + 1)) (cn : Ctr l K dc y cw (.ref b :: as) h (h1, o))
    (hb2 : qC h1 ≤ qC tg.1 ∧ qS h1 ≤ qS tg.1 ∧ qN h1 ≤ qN tg.1) (kr : ∀ v, o = .inr v → X l K M tg (pc + 3) ls (v.toList ++ st) h1) (kx : ∀ k, o = .inl k → XX l K M tg pc ls k h1) : X l K M tg pc ls st0 h := by
  obtain ⟨⟨rfl, hcw, hmx⟩, hini, hmh, hpd⟩ := mf
  subst hs0
  refine X.call (a9 := fun σ => (Value.ref (σ b) :: as.map (cv σ)).toArray) cn.1 (fun n w => ⟨w.1, fun v hv => w.2 v (List.mem_append_right _ (List.mem_cons_of_mem _ hv))⟩) ?_ hb2 kr kx
  intro p e R s m args below meth c H locs cells slots σ la F S Hm hl hw hC hSl rf rl
  obtain ⟨u1, u2, u3, u4, u5⟩ := kOK (C := r.1) (T := r.2.1) (N := r.2.2) ci hc
  have he := kW_get (G := kG K) (σ := σ) ha.1
  rw [kE_obj ha.2 u5] at he
  have hM9 := cn.2 (fun v hv => by rcases List.mem_cons.mp hv with q | q; exact q ▸ Or.inl ha.1.2; exact hw.2 v (List.mem_append_left _ (List.mem_reverse.mpr q))) σ
  have hok : ∀ w ∈ (Cond.code y bytes maxL ret :: AW), ∀ (a' : Array Value) (U : State), s.WarmedH U.vm → w.before a' U = true := pay_in F.ts (AW_good hcw)
  have hlen : ∀ sig, parseMethodDescriptor y.desc = some sig → n = sig.parameters.length := fun sig q => by rw [q] at hpd; exact (Option.some.inj hpd).symm
  have hrec := va_recv F.bs.K Hm.1.1 hc he
  have hpre : PreV s H y.cls (σ b) (PcX K σ h (.ref b :: as)) (as.map (cv σ)) := ⟨PcX.blind, hcy ▸ hrec, PcX.pre F.bs S Hm⟩
  have hst9 : (as.reverse ++ Value.ref b :: st).map (cv σ) = (as.map (cv σ)).reverse ++ .ref (σ b) :: st.map (cv σ) := by simp [List.map_append, List.map_reverse, cv]
  rw [hst9]
  have hloc : 8 + (maxL + 11) + (rmD dc (qC h1 - qC h) (qS h1 - qS h)).locals ≤ R.locals := by rw [rl]; show _ + 100 * dc ≤ _; omega
  have hfr : (rmD dc (qC h1 - qC h) (qS h1 - qS h)).frames + 1 ≤ R.frames := by rw [rf]; exact hd
  rcases lf with q | ⟨host, q⟩
  · exact vx_runV (C := y.cls) (n := n) ⟨F.ex, F.cc, F.ml, F.ow, F.ts⟩ hM9 ⟨⟨rfl, rfl, hfr, hloc, hok, List.mem_cons_self, F.ts _ hcw, F.ts _ hini, hmh, hlen, F.ts _ q⟩, F.ts _ w1, F.ts _ w2⟩ hpre rfl (by rw [List.length_map]; exact hn) hl.1 rfl (lv_room (st_cat hs)) d ⟨hC, hSl⟩
  · exact vx_runVN (C := y.cls) (n := n) ⟨F.ex, F.cc, F.ml, F.ow, F.ts⟩ hM9 ⟨⟨⟨rfl, rfl, hfr, hloc, hok, List.mem_cons_self⟩, F.ts _ hcw, F.ts _ hini, hmh, hlen, va_Nw.use rfl (F.nw q rfl)⟩, F.ts _ w1, F.ts _ w2⟩ hpre rfl (by rw [List.length_map]; exact hn) hl.1 rfl (lv_room (st_cat hs)) d ⟨hC, hSl⟩
/-- invokestatic -/
theorem x_callS {y : MethodName} {cw : Cond} {bytes : ByteArray} {maxL n i dc : Nat} {ret : Option FieldType} {as st0 : List Value} {h1 : Hp} {o : Nat ⊕ Option Value} (mf : MF y cw bytes maxL ret n) (w1 : Cond.static y ∈ AW) (lf : LF (mO M) i y)
    (d : decode (mB M) pc = .ok (.invokestatic i, 3)) (hd : dc + 1 ≤ mD M) (hn : as.length = n) (hs0 : st0 = as.reverse ++ st) (hs : (st.map fun v => v.category).sum ≤ 8) (cn : Ctr l K dc y cw as h (h1, o))
    (hb2 : qC h1 ≤ qC tg.1 ∧ qS h1 ≤ qS tg.1 ∧ qN h1 ≤ qN tg.1) (kr : ∀ v, o = .inr v → X l K M tg (pc + 3) ls (v.toList ++ st) h1) (kx : ∀ k, o = .inl k → XX l K M tg pc ls k h1) : X l K M tg pc ls st0 h := by
  obtain ⟨⟨rfl, hcw, hmx⟩, hini, hmh, hpd⟩ := mf
  subst hs0
  refine X.call (a9 := fun σ => (as.map (cv σ)).toArray) cn.1 (fun n w => ⟨w.1, fun v hv => w.2 v (List.mem_append_right _ hv)⟩) ?_ hb2 kr kx
  intro p e R s m args below meth c H locs cells slots σ la F S Hm hl hw hC hSl rf rl
  have hM9 := cn.2 (fun v hv => hw.2 v (List.mem_append_left _ (List.mem_reverse.mpr hv))) σ
  have hok : ∀ w ∈ (Cond.code y bytes maxL ret :: AW), ∀ (a' : Array Value) (U : State), s.WarmedH U.vm → w.before a' U = true := pay_in F.ts (AW_good hcw)
  have hlen : ∀ sig, parseMethodDescriptor y.desc = some sig → n = sig.parameters.length := fun sig q => by rw [q] at hpd; exact (Option.some.inj hpd).symm
  have hpre : PreS s H (PcX K σ h as) (as.map (cv σ)) := ⟨PcX.blind, PcX.pre F.bs S Hm⟩
  have hst9 : (as.reverse ++ st).map (cv σ) = (as.map (cv σ)).reverse ++ st.map (cv σ) := by simp [List.map_append, List.map_reverse]
  rw [hst9]
  have hloc : 8 + (maxL + 11) + (rmD dc (qC h1 - qC h) (qS h1 - qS h)).locals ≤ R.locals := by rw [rl]; show _ + 100 * dc ≤ _; omega
  have hfr : (rmD dc (qC h1 - qC h) (qS h1 - qS h)).frames + 1 ≤ R.frames := by rw [rf]; exact hd
  rcases lf with q | ⟨host, q⟩
  · exact vx_runS (n := n) ⟨F.ex, F.cc, F.ml, F.ow, F.ts⟩ hM9 ⟨⟨rfl, rfl, hfr, hloc, hok, List.mem_cons_self, F.ts _ hcw, F.ts _ hini, hmh, hlen, F.ts _ q⟩, F.ts _ w1⟩ hpre rfl (by rw [List.length_map]; exact hn) hl.1 rfl (lv_room (st_cat hs)) d ⟨hC, hSl⟩
  · exact vx_runSN (n := n) ⟨F.ex, F.cc, F.ml, F.ow, F.ts⟩ hM9 ⟨⟨⟨rfl, rfl, hfr, hloc, hok, List.mem_cons_self⟩, F.ts _ hcw, F.ts _ hini, hmh, hlen, va_Nw.use rfl (F.nw q rfl)⟩, F.ts _ w1, trivial⟩ hpre rfl (by rw [List.length_map]; exact hn) hl.1 rfl (lv_room (st_cat hs)) d ⟨hC, hSl⟩
/-- invokespecial of a constructor -/
theorem x_callI {y : MethodName} {cw : Cond} {bytes : ByteArray} {maxL n i b dc : Nat} {as st0 : List Value} {h1 : Hp} {o : Nat ⊕ Option Value} (mf : MF y cw bytes maxL none n) (w1 : Cond.instanceMethod y ∈ AW) (hy : y.name = "<init>") (lf : LF (mO M) i y)
    (d : decode (mB M) pc = .ok (.invokespecial i, 3)) (hd : dc + 1 ≤ mD M) (hn : as.length = n) (hs0 : st0 = as.reverse ++ .ref b :: st) (hs : (st.map fun v => v.category).sum ≤ 8) (cn : Ctr l K dc y cw (.ref b :: as) h (h1, o))
    (hb2 : qC h1 ≤ qC tg.1 ∧ qS h1 ≤ qS tg.1 ∧ qN h1 ≤ qN tg.1) (kr : ∀ v, o = .inr v → X l K M tg (pc + 3) ls (v.toList ++ st) h1) (kx : ∀ k, o = .inl k → XX l K M tg pc ls k h1) : X l K M tg pc ls st0 h := by
  obtain ⟨⟨rfl, hcw, hmx⟩, hini, hmh, hpd⟩ := mf
  subst hs0
  refine X.call (a9 := fun σ => (Value.ref (σ b) :: as.map (cv σ)).toArray) cn.1 (fun n w => ⟨w.1, fun v hv => w.2 v (List.mem_append_right _ (List.mem_cons_of_mem _ hv))⟩) ?_ hb2 kr kx
  intro p e R s m args below meth c H locs cells slots σ la F S Hm hl hw hC hSl rf rl
  have hM9 := cn.2 (fun v hv => by rcases List.mem_cons.mp hv with q | q; exact q ▸ hw.2 _ (List.mem_append_right _ List.mem_cons_self); exact hw.2 v (List.mem_append_left _ (List.mem_reverse.mpr q))) σ
  have hok : ∀ w ∈ (Cond.code y bytes maxL none :: AW), ∀ (a' : Array Value) (U : State), s.WarmedH U.vm → w.before a' U = true := pay_in F.ts (AW_good hcw)
  have hlen : ∀ sig, parseMethodDescriptor y.desc = some sig → n = sig.parameters.length := fun sig q => by rw [q] at hpd; exact (Option.some.inj hpd).symm
  have hpre : PreS s H (PcX K σ h (.ref b :: as)) (.ref (σ b) :: as.map (cv σ)) := ⟨PcX.blind, PcX.pre F.bs S Hm⟩
  have hst9 : (as.reverse ++ Value.ref b :: st).map (cv σ) = (as.map (cv σ)).reverse ++ .ref (σ b) :: st.map (cv σ) := by simp [List.map_append, List.map_reverse, cv]
  rw [hst9]
  have hloc : 8 + (maxL + 11) + (rmD dc (qC h1 - qC h) (qS h1 - qS h)).locals ≤ R.locals := by rw [rl]; show _ + 100 * dc ≤ _; omega
  have hfr : (rmD dc (qC h1 - qC h) (qS h1 - qS h)).frames + 1 ≤ R.frames := by rw [rf]; exact hd
  rcases lf with q | ⟨host, q⟩
  · exact vx_runI (n := n) (b := σ b) (As := as.map (cv σ)) ⟨F.ex, F.cc, F.ml, F.ow, F.ts⟩ hM9 ⟨⟨rfl, rfl, hfr, hloc, hok, List.mem_cons_self, F.ts _ hcw, F.ts _ hini, hmh, hlen, F.ts _ q⟩, hy, F.ts _ w1⟩ hpre rfl (by rw [List.length_map]; exact hn) hl.1 rfl (lv_room (st_cat hs)) d ⟨hC, hSl⟩
  · exact vx_runIN (n := n) (b := σ b) (As := as.map (cv σ)) ⟨F.ex, F.cc, F.ml, F.ow, F.ts⟩ hM9 ⟨⟨⟨rfl, rfl, hfr, hloc, hok, List.mem_cons_self⟩, F.ts _ hcw, F.ts _ hini, hmh, hlen, va_Nw.use rfl (F.nw q rfl)⟩, hy, F.ts _ w1⟩ hpre rfl (by rw [List.length_map]; exact hn) hl.1 rfl (lv_room (st_cat hs)) d ⟨hC, hSl⟩
/-- a method with a table: its word -/
def MFX (y : MethodName) (cw : Cond) (bytes : ByteArray) (maxL : Nat) (ret : Option FieldType) (n : Nat) (hh : List (Nat × Nat × Nat × Nat)) : Prop :=
  (cw = Cond.codeWith y bytes maxL ret hh ∧ cw ∈ AW ∧ maxL ≤ 40) ∧ Cond.initialized y.cls ∈ AW ∧ noMH y.cls ∧ (parseMethodDescriptor y.desc).map (fun d => d.parameters.length) = some n
theorem x_callX {y : MethodName} {cw : Cond} {bytes : ByteArray} {maxL n i dc : Nat} {ret : Option FieldType} {hh : List (Nat × Nat × Nat × Nat)} {as st0 : List Value} {h1 : Hp} {o : Nat ⊕ Option Value} (mf : MFX y cw bytes maxL ret n hh) (w1 : Cond.static y ∈ AW) (lf : Cond.methodLink (mO M) i y ∈ AW)
    (d : decode (mB M) pc = .ok (.invokestatic i, 3)) (hd : dc + 1 ≤ mD M) (hn : as.length = n) (hs0 : st0 = as.reverse ++ st) (hs : (st.map fun v => v.category).sum ≤ 8) (cn : Ctr l K dc y cw as h (h1, o))
    (hb2 : qC h1 ≤ qC tg.1 ∧ qS h1 ≤ qS tg.1 ∧ qN h1 ≤ qN tg.1) (kr : ∀ v, o = .inr v → X l K M tg (pc + 3) ls (v.toList ++ st) h1) (kx : ∀ k, o = .inl k → XX l K M tg pc ls k h1) : X l K M tg pc ls st0 h := by
  obtain ⟨⟨rfl, hcw, hmx⟩, hini, hmh, hpd⟩ := mf
  subst hs0
  refine X.call (a9 := fun σ => (as.map (cv σ)).toArray) cn.1 (fun n w => ⟨w.1, fun v hv => w.2 v (List.mem_append_right _ hv)⟩) ?_ hb2 kr kx
  intro p e R s m args below meth c H locs cells slots σ la F S Hm hl hw hC hSl rf rl
  have hM9 := cn.2 (fun v hv => hw.2 v (List.mem_append_left _ (List.mem_reverse.mpr hv))) σ
  have hok : ∀ w ∈ (Cond.codeWith y bytes maxL ret hh :: AW), ∀ (a' : Array Value) (U : State), s.WarmedH U.vm → w.before a' U = true := pay_in F.ts (AW_good hcw)
  have hlen : ∀ sig, parseMethodDescriptor y.desc = some sig → n = sig.parameters.length := fun sig q => by rw [q] at hpd; exact (Option.some.inj hpd).symm
  have hpre : PreS s H (PcX K σ h as) (as.map (cv σ)) := ⟨PcX.blind, PcX.pre F.bs S Hm⟩
  have hst9 : (as.reverse ++ st).map (cv σ) = (as.map (cv σ)).reverse ++ st.map (cv σ) := by simp [List.map_append, List.map_reverse]
  rw [hst9]
  have hloc : 8 + (maxL + 11) + (rmD dc (qC h1 - qC h) (qS h1 - qS h)).locals ≤ R.locals := by rw [rl]; show _ + 100 * dc ≤ _; omega
  have hfr : (rmD dc (qC h1 - qC h) (qS h1 - qS h)).frames + 1 ≤ R.frames := by rw [rf]; exact hd
  exact vx_runSX (n := n) ⟨F.ex, F.cc, F.ml, F.ow, F.ts⟩ hM9 ⟨⟨rfl, rfl, hfr, hloc, hok, List.mem_cons_self⟩, F.ts _ hcw, F.ts _ hini, hmh, hlen, F.ts _ lf, F.ts _ w1⟩ hpre rfl (by rw [List.length_map]; exact hn) hl.1 rfl (lv_room (st_cat hs)) d ⟨hC, hSl⟩
end XC
/-- the locals at a method's start -/
def ar0 : Nat → List Value → List (Nat × Value)
  | _, [] => []
  | i, v :: l => (i, v) :: ar0 (if v.category = 2 then i + 2 else i + 1) l
theorem ar0_args (σ : Nat → Nat) : ∀ (as : List Value) (i : Nat), lv_args i (as.map (cv σ)) = cvL σ (ar0 i as)
  | [], _ => rfl
  | v :: l, i => by
    have ih := ar0_args σ l (if v.category = 2 then i + 2 else i + 1)
    rw [List.map_cons]
    unfold lv_args ar0 cvL
    rw [cv_cat]
    simp only [List.map_cons]
    exact congrArg _ ih
theorem ar0_mem : ∀ (as : List Value) (i : Nat) (q : Nat × Value), q ∈ ar0 i as → q.2 ∈ as
  | [], _, _, h => nomatch h
  | v :: l, i, q, h => by
    unfold ar0 at h
    rcases List.mem_cons.mp h with e | e
    · rw [e]; exact List.mem_cons_self
    · exact List.mem_cons_of_mem _ (ar0_mem l _ q e)
def slN : List Value → Nat
  | [] => 0
  | v :: l => (if v.category = 2 then 2 else 1) + slN l
theorem slN_lg (σ : Nat → Nat) : ∀ as : List Value, (lg_sl (as.map (cv σ))).length = slN as
  | [] => rfl
  | v :: l => by
    have ih := slN_lg σ l
    rw [List.map_cons]
    unfold slN
    rw [← ih]
    unfold lg_sl
    rw [List.flatMap_cons, List.length_append, cv_cat]
    congr 1
    split <;> rfl
/-- **a method's contract out of its body** -/
theorem Ctr.of {l : Launch} {K : Ctx} {y : MethodName} {cw : Cond} {bytes : ByteArray} {maxL n d : Nat} {ret : Option FieldType} {as : List Value} {h : Hp} {tg : Tg} (hl : l.stackTraces = false) (mf : MF y cw bytes maxL ret n) (ini : Bool) (hi : ini = true → y.name = "<init>") (hpl : plainName y.cls = true) (hsz : slN as ≤ maxL)
    (k : X l K (d, y.cls, bytes, maxL, ret, [], ini) tg 0 (ar0 0 as) [] h) : Ctr l K d y cw as h tg := by
  obtain ⟨⟨rfl, hcw, hmx⟩, hini, hmh, hpd⟩ := mf
  refine ⟨k.1, fun hok σ => ?_⟩
  refine vx_ofW (cc := bytes) (maxL := maxL) (ret := ret) hpl rfl ?_
  intro p e s m args below meth c s₁ B hml ht hv
  obtain ⟨rfl, hB, hM⟩ := hv
  have hts := atoms_spec (ws := Cond.code y bytes maxL ret :: AW) B.pre
  have hown : s.vm.findClass y.cls = some m.cls := findClass_of_methodNamed B.named
  have hl0 := lv_entry (as.map (cv σ)) (n := maxL) (by rw [slN_lg]; exact hsz)
  rw [lg_entry_eq]
  generalize (lg_sl (as.map (cv σ)) ++ List.replicate (maxL - (lg_sl (as.map (cv σ))).length) Slot.unset).toArray = la at hl0 ⊢
  rw [ar0_args] at hl0
  have k9 := k.2 p e s m (as.map (cv σ)).toArray below meth c s.heap [] (qC h) (qS h) (qN h) σ σ la
    ⟨B.exec, B.bytes, hml, B.returns, B.notSynchronized, hown, fun w hw => hts w (List.mem_cons_of_mem _ hw), hB, List.eq_nil_iff_forall_not_mem.mpr ht, fun q => (name_of_methodNamed B.named B.method).1.trans (hi q), hl⟩ ⟨Nat.le_refl _, Nat.le_refl _, Nat.le_refl _⟩ Ex.rf va_S.rf hM hl0 ⟨fun q hq => hok _ (ar0_mem as 0 q hq), fun v hv => nomatch hv⟩
  rw [Nat.sub_self, Nat.sub_self] at k9
  exact k9
theorem Ctr.ofX {l : Launch} {K : Ctx} {y : MethodName} {cw : Cond} {bytes : ByteArray} {maxL n d : Nat} {ret : Option FieldType} {hh : List (Nat × Nat × Nat × Nat)} {as : List Value} {h : Hp} {tg : Tg} (hl : l.stackTraces = false) (mf : MFX y cw bytes maxL ret n hh) (hpl : plainName y.cls = true) (hsz : slN as ≤ maxL)
    (k : X l K (d, y.cls, bytes, maxL, ret, hh, false) tg 0 (ar0 0 as) [] h) : Ctr l K d y cw as h tg := by
  obtain ⟨⟨rfl, hcw, hmx⟩, hini, hmh, hpd⟩ := mf
  refine ⟨k.1, fun hok σ => ?_⟩
  refine vx_ofWH (cc := bytes) (maxL := maxL) (ret := ret) (hh := hh) hpl rfl ?_
  intro p e s m args below meth c s₁ B hml hv
  obtain ⟨rfl, hB, hM⟩ := hv
  have hts := atoms_spec (ws := Cond.codeWith y bytes maxL ret hh :: AW) B.pre
  have hown : s.vm.findClass y.cls = some m.cls := findClass_of_methodNamed B.named
  have ht := vx_table (x := y) B (hts _ List.mem_cons_self)
  have hl0 := lv_entry (as.map (cv σ)) (n := maxL) (by rw [slN_lg]; exact hsz)
  rw [lg_entry_eq]
  generalize (lg_sl (as.map (cv σ)) ++ List.replicate (maxL - (lg_sl (as.map (cv σ))).length) Slot.unset).toArray = la at hl0 ⊢
  rw [ar0_args] at hl0
  have k9 := k.2 p e s m (as.map (cv σ)).toArray below meth c s.heap [] (qC h) (qS h) (qN h) σ σ la
    ⟨B.exec, B.bytes, hml, B.returns, B.notSynchronized, hown, fun w hw => hts w (List.mem_cons_of_mem _ hw), hB, ht, (fun q => nomatch q), hl⟩ ⟨Nat.le_refl _, Nat.le_refl _, Nat.le_refl _⟩ Ex.rf va_S.rf hM hl0 ⟨fun q hq => hok _ (ar0_mem as 0 q hq), fun v hv => nomatch hv⟩
  rw [Nat.sub_self, Nat.sub_self] at k9
  exact k9
