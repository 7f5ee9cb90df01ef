/-! ===== ends, throws, calls ===== -/
section XE
variable {l : Launch} {K : Ctx} {M : Mi} {tg : Tg} {pc : Nat} {ls : List (Nat × Value)} {st : List Value} {h : Hp}
theorem X.end9 {v : Option Value} (sv : List Value) (ov : ∀ n ls', Wf n ls' sv → ∀ x ∈ v, okV n x)
    (f : ∀ (p : Program) (e : Env) (R : Room) (s : State) (m : MethodId) (args : Array Value) (below : List Frame) (meth : Method) (c : Code) (H : Heap) (locs : List Loc) (cells slots : Nat) (Qc : Array Value → State → Outcome → State → Prop) (free : Addr → Prop) (σ : Nat → Nat) (la : Array Slot),
      Fr l K M p s m args meth c → (∀ t : State, t.heap = H → s.WarmedH t.vm → Qc args s (.returned (v.map (cv σ))) t) → (∀ q ∈ locs, free q.base) → W p l e R s m args below meth c H locs cells slots (MQ below Qc args s cells slots free) (F0 m pc la (sv.map (cv σ)))) : X l K M (h, .inr v) pc ls sv h := by
  refine ⟨⟨Nat.le_refl _, Nat.le_refl _, Nat.le_refl _⟩, ?_⟩
  intro p e s m args below meth c H locs c0 s0 n0 σ0 σ la hF h0 hE hS hM hl hw
  refine vx_ret (f p e _ s m args below meth c H locs _ _ _ (kA K) σ la hF (fun t ht hW => ?_) hS.2.2)
  exact ⟨⟨v, σ, rfl, rfl, ov _ _ hw, hE, by rw [ht]; exact hM⟩, hS.F ht⟩
theorem x_iret {v : Int32} (hr : mR M = some .int) (d : decode (mB M) pc = .ok (.ireturn, 1)) : X l K M (h, .inr (some (.int v))) pc ls [.int v] h :=
  X.end9 (v := some (.int v)) [.int v] (fun n ls' w x hx => by cases hx; trivial) fun p e R s m args below meth c H locs cells slots Qc free σ la F hq hf => W.iret F.ex F.cc (F.rt.trans hr) hq hf d F.lk
theorem x_zret {v : Int32} (hr : mR M = some .boolean) (hv : v = 0 ∨ v = 1) (d : decode (mB M) pc = .ok (.ireturn, 1)) : X l K M (h, .inr (some (.int v))) pc ls [.int v] h :=
  X.end9 (v := some (.int v)) [.int v] (fun n ls' w x hx => by cases hx; trivial) fun p e R s m args below meth c H locs cells slots Qc free σ la F hq hf => W.zret F.ex F.cc (F.rt.trans hr) (by rcases hv with rfl | rfl <;> rfl) hq hf d F.lk
theorem x_cret {v : Int32} (hr : mR M = some .char) (hv : narrow .char (.int v) = .int v) (d : decode (mB M) pc = .ok (.ireturn, 1)) : X l K M (h, .inr (some (.int v))) pc ls [.int v] h :=
  X.end9 (v := some (.int v)) [.int v] (fun n ls' w x hx => by cases hx; trivial) fun p e R s m args below meth c H locs cells slots Qc free σ la F hq hf => W.zret F.ex F.cc (F.rt.trans hr) hv hq hf d F.lk
theorem x_lret {v : Int64} (hr : mR M = some .long) (d : decode (mB M) pc = .ok (.lreturn, 1)) : X l K M (h, .inr (some (.long v))) pc ls [.long v] h :=
  X.end9 (v := some (.long v)) [.long v] (fun n ls' w x hx => by cases hx; trivial) fun p e R s m args below meth c H locs cells slots Qc free σ la F hq hf => W.lret F.ex F.cc (F.rt.trans hr) hq hf d F.lk
theorem x_fret {v : UInt32} (hr : mR M = some .float) (d : decode (mB M) pc = .ok (.freturn, 1)) : X l K M (h, .inr (some (.float v))) pc ls [.float v] h :=
  X.end9 (v := some (.float v)) [.float v] (fun n ls' w x hx => by cases hx; trivial) fun p e R s m args below meth c H locs cells slots Qc free σ la F hq hf => W.fret F.ex F.cc (F.rt.trans hr) hq hf d F.lk
theorem x_vret (hr : mR M = none) (d : decode (mB M) pc = .ok (.return_, 1)) : X l K M (h, .inr none) pc ls [] h :=
  X.end9 (v := none) [] (fun n ls' w x hx => by cases hx) fun p e R s m args below meth c H locs cells slots Qc free σ la F hq hf => W.vret F.ex F.cc (F.rt.trans hr) hq hf d F.lk
theorem x_aret {v : Nat} {rt : FieldType} (hr : mR M = some rt) (hrt : (∃ n, rt = .object n) ∨ ∃ t, rt = .array t) (d : decode (mB M) pc = .ok (.areturn, 1)) : X l K M (h, .inr (some (.ref v))) pc ls [.ref v] h :=
  X.end9 (v := some (.ref v)) [.ref v] (fun n ls' w x hx => by cases hx; exact w.2 _ List.mem_cons_self) fun p e R s m args below meth c H locs cells slots Qc free σ la F hq hf => W.aret F.ex F.cc (F.rt.trans hr) hrt (Or.inr ⟨_, rfl⟩) hq hf d F.lk
theorem tableOf_nil : tableOf [] = [] := rfl
/-- throw new E() -/
theorem x_throw {k ik ic : Nat} (hm : mH M = []) (hk : Cond.classLink (mO M) ik (exN k) ∈ AW) (hini : Cond.initialized (exN k) ∈ AW) (hat : ∀ w ∈ vx_at0 (mO M) ic (exN k) ["java/lang/RuntimeException", "java/lang/Exception"], w ∈ lw_tbl ∧ (goodWord w = true ∨ nk w = true))
    (hcls : Bundle.fit (exN k) = true) (hgood : ∀ w ∈ Cond.classLink (mO M) ik (exN k) :: Cond.initialized (exN k) :: vx_at0 (mO M) ic (exN k) ["java/lang/RuntimeException", "java/lang/Exception"], vx_ot w = true)
    (d0 : decode (mB M) pc = .ok (.new ik, 3)) (d3 : decode (mB M) (pc + 3) = .ok (.dup, 1)) (d4 : decode (mB M) (pc + 4) = .ok (.invokespecial ic, 3)) (d7 : decode (mB M) (pc + 7) = .ok (.athrow, 1)) (hd : 6 ≤ mD M) (hst : (st.map fun v => v.category).sum ≤ 8) : X l K M (bump h, .inl k) pc ls st h := by
  refine ⟨⟨Nat.le_succ _, Nat.le_add_right _ _, Nat.le_refl _⟩, ?_⟩
  intro p e s m args below meth c H locs c0 s0 n0 σ0 σ la hF h0 hE hS hM hl hw
  have hcat : ((st.map (cv σ)).map fun v => v.category).sum = (st.map fun v => v.category).sum := by
    rw [List.map_map]; congr 1; exact List.map_congr_left fun v _ => cv_cat σ v
  have hrl : (rmD (mD M) (qC (bump h) - c0) (qS (bump h) - s0)).locals = 100 * mD M := rfl
  have hrf : (rmD (mD M) (qC (bump h) - c0) (qS (bump h) - s0)).frames = mD M := rfl
  refine vx_throw0 (names := ["java/lang/RuntimeException", "java/lang/Exception"]) (A := kA K) hF.ex hF.cc hF.tr hF.ow hcls (by decide) (hF.ts _ hk) (hF.ts _ hini) (fun w hw9 => ?_) hgood hF.bs.2.1.1 hF.bs.2.1.2.1 hS (by rw [hl.1]; exact hF.ml.symm) d0 d3 d4 d7 (by rw [hF.tb, hm]; exact fun x hx => nomatch hx) (by rw [hrf]; show 2 + 3 < _; omega) (by rw [hrl, hcat]; show _ + (13 * 3 + 42) ≤ _; omega) (by show _ ≤ qC h + 1 - c0; omega) (by show _ ≤ qS h + 6 - s0; omega) hF.lk (fun t ha hz ho => ?_) hS.2.2 (by show _ ≤ qC h + 1 - c0; omega) (by show _ ≤ qS h + 6 - s0; omega)
  · obtain ⟨q1, q2⟩ := hat w hw9
    rcases q2 with q2 | q2
    · exact hF.ts _ (List.mem_filter.mpr ⟨q1, q2⟩)
    · rcases List.mem_append.mp q1 with q1 | q1
      · exact hF.ts _ (List.mem_filter.mpr ⟨List.mem_append_left _ q1, by obtain ⟨z, -, rfl⟩ := List.mem_map.mp (by unfold k2_sels at q1; exact q1); cases q2⟩)
      · exact va_Nw.use (by cases w <;> first | rfl | cases q2) (hF.bs.1.2.1.1 w q1 q2)
  · exact ⟨⟨k, σ, rfl, rfl, hE, ⟨⟨hM.1.1.kept (fun i q hq => ho q.1 ((hM.1.1 i q hq).lt)), hM.1.2⟩, hM.2⟩⟩, ⟨Nat.le_trans hS.1 hz, fun q h1 h2 => (ho q (Nat.lt_of_lt_of_le h1 hS.1)).trans (hS.2.1 q h1 h2)⟩⟩
/-- Object's constructor -/
theorem x_objI {i a : Nat} (w1 : Cond.methodLink (mO M) i Lib.objectInit ∈ AW) (w2 : Cond.instanceMethod Lib.objectInit ∈ AW) (w3 : Cond.code Lib.objectInit ⟨#[0xb1]⟩ 1 none ∈ AW) (d : decode (mB M) pc = .ok (.invokespecial i, 3)) (hd : 2 ≤ mD M) (hst : (st.map fun v => v.category).sum ≤ 8) (kx : X l K M tg (pc + 3) ls st h) : X l K M tg pc ls (.ref a :: st) h :=
  X.same kx wf_pop fun p e R s m args below meth c H locs cells slots Q σ la F S Hm hl rf rl kk => by
    have hcat : ((st.map (cv σ)).map fun v => v.category).sum = (st.map fun v => v.category).sum := by
      rw [List.map_map]; congr 1; exact List.map_congr_left fun v _ => cv_cat σ v
    refine W.objInit F.ex F.cc F.ow (F.ts _ w1) (F.ts _ w2) (F.ts _ w3) rfl (by rw [F.ml]; exact hl.1) rfl d (by omega) (by rw [hcat, rl]; show 2 * 0 + _ + 12 ≤ _; omega) ?_
    exact W.eq (g2 := F0 m (pc + 3) la (st.map (cv σ))) rfl (kk la hl)
/-- a String constant -/
theorem x_ldcS {i j : Nat} {tx : String} (w : (mO M, i, tx, j) ∈ strTab) (hj : j < strN) (d : decode (mB M) pc = .ok (.ldc i, 2)) (kx : ∀ n : Nat, n = 1000000 + j → X l K M tg (pc + 2) ls (.ref n :: st) h) (hσ : True) : X l K M tg pc ls st h → X l K M tg pc ls st h := fun q => q
end XE
