/-! ===== ends, throws, calls ===== -/
section XE
variable {l : Launch} {K : Ctx} {M : Mi} {tg : Tg} {pc : Nat} {ls : List (Nat × Value)} {st : List Value} {h : Hp}
theorem X.end9 {v : Option Value} (sv : List Value) (ov : ∀ n ls', Wf n ls' sv → ∀ x ∈ v, okV n x)
    (f : ∀ (p : Program) (e : Env) (R : Room) (s : State) (m : MethodId) (args : Array Value) (below : List Frame) (meth : Method) (c : Code) (H : Heap) (locs : List Loc) (cells slots : Nat) (Qc : Array Value → State → Outcome → State → Prop) (free : Addr → Prop) (σ : Nat → Nat) (la : Array Slot),
      Fr l K M p s m args meth c → (∀ t : State, t.heap = H → s.WarmedH t.vm → Qc args s (.returned (v.map (cv σ))) t) → (∀ q ∈ locs, free q.base) → W p l e R s m args below meth c H locs cells slots (MQ below Qc args s cells slots free) (F0 m pc la (sv.map (cv σ)))) : X l K M (h, .inr v) pc ls sv h := by
  refine ⟨⟨Nat.le_refl _, Nat.le_refl _, Nat.le_refl _⟩, ?_⟩
  intro p e s m args below meth c H locs c0 s0 n0 σ0 σ la hF h0 hE hS hM hl hw
  refine vx_ret (f p e _ s m args below meth c H locs _ _ _ (kA K) σ la hF (fun t ht hW => ?_) hS.2.2)
  exact ⟨⟨v, σ, rfl, rfl, ov _ _ hw, hE, by rw [ht]; exact hM⟩, hS.F ht⟩
theorem x_iret {v : Int32} (hr : mR M = some .int) (d : decode (mB M) pc = .ok (.ireturn, 1)) : X l K M (h, .inr (some (.int v))) pc ls [.int v] h :=
  X.end9 (v := some (.int v)) [.int v] (fun n ls' w x hx => by cases hx; trivial) fun p e R s m args below meth c H locs cells slots Qc free σ la F hq hf => W.iret F.ex F.cc (F.rt.trans hr) hq hf d F.lk
theorem x_zret {v : Int32} (hr : mR M = some .boolean) (hv : v = 0 ∨ v = 1) (d : decode (mB M) pc = .ok (.ireturn, 1)) : X l K M (h, .inr (some (.int v))) pc ls [.int v] h :=
  X.end9 (v := some (.int v)) [.int v] (fun n ls' w x hx => by cases hx; trivial) fun p e R s m args below meth c H locs cells slots Qc free σ la F hq hf => W.zret F.ex F.cc (F.rt.trans hr) (by rcases hv with rfl | rfl <;> rfl) hq hf d F.lk
theorem x_cret {v : Int32} (hr : mR M = some .char) (hv : narrow .char (.int v) = .int v) (d : decode (mB M) pc = .ok (.ireturn, 1)) : X l K M (h, .inr (some (.int v))) pc ls [.int v] h :=
  X.end9 (v := some (.int v)) [.int v] (fun n ls' w x hx => by cases hx; trivial) fun p e R s m args below meth c H locs cells slots Qc free σ la F hq hf => W.zret F.ex F.cc (F.rt.trans hr) hv hq hf d F.lk
theorem x_lret {v : Int64} (hr : mR M = some .long) (d : decode (mB M) pc = .ok (.lreturn, 1)) : X l K M (h, .inr (some (.long v))) pc ls [.long v] h :=
  X.end9 (v := some (.long v)) [.long v] (fun n ls' w x hx => by cases hx; trivial) fun p e R s m args below meth c H locs cells slots Qc free σ la F hq hf => W.lret F.ex F.cc (F.rt.trans hr) hq hf d F.lk
theorem x_fret {v : UInt32} (hr : mR M = some .float) (d : decode (mB M) pc = .ok (.freturn, 1)) : X l K M (h, .inr (some (.float v))) pc ls [.float v] h :=
  X.end9 (v := some (.float v)) [.float v] (fun n ls' w x hx => by cases hx; trivial) fun p e R s m args below meth c H locs cells slots Qc free σ la F hq hf => W.fret F.ex F.cc (F.rt.trans hr) hq hf d F.lk
theorem x_vret (hr : mR M = none) (d : decode (mB M) pc = .ok (.return_, 1)) : X l K M (h, .inr none) pc ls [] h :=
  X.end9 (v := none) [] (fun n ls' w x hx => by cases hx) fun p e R s m args below meth c H locs cells slots Qc free σ la F hq hf => W.vret F.ex F.cc (F.rt.trans hr) hq hf d F.lk
theorem x_aret {v : Nat} {rt : FieldType} (hr : mR M = some rt) (hrt : (∃ n, rt = .object n) ∨ ∃ t, rt = .array t) (d : decode (mB M) pc = .ok (.areturn, 1)) : X l K M (h, .inr (some (.ref v))) pc ls [.ref v] h :=
  X.end9 (v := some (.ref v)) [.ref v] (fun n ls' w x hx => by cases hx; exact w.2 _ List.mem_cons_self) fun p e R s m args below meth c H locs cells slots Qc free σ la F hq hf => W.aret F.ex F.cc (F.rt.trans hr) hrt (Or.inr ⟨_, rfl⟩) hq hf d F.lk
theorem tableOf_nil : tableOf [] = [] := rfl
/-- throw new E() -/
theorem x_throw {k ik ic : Nat} (hm : mH M = []) (hk : Cond.classLink (mO M) ik (exN k) ∈ AW) (hini : Cond.initialized (exN k) ∈ AW) (hat : ∀ w ∈ vx_at0 (mO M) ic (exN k) ["java/lang/RuntimeException", "java/lang/Exception"], w ∈ lw_tbl ∧ (goodWord w = true ∨ nk w = true))
    (hcls : Bundle.fit (exN k) = true) (hgood : ∀ w ∈ Cond.classLink (mO M) ik (exN k) :: Cond.initialized (exN k) :: vx_at0 (mO M) ic (exN k) ["java/lang/RuntimeException", "java/lang/Exception"], vx_ot w = true)
    (d0 : decode (mB M) pc = .ok (.new ik, 3)) (d3 : decode (mB M) (pc + 3) = .ok (.dup, 1)) (d4 : decode (mB M) (pc + 4) = .ok (.invokespecial ic, 3)) (d7 : decode (mB M) (pc + 7) = .ok (.athrow, 1)) (hd : 6 ≤ mD M) (hst : (st.map fun v => v.category).sum ≤ 8) : X l K M (bump h, .inl k) pc ls st h := by
  refine ⟨⟨Nat.le_succ _, Nat.le_add_right _ _, Nat.le_refl _⟩, ?_⟩
  intro p e s m args below meth c H locs c0 s0 n0 σ0 σ la hF h0 hE hS hM hl hw
  have hcat : ((st.map (cv σ)).map fun v => v.category).sum = (st.map fun v => v.category).sum := by
    rw [List.map_map]; congr 1; exact List.map_congr_left fun v _ => cv_cat σ v
  have hrl : (rmD (mD M) (qC (bump h) - c0) (qS (bump h) - s0)).locals = 100 * mD M := rfl
  have hrf : (rmD (mD M) (qC (bump h) - c0) (qS (bump h) - s0)).frames = mD M := rfl
  refine vx_throw0 (names := ["java/lang/RuntimeException", "java/lang/Exception"]) (A := kA K) hF.ex hF.cc hF.tr hF.ow hcls (by decide) (hF.ts _ hk) (hF.ts _ hini) (fun w hw9 => ?_) hgood hF.bs.2.1.1 hF.bs.2.1.2.1 hS (by rw [hl.1]; exact hF.ml.symm) d0 d3 d4 d7 (by rw [hF.tb, hm]; exact fun x hx => nomatch hx) (by rw [hrf]; show 2 + 3 < _; omega) (by rw [hrl, hcat]; show _ + (13 * 3 + 42) ≤ _; omega) (by show _ ≤ qC h + 1 - c0; omega) (by show _ ≤ qS h + 6 - s0; omega) hF.lk (fun t ha hz ho => ?_) hS.2.2 (by show _ ≤ qC h + 1 - c0; omega) (by show _ ≤ qS h + 6 - s0; omega)
  · obtain ⟨q1, q2⟩ := hat w hw9
    rcases q2 with q2 | q2
    · exact hF.ts _ (List.mem_filter.mpr ⟨q1, q2⟩)
    · rcases List.mem_append.mp q1 with q1 | q1
      · exact hF.ts _ (List.mem_filter.mpr ⟨List.mem_append_left _ q1, by obtain ⟨z, -, rfl⟩ := List.mem_map.mp (by unfold k2_sels at q1; exact q1); cases q2⟩)
      · exact va_Nw.use (by cases w <;> first | rfl | cases q2) (hF.bs.1.2.1.1 w q1 q2)
  · exact ⟨⟨k, σ, rfl, rfl, hE, ⟨⟨hM.1.1.kept (fun i q hq => ho q.1 ((hM.1.1 i q hq).lt)), hM.1.2⟩, hM.2⟩⟩, ⟨Nat.le_trans hS.1 hz, fun q h1 h2 => (ho q (Nat.lt_of_lt_of_le h1 hS.1)).trans (hS.2.1 q h1 h2)⟩⟩
/-- Object's constructor -/
theorem x_objI {i a : Nat} (w1 : Cond.methodLink (mO M) i Lib.objectInit ∈ AW) (w2 : Cond.instanceMethod Lib.objectInit ∈ AW) (w3 : Cond.code Lib.objectInit ⟨#[0xb1]⟩ 1 none ∈ AW) (d : decode (mB M) pc = .ok (.invokespecial i, 3)) (hd : 2 ≤ mD M) (hst : (st.map fun v => v.category).sum ≤ 8) (kx : X l K M tg (pc + 3) ls st h) : X l K M tg pc ls (.ref a :: st) h :=
  X.same kx wf_pop fun p e R s m args below meth c H locs cells slots Q σ la F S Hm hl rf rl kk => by
    have hcat : ((st.map (cv σ)).map fun v => v.category).sum = (st.map fun v => v.category).sum := by
      rw [List.map_map]; congr 1; exact List.map_congr_left fun v _ => cv_cat σ v
    refine W.objInit F.ex F.cc F.ow (F.ts _ w1) (F.ts _ w2) (F.ts _ w3) rfl (by rw [F.ml]; exact hl.1) rfl d (by omega) (by rw [hcat, rl]; show 2 * 0 + _ + 12 ≤ _; omega) ?_
    exact W.eq (g2 := F0 m (pc + 3) la (st.map (cv σ))) rfl (kk la hl)
/-- a String constant -/
theorem x_ldcS {i j : Nat} {tx : String} (w : (mO M, i, tx, j) ∈ strTab) (hj : j < strN) (d : decode (mB M) pc = .ok (.ldc i, 2)) (kx : X l K M tg (pc + 2) ls (.ref (1000000 + j) :: st) h) : X l K M tg pc ls st h :=
  X.same kx (wf_val (Or.inr (Nat.le_add_right _ _))) fun p e R s m args below meth c H locs cells slots Q σ la F S Hm hl rf rl kk => by
    have hstr := F.bs.1.2.2 _ w
    have kk' := kk la hl
    intro T hT Xs
    have e1 : cv σ (.ref (1000000 + j)) = .ref (kK K j) := by show Value.ref (σ (1000000 + j)) = _; rw [Hm.2.2.2.1.1 j hj]
    rw [List.map_cons, e1] at kk'
    obtain ⟨t, a, b⟩ := kk' T hT Xs
    exact ⟨t, Xs.ldcString F.ex (own := mO M) (text := tx) (index := i) (a := kK K j) F.ow hstr.1 hstr.2 (g := F0 m pc la (st.map (cv σ))) rfl (by rw [F.cc]; exact d) _ a, b⟩
/-! calls -/
def noMH (s : String) : Prop := s ≠ "java/lang/invoke/MethodHandle" ∧ s ≠ "java/lang/invoke/VarHandle"
/-- a method: its word, code, locals, answer -/
def MF (y : MethodName) (cw : Cond) (bytes : ByteArray) (maxL : Nat) (ret : Option FieldType) (n : Nat) : Prop :=
  (cw = Cond.code y bytes maxL ret ∧ cw ∈ AW ∧ maxL ≤ 40) ∧ Cond.initialized y.cls ∈ AW ∧ noMH y.cls ∧ (parseMethodDescriptor y.desc).map (fun d => d.parameters.length) = some n
/-- a call's link -/
def LF (own : String) (i : Nat) (y : MethodName) : Prop := Cond.methodLink own i y ∈ AW ∨ ∃ host : String, Cond.methodLinkNest own i y host ∈ tables_1
/-- thrown over the frame at pc -/
def XX (l : Launch) (K : Ctx) (M : Mi) (tg : Tg) (pc : Nat) (ls : List (Nat × Value)) (k : Nat) (h : Hp) : Prop :=
  (qC h ≤ qC tg.1 ∧ qS h ≤ qS tg.1 ∧ qN h ≤ qN tg.1) ∧
  ∀ (p : Program) (e : Env) (s : State) (m : MethodId) (args : Array Value) (below : List Frame) (meth : Method) (c : Code) (H : Heap) (locs : List Loc) (c0 s0 n0 : Nat) (σ0 σ : Nat → Nat) (la : Array Slot) (rest : List Value) (q : Addr) (ce : Cell),
    Fr l K M p s m args meth c → c0 ≤ qC h ∧ s0 ≤ qS h ∧ n0 ≤ qN h → Ex n0 σ0 σ → va_S (kA K) s.heap H locs → Sm K σ h H → lv_has la (mL M) (cvL σ ls) → (∀ x ∈ ls, okV (qN h) x.2) → H[q]? = some ce → ce.vm = .none → s.vm.findClass (exN k) = some ce.cls →
    vx_W p l e (rmD (mD M) (qC tg.1 - c0) (qS tg.1 - s0)) s m args below meth c H locs (qC h - c0) (qS h - s0) (vx_MQ below (QcX K σ0 n0 tg) (XcX K σ0 n0 tg) args s (qC tg.1 - c0) (qS tg.1 - s0) (kA K)) (F0 m pc la rest) q
/-- .. that no row of the table takes: it leaves the method -/
theorem xx_out {k : Nat} (hm : ∀ z ∈ tableOf (mH M), covers z pc = false) : XX l K M (h, .inl k) pc ls k h := by
  refine ⟨⟨Nat.le_refl _, Nat.le_refl _, Nat.le_refl _⟩, ?_⟩
  intro p e s m args below meth c H locs c0 s0 n0 σ0 σ la rest q ce hF h0 hE hS hM hl hw hq hv hc
  exact vx_out (by rw [hF.tb]; exact hm) hF.lk hq hv hc (fun t ht hA => ⟨⟨k, σ, rfl, rfl, hE, by rw [ht]; exact hM⟩, hS.F ht⟩) hS.2.2 (Nat.le_refl _) (Nat.le_refl _)
/-- .. that a row takes: its handler stores the object away -/
theorem xx_catch {k : Nat} {qf : Fin 4} (hA hB : List (Nat × Nat × Nat × Nat)) (x : Nat × Nat × Nat × Nat) (hm : mH M = hA ++ x :: hB) (hk : k < 6) (hp : ∀ z ∈ hA, z.2.2.2 ≠ 0 ∧ ∃ j, j < 6 ∧ j ≠ k ∧ Cond.classLink (mO M) z.2.2.2 (exN j) ∈ AW)
    (h1 : x.1 ≤ pc ∧ pc < x.2.1) (h0 : x.2.2.2 ≠ 0) (w1 : Cond.classLink (mO M) x.2.2.2 (exN k) ∈ AW) (w2 : Cond.castable (exN k) (exN k) ∈ tables_1) (d : decode (mB M) x.2.2.1 = .ok (.astore_n qf, 1)) (hn : (qf : Nat) < mL M) {ls' : List (Nat × Value)} (he : ls.filter (flt1 (qf : Nat)) = ls') (kx : X l K M tg (x.2.2.1 + 1) ls' [] h) : XX l K M tg pc ls k h := by
  refine ⟨kx.1, ?_⟩
  intro p e s m args below meth c H locs c0 s0 n0 σ0 σ la rest q ce hF h0' hE hS hM hl hw hq hv hc
  have hex : ∀ j, j < 6 → exN j ∈ exL := by decide
  have hinj : ∀ i, i < 6 → ∀ j, j < 6 → i ≠ j → exN i ≠ exN j := by decide
  refine vx_catch (own := mO M) (name := exN k) (E := exN k) hF.ow (tableOf hA) ⟨x.1, x.2.1, x.2.2.1, x.2.2.2⟩ (tableOf hB) (by rw [hF.tb, hm]; unfold tableOf; rw [List.map_append]; rfl) (fun z hz => ?_) (by simp [covers, h1]) h0 (hF.ts _ w1) (va_Nw.use rfl (hF.nw w2 rfl)) hq hv hc ?_
  · obtain ⟨y, hy, rfl⟩ := List.mem_map.mp hz
    obtain ⟨g1, j, hj, hjk, g2⟩ := hp y hy
    exact Or.inr ⟨g1, exN j, hF.ts _ g2, hF.bs.1.2.1.2.2 _ (hex k hk) _ (hex j hj) (fun z => hinj k hk j hj (fun q => hjk q.symm) z)⟩
  · refine lv_astore_n (lv := cvL σ ls) (nL := mL M) hF.ex hF.cc d rfl hl hn rfl (fun la' hl' => ?_)
    have hl9 : lv_has la' (mL M) (cvL σ ls') := by
      refine ⟨hl'.1, hl'.2.1, fun z hz => hl'.2.2 z ?_⟩
      rw [← he, ← cvL_flt (flt1_cv _ σ)] at hz
      exact List.mem_cons_of_mem _ hz
    exact kx.2 p e s m args below meth c H locs c0 s0 n0 σ0 σ la' hF h0' hE hS hM hl9 ⟨fun z hz => by rw [← he] at hz; exact hw z (List.mem_filter.mp hz).1, fun v hv => nomatch hv⟩
/-- behind a run of a callee -/
theorem X.call {st0 : List Value} {h1 : Hp} {o : Nat ⊕ Option Value} {a9 : (Nat → Nat) → Array Value} (hb : qC h ≤ qC h1 ∧ qS h ≤ qS h1 ∧ qN h ≤ qN h1) (hw0 : ∀ n, Wf n ls st0 → Wf n ls st)
    (run : ∀ (p : Program) (e : Env) (R : Room) (s : State) (m : MethodId) (args : Array Value) (below : List Frame) (meth : Method) (c : Code) (H : Heap) (locs : List Loc) (cells slots : Nat) (σ : Nat → Nat) (la : Array Slot),
      Fr l K M p s m args meth c → va_S (kA K) s.heap H locs → Sm K σ h H → lv_has la (mL M) (cvL σ ls) → Wf (qN h) ls st0 → cells + (qC h1 - qC h) ≤ R.cells → slots + (qS h1 - qS h) ≤ R.slots → R.frames = mD M → R.locals = 100 * mD M →
      vx_Run p l e R s m args below meth c H locs cells slots (qC h1 - qC h) (qS h1 - qS h) (F0 m pc la (st0.map (cv σ))) (st.map (cv σ)) (QcX K σ (qN h) (h1, o) (a9 σ)) (XcX K σ (qN h) (h1, o)) (kA K))
    (hb2 : qC h1 ≤ qC tg.1 ∧ qS h1 ≤ qS tg.1 ∧ qN h1 ≤ qN tg.1) (kr : ∀ v, o = .inr v → X l K M tg (pc + 3) ls (v.toList ++ st) h1) (kx : ∀ k, o = .inl k → XX l K M tg pc ls k h1) : X l K M tg pc ls st0 h := by
  refine ⟨⟨Nat.le_trans hb.1 hb2.1, Nat.le_trans hb.2.1 hb2.2.1, Nat.le_trans hb.2.2 hb2.2.2⟩, ?_⟩
  intro p e s m args below meth c H locs c0 s0 n0 σ0 σ la hF h0 hE hS hM hl hw
  have e1 : qC h1 - c0 = qC h - c0 + (qC h1 - qC h) := by omega
  have e2 : qS h1 - s0 = qS h - s0 + (qS h1 - qS h) := by omega
  have hr := run p e (rmD (mD M) (qC tg.1 - c0) (qS tg.1 - s0)) s m args below meth c H locs (qC h - c0) (qS h - s0) σ la hF hS hM hl hw (by show _ ≤ qC tg.1 - c0; omega) (by show _ ≤ qS tg.1 - s0; omega) rfl rfl
  have h0' : c0 ≤ qC h1 ∧ s0 ≤ qS h1 ∧ n0 ≤ qN h1 := ⟨by omega, by omega, by omega⟩
  have hst : Wf (qN h) ls st := hw0 _ hw
  intro T hT Xs
  rcases hr T hT Xs with ⟨v, st₀, t, T', L, z0, X', hL, f1, f2, ⟨⟨v', σ', hv, ho, hov, hE1, hM1⟩, hFr⟩, stp⟩ | ⟨q, st₀, t, T', L, E, ce, z0, X', hL, f1, f2, ⟨⟨k, σ', hv, ho, hE1, hM1⟩, hFr⟩, hce, hcv, hcl, stp⟩
  · cases ho
    obtain ⟨k1, k2, k3⟩ := vx_keep z0 f1 hS (fun q _ h => h) (fun q h => h) hL hFr
    have hw' : Wf (qN h1) ls (v'.toList ++ st) := by
      refine ⟨fun z hz => (hst.1 z hz).mono hb.2.2, fun z hz => ?_⟩
      rcases List.mem_append.mp hz with q | q
      · exact hov z (by simpa using q)
      · exact (hst.2 z q).mono hb.2.2
    have kk := (kr v' hv).2 p e s m args below meth c T'.heap (locs ++ L) c0 s0 n0 σ0 σ' la hF h0' (hE.tr h0.2.2 hE1) k3 (by rw [f1]; exact hM1) (by rw [cvL_ex hE1 hst.1]; exact hl) hw'
    rw [e1, e2] at kk
    rw [List.map_append, cvs_ex hE1 hst.2] at kk
    obtain ⟨t2, a1, b1⟩ := kk T' rfl X'
    refine ⟨t2, stp t2 ?_, b1⟩
    cases v' <;> exact a1
  · subst ho
    obtain ⟨k1, k2, k3⟩ := vx_keep z0 f1 hS (fun q _ h => h) (fun q h => h) hL hFr
    have kk := (kx k hv).2 p e s m args below meth c T'.heap (locs ++ L) c0 s0 n0 σ0 σ' la (st.map (cv σ)) q ce hF h0' (hE.tr h0.2.2 hE1) k3 (by rw [f1]; exact hM1) (by rw [cvL_ex hE1 hst.1]; exact hl) (fun z hz => (hst.1 z hz).mono hb.2.2) (by rw [f1]; exact hce) hcv hcl
    rw [e1, e2] at kk
    obtain ⟨t2, a1, b1⟩ := kk T' rfl X'
    exact ⟨t2, stp.trans a1, b1⟩
end XE
