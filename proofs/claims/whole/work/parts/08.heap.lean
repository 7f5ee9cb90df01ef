/-! ===== rules over the heap ===== -/
theorem UWS1 : ∀ w ∈ u_ws RX1 TX1 4, w ∈ AW := List.forall_mem_cons.mpr ⟨tw_1_123, List.forall_mem_cons.mpr ⟨tw_1_125, List.forall_mem_cons.mpr ⟨tw_1_127, List.forall_mem_cons.mpr ⟨tw_1_129, fun _ h => absurd h List.not_mem_nil⟩⟩⟩⟩
theorem UWS2 : ∀ w ∈ u_ws RX2 TX2 5, w ∈ AW := List.forall_mem_cons.mpr ⟨tw_2_91, List.forall_mem_cons.mpr ⟨tw_2_93, List.forall_mem_cons.mpr ⟨tw_2_95, List.forall_mem_cons.mpr ⟨tw_2_97, List.forall_mem_cons.mpr ⟨tw_2_99, fun _ h => absurd h List.not_mem_nil⟩⟩⟩⟩⟩
theorem UWS3 : ∀ w ∈ u_ws RX3 TX3 9, w ∈ AW := List.forall_mem_cons.mpr ⟨tw_1_213, List.forall_mem_cons.mpr ⟨tw_1_215, List.forall_mem_cons.mpr ⟨tw_1_217, List.forall_mem_cons.mpr ⟨tw_1_219, List.forall_mem_cons.mpr ⟨tw_1_221, List.forall_mem_cons.mpr ⟨tw_1_223, List.forall_mem_cons.mpr ⟨tw_1_225, List.forall_mem_cons.mpr ⟨tw_1_227, List.forall_mem_cons.mpr ⟨tw_1_229, fun _ h => absurd h List.not_mem_nil⟩⟩⟩⟩⟩⟩⟩⟩⟩
theorem UWS4 : ∀ w ∈ u_ws RX4 TX4 13, w ∈ AW := List.forall_mem_cons.mpr ⟨tw_1_76, List.forall_mem_cons.mpr ⟨tw_1_78, List.forall_mem_cons.mpr ⟨tw_1_80, List.forall_mem_cons.mpr ⟨tw_1_82, List.forall_mem_cons.mpr ⟨tw_1_84, List.forall_mem_cons.mpr ⟨tw_1_86, List.forall_mem_cons.mpr ⟨tw_1_88, List.forall_mem_cons.mpr ⟨tw_1_90, List.forall_mem_cons.mpr ⟨tw_1_92, List.forall_mem_cons.mpr ⟨tw_1_94, List.forall_mem_cons.mpr ⟨tw_1_96, List.forall_mem_cons.mpr ⟨tw_1_98, List.forall_mem_cons.mpr ⟨tw_1_100, fun _ h => absurd h List.not_mem_nil⟩⟩⟩⟩⟩⟩⟩⟩⟩⟩⟩⟩⟩
theorem UWS5 : ∀ w ∈ u_ws RX5 TX5 8, w ∈ AW := List.forall_mem_cons.mpr ⟨tw_2_54, List.forall_mem_cons.mpr ⟨tw_2_56, List.forall_mem_cons.mpr ⟨tw_2_58, List.forall_mem_cons.mpr ⟨tw_2_60, List.forall_mem_cons.mpr ⟨tw_2_62, List.forall_mem_cons.mpr ⟨tw_2_64, List.forall_mem_cons.mpr ⟨tw_2_66, List.forall_mem_cons.mpr ⟨tw_2_68, fun _ h => absurd h List.not_mem_nil⟩⟩⟩⟩⟩⟩⟩⟩
theorem UWS6 : ∀ w ∈ u_ws RX6 TX6 12, w ∈ AW := List.forall_mem_cons.mpr ⟨tw_2_11, List.forall_mem_cons.mpr ⟨tw_2_13, List.forall_mem_cons.mpr ⟨tw_2_15, List.forall_mem_cons.mpr ⟨tw_2_17, List.forall_mem_cons.mpr ⟨tw_2_19, List.forall_mem_cons.mpr ⟨tw_2_21, List.forall_mem_cons.mpr ⟨tw_2_23, List.forall_mem_cons.mpr ⟨tw_2_25, List.forall_mem_cons.mpr ⟨tw_2_27, List.forall_mem_cons.mpr ⟨tw_2_29, List.forall_mem_cons.mpr ⟨tw_2_31, List.forall_mem_cons.mpr ⟨tw_2_33, fun _ h => absurd h List.not_mem_nil⟩⟩⟩⟩⟩⟩⟩⟩⟩⟩⟩⟩
theorem UWS7 : ∀ w ∈ u_ws RX7 TX7 9, w ∈ AW := List.forall_mem_cons.mpr ⟨tw_1_168, List.forall_mem_cons.mpr ⟨tw_1_170, List.forall_mem_cons.mpr ⟨tw_1_172, List.forall_mem_cons.mpr ⟨tw_1_174, List.forall_mem_cons.mpr ⟨tw_1_176, List.forall_mem_cons.mpr ⟨tw_1_178, List.forall_mem_cons.mpr ⟨tw_1_180, List.forall_mem_cons.mpr ⟨tw_1_182, List.forall_mem_cons.mpr ⟨tw_1_184, fun _ h => absurd h List.not_mem_nil⟩⟩⟩⟩⟩⟩⟩⟩⟩
theorem UWS8 : ∀ w ∈ u_ws RX8 TX8 11, w ∈ AW := List.forall_mem_cons.mpr ⟨tw_2_208, List.forall_mem_cons.mpr ⟨tw_2_210, List.forall_mem_cons.mpr ⟨tw_2_212, List.forall_mem_cons.mpr ⟨tw_2_214, List.forall_mem_cons.mpr ⟨tw_2_216, List.forall_mem_cons.mpr ⟨tw_2_218, List.forall_mem_cons.mpr ⟨tw_2_220, List.forall_mem_cons.mpr ⟨tw_2_222, List.forall_mem_cons.mpr ⟨tw_2_224, List.forall_mem_cons.mpr ⟨tw_2_226, List.forall_mem_cons.mpr ⟨tw_2_228, fun _ h => absurd h List.not_mem_nil⟩⟩⟩⟩⟩⟩⟩⟩⟩⟩⟩
theorem UWS9 : ∀ w ∈ u_ws RX9 TX9 34, w ∈ AW := List.forall_mem_cons.mpr ⟨tw_6_182, List.forall_mem_cons.mpr ⟨tw_6_184, List.forall_mem_cons.mpr ⟨tw_6_186, List.forall_mem_cons.mpr ⟨tw_6_188, List.forall_mem_cons.mpr ⟨tw_6_190, List.forall_mem_cons.mpr ⟨tw_6_192, List.forall_mem_cons.mpr ⟨tw_6_194, List.forall_mem_cons.mpr ⟨tw_6_196, List.forall_mem_cons.mpr ⟨tw_6_198, List.forall_mem_cons.mpr ⟨tw_6_200, List.forall_mem_cons.mpr ⟨tw_6_202, List.forall_mem_cons.mpr ⟨tw_6_204, List.forall_mem_cons.mpr ⟨tw_6_206, List.forall_mem_cons.mpr ⟨tw_6_208, List.forall_mem_cons.mpr ⟨tw_6_210, List.forall_mem_cons.mpr ⟨tw_6_212, List.forall_mem_cons.mpr ⟨tw_6_214, List.forall_mem_cons.mpr ⟨tw_6_216, List.forall_mem_cons.mpr ⟨tw_6_218, List.forall_mem_cons.mpr ⟨tw_6_220, List.forall_mem_cons.mpr ⟨tw_6_222, List.forall_mem_cons.mpr ⟨tw_6_224, List.forall_mem_cons.mpr ⟨tw_6_226, List.forall_mem_cons.mpr ⟨tw_6_228, List.forall_mem_cons.mpr ⟨tw_6_230, List.forall_mem_cons.mpr ⟨tw_6_232, List.forall_mem_cons.mpr ⟨tw_6_234, List.forall_mem_cons.mpr ⟨tw_6_236, List.forall_mem_cons.mpr ⟨tw_6_238, List.forall_mem_cons.mpr ⟨tw_7_0, List.forall_mem_cons.mpr ⟨tw_7_2, List.forall_mem_cons.mpr ⟨tw_7_4, List.forall_mem_cons.mpr ⟨tw_7_6, List.forall_mem_cons.mpr ⟨tw_7_8, fun _ h => absurd h List.not_mem_nil⟩⟩⟩⟩⟩⟩⟩⟩⟩⟩⟩⟩⟩⟩⟩⟩⟩⟩⟩⟩⟩⟩⟩⟩⟩⟩⟩⟩⟩⟩⟩⟩⟩⟩
theorem kOK (ci : Nat) {C : String} {T : u_T} {N : Nat} (h : kCl[ci]? = some (C, T, N)) : (∀ w ∈ u_ws C T N, w ∈ AW) ∧ (∀ j, j < N → parseFieldDescriptor (T j).2.2.1 = some (kTy ci j)) ∧ (∀ a, a < N → ∀ b, b < N → a ≠ b → (T a).2.1 ≠ (T b).2.1) ∧ N = kNn ci ∧ ci < 9 := by
  match ci, h with
  | 0, h => cases h; exact ⟨UWS1, tyX1_ok, nmX1, rfl, by decide⟩
  | 1, h => cases h; exact ⟨UWS2, tyX2_ok, nmX2, rfl, by decide⟩
  | 2, h => cases h; exact ⟨UWS3, tyX3_ok, nmX3, rfl, by decide⟩
  | 3, h => cases h; exact ⟨UWS4, tyX4_ok, nmX4, rfl, by decide⟩
  | 4, h => cases h; exact ⟨UWS5, tyX5_ok, nmX5, rfl, by decide⟩
  | 5, h => cases h; exact ⟨UWS6, tyX6_ok, nmX6, rfl, by decide⟩
  | 6, h => cases h; exact ⟨UWS7, tyX7_ok, nmX7, rfl, by decide⟩
  | 7, h => cases h; exact ⟨UWS8, tyX8_ok, nmX8, rfl, by decide⟩
  | 8, h => cases h; exact ⟨UWS9, tyX9_ok, nmX9, rfl, by decide⟩
  | n + 9, h => simp [kCl] at h
/-- a field as a class' pool names it -/
def GF (own : String) (i ci k : Nat) : Prop := ∃ (C : String) (T : u_T) (N : Nat), kCl[ci]? = some (C, T, N) ∧ k < N ∧ (Cond.fieldLink own i (T k).1 (T k).2.1 (T k).2.2.1 ∈ AW ∨ ∃ host : String, Cond.fieldLinkNest own i (T k).1 (T k).2.1 (T k).2.2.1 host ∈ tables_1)
/-- .. that may be written: not final, or in its class's own constructor -/
def PF (own : String) (i ci k : Nat) (ini : Bool) : Prop := ∃ (C : String) (T : u_T) (N : Nat), kCl[ci]? = some (C, T, N) ∧ k < N ∧ ((T k).2.2.2 = false ∧ (Cond.fieldLink own i (T k).1 (T k).2.1 (T k).2.2.1 ∈ AW ∨ ∃ host : String, Cond.fieldLinkNest own i (T k).1 (T k).2.1 (T k).2.2.1 host ∈ tables_1) ∨ (T k).2.2.2 = true ∧ ini = true ∧ (T k).1 = own ∧ Cond.fieldLink own i (T k).1 (T k).2.1 (T k).2.2.1 ∈ AW)
theorem kE_obj {G : Nat → ClassId} {σ : Nat → Nat} {h : Hp} {a ci : Nat} (ht : qT h a = ci + 1) (hc : ci < 9) : kE G σ h a = .inr (ci, flds σ h a ci) := by
  unfold kE
  rw [ht, if_neg (by omega), if_neg (by omega), if_neg (by omega), if_neg (by omega), if_neg (by omega)]
  rfl
theorem flds_get {σ : Nat → Nat} {h : Hp} {a ci k : Nat} (hk : k < kNn ci) : (flds σ h a ci)[k]? = some (fdv σ h a ci k) := by
  unfold flds
  rw [List.getElem?_map, List.getElem?_range hk]
  rfl
theorem flds_len {σ : Nat → Nat} {h : Hp} {a ci : Nat} : (flds σ h a ci).length = kNn ci := by simp [flds]
theorem flds_set {σ : Nat → Nat} {h h' : Hp} {a ci k : Nat} {v : Value} (hv : fdv σ h' a ci k = v) (ho : ∀ j, j ≠ k → fdv σ h' a ci j = fdv σ h a ci j) : (flds σ h a ci).set k v = flds σ h' a ci := by
  apply List.ext_getElem?
  intro j
  by_cases hj : j < kNn ci
  · rw [flds_get hj]
    by_cases hk : j = k
    · subst hk
      rw [List.getElem?_set_self (by rw [flds_len]; exact hj), hv]
    · rw [List.getElem?_set_ne (Ne.symm hk), flds_get hj, ho j hk]
  · rw [List.getElem?_eq_none (by rw [List.length_set, flds_len]; omega), List.getElem?_eq_none (by rw [flds_len]; omega)]
/-- two heaps that hold the same at a -/
theorem kE_eq {G : Nat → ClassId} {σ : Nat → Nat} {h h' : Hp} {a : Nat} (hT : qT h' a = qT h a) (hW : qW h' a = qW h a) (hI : ∀ j, qI h' a j = qI h a j) (hL : ∀ j, qL h' a j = qL h a j) (hR : ∀ j, qR h' a j = qR h a j) : kE G σ h' a = kE G σ h a := by
  unfold kE flds fdv
  simp only [hT, hW, hI, hL, hR]
theorem Bs.K {K : Ctx} {s : State} {H : Heap} (h : Bs K s H) : va_K (kD K) kCl (tysG (kG K)) s := h.1.1
section XH
variable {l : Launch} {K : Ctx} {M : Mi} {tg : Tg} {pc : Nat} {ls : List (Nat × Value)} {st : List Value} {h : Hp}
theorem Fr.ex {p : Program} {s : State} {m : MethodId} {args : Array Value} {meth : Method} {c : Code} (F : Fr l K M p s m args meth c) : p.tables.exec = Jvm.exec := F.1
theorem Fr.cc {p : Program} {s : State} {m : MethodId} {args : Array Value} {meth : Method} {c : Code} (F : Fr l K M p s m args meth c) : c.code = mB M := F.2.1
theorem Fr.ml {p : Program} {s : State} {m : MethodId} {args : Array Value} {meth : Method} {c : Code} (F : Fr l K M p s m args meth c) : c.maxLocals = mL M := F.2.2.1
theorem Fr.rt {p : Program} {s : State} {m : MethodId} {args : Array Value} {meth : Method} {c : Code} (F : Fr l K M p s m args meth c) : meth.sig.returnType = mR M := F.2.2.2.1
theorem Fr.lk {p : Program} {s : State} {m : MethodId} {args : Array Value} {meth : Method} {c : Code} (F : Fr l K M p s m args meth c) : meth.locks = false := F.2.2.2.2.1
theorem Fr.ow {p : Program} {s : State} {m : MethodId} {args : Array Value} {meth : Method} {c : Code} (F : Fr l K M p s m args meth c) : s.vm.findClass (mO M) = some m.cls := F.2.2.2.2.2.1
theorem Fr.ts {p : Program} {s : State} {m : MethodId} {args : Array Value} {meth : Method} {c : Code} (F : Fr l K M p s m args meth c) : ∀ w ∈ AW, w.before args s = true := F.2.2.2.2.2.2.1
theorem Fr.bs {p : Program} {s : State} {m : MethodId} {args : Array Value} {meth : Method} {c : Code} (F : Fr l K M p s m args meth c) : Bs K s s.heap := F.2.2.2.2.2.2.2.1
theorem Fr.tb {p : Program} {s : State} {m : MethodId} {args : Array Value} {meth : Method} {c : Code} (F : Fr l K M p s m args meth c) : c.exceptionTable.toList = tableOf (mH M) := F.2.2.2.2.2.2.2.2.1
theorem Fr.ini {p : Program} {s : State} {m : MethodId} {args : Array Value} {meth : Method} {c : Code} (F : Fr l K M p s m args meth c) : mI M = true → meth.name = "<init>" := F.2.2.2.2.2.2.2.2.2.1
theorem Fr.tr {p : Program} {s : State} {m : MethodId} {args : Array Value} {meth : Method} {c : Code} (F : Fr l K M p s m args meth c) : l.stackTraces = false := F.2.2.2.2.2.2.2.2.2.2
theorem Fr.nw {p : Program} {s : State} {m : MethodId} {args : Array Value} {meth : Method} {c : Code} (F : Fr l K M p s m args meth c) {w : Cond} (hw : w ∈ tables_1) (g : nk w = true) : va_Nw w s := F.bs.1.2.1.1 w hw g
/-- getfield, either link -/
theorem x_get9 {i ci k a : Nat} {v : Value} (g : GF (mO M) i ci k) (ha : okr h a (ci + 1)) (d : decode (mB M) pc = .ok (.getfield i, 3)) (hv : ∀ σ, fdv σ h a ci k = cv σ v) (ho : okV (qN h) v) (kx : X l K M tg (pc + 3) ls (v :: st) h) : X l K M tg pc ls (.ref a :: st) h :=
  X.same kx (fun w => wf_val ho (wf_pop w)) fun p e R s m args below meth c H locs cells slots Q σ la F S Hm hl rf rl kk => by
    obtain ⟨C, T, N, hc, hk, hl9⟩ := g
    obtain ⟨u1, u2, u3, u4, u5⟩ := kOK ci hc
    have he := kW_get (G := kG K) (σ := σ) ha.1
    rw [kE_obj ha.2 u5] at he
    have hf : (flds σ h a ci)[k]? = some (cv σ v) := by rw [flds_get (by omega), hv σ]
    rcases hl9 with hl9 | ⟨host, hl9⟩
    · exact va_get F.ex F.cc F.ts u1 F.ow F.bs.K Hm.1.1 (a - 1) he hc k hk (F.ts _ hl9) (fun _ q => q) hf d (kk la hl)
    · exact va_getN F.ex F.cc F.ts u1 F.ow F.bs.K Hm.1.1 (a - 1) he hc k hk (va_Nw.use rfl (F.nw hl9 rfl)) (fun _ q => q) hf d (kk la hl)
theorem x_getI {i ci k a : Nat} (g : GF (mO M) i ci k) (hk : isRt (kTy ci k) = false) (d : decode (mB M) pc = .ok (.getfield i, 3)) (ha : okr h a (ci + 1)) (kx : X l K M tg (pc + 3) ls (.int (qI h a k) :: st) h) : X l K M tg pc ls (.ref a :: st) h :=
  x_get9 (v := .int (qI h a k)) g ha d (fun σ => by unfold fdv; rw [hk]; rfl) trivial kx
theorem x_getR {i ci k a : Nat} (g : GF (mO M) i ci k) (hk : isRt (kTy ci k) = true) (d : decode (mB M) pc = .ok (.getfield i, 3)) (ha : okr h a (ci + 1)) (hr : 1 ≤ qR h a k ∧ qR h a k ≤ qN h) (kx : X l K M tg (pc + 3) ls (.ref (qR h a k) :: st) h) : X l K M tg pc ls (.ref a :: st) h :=
  x_get9 (v := .ref (qR h a k)) g ha d (fun σ => by unfold fdv rv; rw [hk, if_pos rfl, if_neg (by omega)]; rfl) (Or.inl hr.2) kx
/-- putfield -/
theorem x_put9 {i ci k a : Nat} {v : Value} {h' : Hp} (g : PF (mO M) i ci k (mI M)) (ha : okr h a (ci + 1)) (d : decode (mB M) pc = .ok (.putfield i, 3)) (hq : qC h' = qC h ∧ qS h' = qS h ∧ qN h' = qN h) (hz : Hw h → Hw h') (hT : qT h' = qT h) (hv : ∀ σ, fdv σ h' a ci k = cv σ v) (ho : ∀ σ j, j ≠ k → fdv σ h' a ci j = fdv σ h a ci j) (hx : ∀ σ x, x ≠ a → kE (kG K) σ h' x = kE (kG K) σ h x)
    (hn : ∀ σ, narrow (kTy ci k) (cv σ v) = cv σ v) (hf : ∀ σ, fits (kTy ci k) (cv σ v) = true) (kx : X l K M tg (pc + 3) ls st h') : X l K M tg pc ls (v :: .ref a :: st) h :=
  X.upd hq hz kx (fun w => wf_pop (wf_pop w)) fun p e R s m args below meth c H locs cells slots Q σ la F S Hm hl kk => by
    obtain ⟨C, T, N, hc, hk, hl9⟩ := g
    obtain ⟨u1, u2, u3, u4, u5⟩ := kOK ci hc
    have he := kW_get (G := kG K) (σ := σ) ha.1
    rw [kE_obj ha.2 u5] at he
    have hset : (kW (kG K) σ h).set (a - 1) (σ a, .inr (ci, (flds σ h a ci).set k (cv σ v))) = kW (kG K) σ h' := by
      rw [flds_set (hv σ) (ho σ), ← kE_obj (G := kG K) (h := h') (by rw [hT]; exact ha.2) u5]
      exact kW_set hq.2.2 ha.1 (hx σ)
    have hlen : k < (flds σ h a ci).length := by rw [flds_len]; omega
    rcases hl9 with ⟨hfin, hl9 | ⟨host, hl9⟩⟩ | ⟨hfin, hini, hown, hl9⟩
    · exact va_put F.ex F.cc F.ts u1 (kTy ci) u2 u3 F.ow F.bs.K Hm.1.1 Hm.1.2 S (a - 1) he hc k hk (F.ts _ hl9) (fun _ q => q) hfin (u2 k hk) (hn σ) (hf σ) hlen d (fun H1 locs1 hP hD hS => kk H1 locs1 (hset ▸ hP) (hset ▸ hD) hS)
    · exact va_putN F.ex F.cc F.ts u1 (kTy ci) u2 u3 F.ow F.bs.K Hm.1.1 Hm.1.2 S (a - 1) he hc k hk (va_Nw.use rfl (F.nw hl9 rfl)) (fun _ q => q) hfin (u2 k hk) (hn σ) (hf σ) hlen d (fun H1 locs1 hP hD hS => kk H1 locs1 (hset ▸ hP) (hset ▸ hD) hS)
    · exact va_putF F.ex F.cc F.ts u1 (kTy ci) u2 u3 F.ow F.bs.K Hm.1.1 Hm.1.2 S (a - 1) he hc k hk (F.ts _ hl9) (fun _ q => q) hfin (F.ini hini) hown (u2 k hk) (hn σ) (hf σ) hlen d (fun H1 locs1 hP hD hS => kk H1 locs1 (hset ▸ hP) (hset ▸ hD) hS)
theorem putI_ne {a k : Nat} {v : Int32} {x : Nat} (hx : x ≠ a) (j : Nat) : qI (putI h a k v) x j = qI h x j := if_neg (fun q => hx q.1)
theorem putR_ne {a k : Nat} {v : Nat} {x : Nat} (hx : x ≠ a) (j : Nat) : qR (putR h a k v) x j = qR h x j := if_neg (fun q => hx q.1)
theorem putL_ne {a k : Nat} {v : Int64} {x : Nat} (hx : x ≠ a) (j : Nat) : qL (putL h a k v) x j = qL h x j := if_neg (fun q => hx q.1)
theorem hw_putR {a k r : Nat} (hr : r ≤ qN h) (w : Hw h) : Hw (putR h a k r) := fun x j hx => by
  show (if x = a ∧ j = k then r else qR h x j) ≤ qN h
  split
  · exact hr
  · exact w x j hx
theorem x_putI {i ci k a : Nat} {v : Int32} (g : PF (mO M) i ci k (mI M)) (hk : isRt (kTy ci k) = false) (hn : narrow (kTy ci k) (.int v) = .int v) (hf : fits (kTy ci k) (.int v) = true) (d : decode (mB M) pc = .ok (.putfield i, 3)) (ha : okr h a (ci + 1)) (kx : X l K M tg (pc + 3) ls st (putI h a k v)) : X l K M tg pc ls (.int v :: .ref a :: st) h :=
  x_put9 (h' := putI h a k v) g ha d ⟨rfl, rfl, rfl⟩ (fun q => q) rfl (fun σ => by unfold fdv; rw [hk]; show Value.int (if a = a ∧ k = k then v else _) = _; rw [if_pos ⟨rfl, rfl⟩]; rfl)
    (fun σ j hj => by unfold fdv; congr 1; show Value.int (if a = a ∧ j = k then v else _) = _; rw [if_neg (fun q => hj q.2)])
    (fun σ x hx => kE_eq rfl rfl (putI_ne hx) (fun _ => rfl) (fun _ => rfl)) (fun _ => hn) (fun _ => hf) kx
theorem x_putR {i ci k a r : Nat} (g : PF (mO M) i ci k (mI M)) (hk : isRt (kTy ci k) = true) (hr : 1 ≤ r ∧ r ≤ qN h) (hn : ∀ q : Nat, narrow (kTy ci k) (.ref q) = .ref q) (hf : ∀ q : Nat, fits (kTy ci k) (.ref q) = true) (d : decode (mB M) pc = .ok (.putfield i, 3)) (ha : okr h a (ci + 1)) (kx : X l K M tg (pc + 3) ls st (putR h a k r)) : X l K M tg pc ls (.ref r :: .ref a :: st) h :=
  x_put9 (h' := putR h a k r) g ha d ⟨rfl, rfl, rfl⟩ (hw_putR hr.2) rfl (fun σ => by unfold fdv; rw [hk, if_pos rfl]; show rv σ (if a = a ∧ k = k then r else _) = _; rw [if_pos ⟨rfl, rfl⟩]; unfold rv; rw [if_neg (by omega)]; rfl)
    (fun σ j hj => by unfold fdv; congr 1; show rv σ (if a = a ∧ j = k then r else _) = _; rw [if_neg (fun q => hj q.2)])
    (fun σ x hx => kE_eq rfl rfl (fun _ => rfl) (fun _ => rfl) (putR_ne hx)) (fun σ => hn (σ r)) (fun σ => hf (σ r)) kx
/-- arrays -/
theorem kE_20 {G : Nat → ClassId} {σ : Nat → Nat} {a : Nat} (ht : qT h a = 20) : kE G σ h a = .inl (G 0, qW h a, .inl (fun j => qI h a j)) := by unfold kE; rw [if_pos ht]
theorem kE_21 {G : Nat → ClassId} {σ : Nat → Nat} {a : Nat} (ht : qT h a = 21) : kE G σ h a = .inl (G 1, qW h a, .inr (.inl (fun j => qL h a j))) := by unfold kE; rw [if_neg (by omega), if_pos ht]
theorem kE_22 {G : Nat → ClassId} {σ : Nat → Nat} {a : Nat} (ht : qT h a = 22) : kE G σ h a = .inl (G 2, qW h a, .inl (fun j => qI h a j)) := by unfold kE; rw [if_neg (by omega), if_neg (by omega), if_pos ht]
theorem kE_23 {G : Nat → ClassId} {σ : Nat → Nat} {a : Nat} (ht : qT h a = 23) : kE G σ h a = .inl (G 3, qW h a, .inl (fun j => qI h a j)) := by unfold kE; rw [if_neg (by omega), if_neg (by omega), if_neg (by omega), if_pos ht]
theorem kE_24 {G : Nat → ClassId} {σ : Nat → Nat} {a t : Nat} (ht : qT h a = 24 + t) : kE G σ h a = .inl (G (4 + t), qW h a, .inr (.inr (.inr (.inr (fun j => ro σ (qR h a j)))))) := by
  unfold kE; rw [if_neg (by omega), if_neg (by omega), if_neg (by omega), if_neg (by omega), if_pos (by omega), ht, show 24 + t - 20 = 4 + t by omega]
theorem x_iald {a : Nat} {i : Int32} (d : decode (mB M) pc = .ok (.iaload, 1)) (ha : okr h a 20) (hi : vp_in i (qW h a)) (kx : X l K M tg (pc + 1) ls (.int (qI h a i.toNatClampNeg) :: st) h) : X l K M tg pc ls (.int i :: .ref a :: st) h :=
  X.same kx (fun w => wf_num trivial (wf_pop (wf_pop w))) fun p e R s m args below meth c H locs cells slots Q σ la F S Hm hl rf rl kk => by
    have he := kW_get (G := kG K) (σ := σ) ha.1
    rw [kE_20 ha.2] at he
    exact va_iald F.ex F.cc F.bs.K Hm.1.1 (a - 1) 0 he rfl hi d (kk la hl)
theorem x_zald {a : Nat} {i : Int32} (d : decode (mB M) pc = .ok (.baload, 1)) (ha : okr h a 22) (hi : vp_in i (qW h a)) (kx : X l K M tg (pc + 1) ls (.int (qI h a i.toNatClampNeg) :: st) h) : X l K M tg pc ls (.int i :: .ref a :: st) h :=
  X.same kx (fun w => wf_num trivial (wf_pop (wf_pop w))) fun p e R s m args below meth c H locs cells slots Q σ la F S Hm hl rf rl kk => by
    have he := kW_get (G := kG K) (σ := σ) ha.1
    rw [kE_22 ha.2] at he
    exact va_zald F.ex F.cc F.bs.K Hm.1.1 (a - 1) 2 he rfl hi d (kk la hl)
theorem x_cald {a : Nat} {i : Int32} (d : decode (mB M) pc = .ok (.caload, 1)) (ha : okr h a 23) (hi : vp_in i (qW h a)) (kx : X l K M tg (pc + 1) ls (.int (qI h a i.toNatClampNeg) :: st) h) : X l K M tg pc ls (.int i :: .ref a :: st) h :=
  X.same kx (fun w => wf_num trivial (wf_pop (wf_pop w))) fun p e R s m args below meth c H locs cells slots Q σ la F S Hm hl rf rl kk => by
    have he := kW_get (G := kG K) (σ := σ) ha.1
    rw [kE_23 ha.2] at he
    exact va_cald F.ex F.cc F.bs.K Hm.1.1 (a - 1) 3 he rfl hi d (kk la hl)
theorem x_lald {a : Nat} {i : Int32} (d : decode (mB M) pc = .ok (.laload, 1)) (ha : okr h a 21) (hi : vp_in i (qW h a)) (kx : X l K M tg (pc + 1) ls (.long (qL h a i.toNatClampNeg) :: st) h) : X l K M tg pc ls (.int i :: .ref a :: st) h :=
  X.same kx (fun w => wf_num trivial (wf_pop (wf_pop w))) fun p e R s m args below meth c H locs cells slots Q σ la F S Hm hl rf rl kk => by
    have he := kW_get (G := kG K) (σ := σ) ha.1
    rw [kE_21 ha.2] at he
    exact va_lald F.ex F.cc F.bs.K Hm.1.1 (a - 1) 1 he rfl hi d (kk la hl)
theorem ro_rf {σ : Nat → Nat} {r : Nat} (h0 : 1 ≤ r) : va_rf (ro σ r) = .ref (σ r) := by unfold ro; rw [if_neg (by omega)]; rfl
/-- aaload; t: 0 rows of ints, 1 Cell, 2 Clip, 3 Content -/
theorem x_aald {a t : Nat} {i : Int32} (ht : t < 4) (d : decode (mB M) pc = .ok (.aaload, 1)) (ha : okr h a (24 + t)) (hi : vp_in i (qW h a)) (hr : 1 ≤ qR h a i.toNatClampNeg ∧ qR h a i.toNatClampNeg ≤ qN h) (kx : X l K M tg (pc + 1) ls (.ref (qR h a i.toNatClampNeg) :: st) h) : X l K M tg pc ls (.int i :: .ref a :: st) h :=
  X.same kx (fun w => wf_val (Or.inl hr.2) (wf_pop (wf_pop w))) fun p e R s m args below meth c H locs cells slots Q σ la F S Hm hl rf rl kk => by
    have he := kW_get (G := kG K) (σ := σ) ha.1
    rw [kE_24 ha.2] at he
    have hlt : i.toNatClampNeg < qW h a := Nat.not_le.mp fun q => hi (Or.inr q)
    have kk2 : W p l e R s m args below meth c H locs cells slots Q (F0 m (pc + 1) la (va_rf (ro σ (qR h a i.toNatClampNeg)) :: st.map (cv σ))) := by rw [ro_rf hr.1]; exact kk la hl
    have key : ∀ ty : FieldType, ty.isReference = true → (tysG (kG K))[4 + t]? = some (kG K (4 + t), ty) → W p l e R s m args below meth c H locs cells slots Q (F0 m pc la ((Value.int i :: Value.ref a :: st).map (cv σ))) := fun ty h1 h2 =>
      W.aald (v := va_rf (ro σ (qR h a i.toNatClampNeg))) (ty := ty) F.ex F.cc (Hm.1.1 (a - 1) _ he) ((F.bs.K.2 (4 + t) _ h2).1 (qW h a) (fun j => va_rf (ro σ (qR h a j)))) h1 (fun q => by cases q) (by show ¬ (i < 0 ∨ (arrV _ _ _).slots.size ≤ _); rw [arrV_size]; exact hi) (by show (arrV _ _ _).slots[_]? = _; rw [arrV_read _ _ hlt]) rfl rfl d kk2
    match t, ht with
    | 0, _ => exact key (.array .int) rfl rfl
    | 1, _ => exact key (.object RX1) rfl rfl
    | 2, _ => exact key (.object RX2) rfl rfl
    | 3, _ => exact key (.object RX4) rfl rfl
theorem kW_putI {σ : Nat → Nat} {a k : Nat} {v : Int32} {e : va_E} (ha : 1 ≤ a ∧ a ≤ qN h) (he : kE (kG K) σ (putI h a k v) a = e) : (kW (kG K) σ h).set (a - 1) (σ a, e) = kW (kG K) σ (putI h a k v) := by
  rw [← he]
  exact kW_set rfl ha (fun x hx => kE_eq rfl rfl (putI_ne hx) (fun _ => rfl) (fun _ => rfl))
theorem upd_putI {a k : Nat} {v : Int32} : (fun j => qI (putI h a k v) a j) = upd (fun j => qI h a j) k v := by
  funext j
  show (if a = a ∧ j = k then v else _) = _
  by_cases hj : j = k
  · rw [if_pos ⟨rfl, hj⟩]; simp [upd, hj]
  · rw [if_neg (fun q => hj q.2)]; simp [upd, hj]
theorem x_iast {a : Nat} {i v : Int32} (d : decode (mB M) pc = .ok (.iastore, 1)) (ha : okr h a 20) (hi : vp_in i (qW h a)) (kx : X l K M tg (pc + 1) ls st (putI h a i.toNatClampNeg v)) : X l K M tg pc ls (.int v :: .int i :: .ref a :: st) h :=
  X.upd (h' := putI h a i.toNatClampNeg v) ⟨rfl, rfl, rfl⟩ (fun q => q) kx (fun w => wf_pop (wf_pop (wf_pop w))) fun p e R s m args below meth c H locs cells slots Q σ la F S Hm hl kk => by
    have he := kW_get (G := kG K) (σ := σ) ha.1
    rw [kE_20 ha.2] at he
    have hset := kW_putI (K := K) (σ := σ) (h := h) (k := i.toNatClampNeg) (v := v) ha.1 (kE_20 (show qT (putI h a i.toNatClampNeg v) a = 20 from ha.2))
    rw [upd_putI] at hset
    exact va_iast F.ex F.cc F.bs.K Hm.1.1 Hm.1.2 S (a - 1) 0 he rfl hi d (fun H1 locs1 hP hD hS => kk H1 locs1 (hset ▸ hP) (hset ▸ hD) hS)
theorem x_zast {a : Nat} {i v : Int32} (d : decode (mB M) pc = .ok (.bastore, 1)) (hv : v = 0 ∨ v = 1) (ha : okr h a 22) (hi : vp_in i (qW h a)) (kx : X l K M tg (pc + 1) ls st (putI h a i.toNatClampNeg v)) : X l K M tg pc ls (.int v :: .int i :: .ref a :: st) h :=
  X.upd (h' := putI h a i.toNatClampNeg v) ⟨rfl, rfl, rfl⟩ (fun q => q) kx (fun w => wf_pop (wf_pop (wf_pop w))) fun p e R s m args below meth c H locs cells slots Q σ la F S Hm hl kk => by
    have he := kW_get (G := kG K) (σ := σ) ha.1
    rw [kE_22 ha.2] at he
    have hset := kW_putI (K := K) (σ := σ) (h := h) (k := i.toNatClampNeg) (v := v) ha.1 (kE_22 (show qT (putI h a i.toNatClampNeg v) a = 22 from ha.2))
    rw [upd_putI] at hset
    have hz : vp_nar .boolean v = v := by rcases hv with rfl | rfl <;> rfl
    exact va_zast F.ex F.cc F.bs.K Hm.1.1 Hm.1.2 S (a - 1) 2 he rfl hi d (fun H1 locs1 hP hD hS => by rw [hz] at hP hD; exact kk H1 locs1 (hset ▸ hP) (hset ▸ hD) hS)
theorem x_cast {a : Nat} {i v : Int32} (d : decode (mB M) pc = .ok (.castore, 1)) (hv : vp_nar .char v = v) (ha : okr h a 23) (hi : vp_in i (qW h a)) (kx : X l K M tg (pc + 1) ls st (putI h a i.toNatClampNeg v)) : X l K M tg pc ls (.int v :: .int i :: .ref a :: st) h :=
  X.upd (h' := putI h a i.toNatClampNeg v) ⟨rfl, rfl, rfl⟩ (fun q => q) kx (fun w => wf_pop (wf_pop (wf_pop w))) fun p e R s m args below meth c H locs cells slots Q σ la F S Hm hl kk => by
    have he := kW_get (G := kG K) (σ := σ) ha.1
    rw [kE_23 ha.2] at he
    have hset := kW_putI (K := K) (σ := σ) (h := h) (k := i.toNatClampNeg) (v := v) ha.1 (kE_23 (show qT (putI h a i.toNatClampNeg v) a = 23 from ha.2))
    rw [upd_putI] at hset
    exact va_cast F.ex F.cc F.bs.K Hm.1.1 Hm.1.2 S (a - 1) 3 he rfl hi d (fun H1 locs1 hP hD hS => by rw [hv] at hP hD; exact kk H1 locs1 (hset ▸ hP) (hset ▸ hD) hS)
theorem x_last {a : Nat} {i : Int32} {v : Int64} (d : decode (mB M) pc = .ok (.lastore, 1)) (ha : okr h a 21) (hi : vp_in i (qW h a)) (kx : X l K M tg (pc + 1) ls st (putL h a i.toNatClampNeg v)) : X l K M tg pc ls (.long v :: .int i :: .ref a :: st) h :=
  X.upd (h' := putL h a i.toNatClampNeg v) ⟨rfl, rfl, rfl⟩ (fun q => q) kx (fun w => wf_pop (wf_pop (wf_pop w))) fun p e R s m args below meth c H locs cells slots Q σ la F S Hm hl kk => by
    have he := kW_get (G := kG K) (σ := σ) ha.1
    rw [kE_21 ha.2] at he
    have hset : (kW (kG K) σ h).set (a - 1) (σ a, kE (kG K) σ (putL h a i.toNatClampNeg v) a) = kW (kG K) σ (putL h a i.toNatClampNeg v) :=
      kW_set rfl ha.1 (fun x hx => kE_eq rfl rfl (fun _ => rfl) (putL_ne hx) (fun _ => rfl))
    rw [kE_21 (show qT (putL h a i.toNatClampNeg v) a = 21 from ha.2), show (fun j => qL (putL h a i.toNatClampNeg v) a j) = vp_updL (fun j => qL h a j) i.toNatClampNeg v from by
      funext j
      show (if a = a ∧ j = _ then v else _) = _
      by_cases hj : j = i.toNatClampNeg
      · rw [if_pos ⟨rfl, hj⟩]; simp [vp_updL, hj]
      · rw [if_neg (fun q => hj q.2)]; simp [vp_updL, hj]] at hset
    exact va_last F.ex F.cc F.bs.K Hm.1.1 Hm.1.2 S (a - 1) 1 he rfl hi d (fun H1 locs1 hP hD hS => kk H1 locs1 (hset ▸ hP) (hset ▸ hD) hS)
/-- aastore of a Cell, a Clip, a Content -/
theorem x_aast {a t v ci : Nat} {i : Int32} (ht : (t = 1 ∧ ci = 0) ∨ (t = 2 ∧ ci = 1) ∨ (t = 3 ∧ ci = 3)) (d : decode (mB M) pc = .ok (.aastore, 1)) (ha : okr h a (24 + t)) (hi : vp_in i (qW h a)) (hv : okr h v (ci + 1)) (kx : X l K M tg (pc + 1) ls st (putR h a i.toNatClampNeg v)) : X l K M tg pc ls (.ref v :: .int i :: .ref a :: st) h :=
  X.upd (h' := putR h a i.toNatClampNeg v) ⟨rfl, rfl, rfl⟩ (hw_putR hv.1.2) kx (fun w => wf_pop (wf_pop (wf_pop w))) fun p e R s m args below meth c H locs cells slots Q σ la F S Hm hl kk => by
    have he := kW_get (G := kG K) (σ := σ) ha.1
    rw [kE_24 ha.2] at he
    have hev := kW_get (G := kG K) (σ := σ) hv.1
    rw [kE_obj hv.2 (by omega)] at hev
    have hset : (kW (kG K) σ h).set (a - 1) (σ a, kE (kG K) σ (putR h a i.toNatClampNeg v) a) = kW (kG K) σ (putR h a i.toNatClampNeg v) :=
      kW_set rfl ha.1 (fun x hx => kE_eq rfl rfl (fun _ => rfl) (fun _ => rfl) (putR_ne hx))
    rw [kE_24 (show qT (putR h a i.toNatClampNeg v) a = 24 + t from ha.2), show (fun j => ro σ (qR (putR h a i.toNatClampNeg v) a j)) = va_up (fun j => ro σ (qR h a j)) i.toNatClampNeg (some (σ v)) from by
      funext j
      show ro σ (if a = a ∧ j = _ then v else _) = _
      by_cases hj : j = i.toNatClampNeg
      · rw [if_pos ⟨rfl, hj⟩]
        have : ro σ v = some (σ v) := by unfold ro; rw [if_neg (by have := hv.1.1; omega)]
        simp [va_up, hj, this]
      · rw [if_neg (fun q => hj q.2)]; simp [va_up, hj]] at hset
    rcases ht with ⟨rfl, rfl⟩ | ⟨rfl, rfl⟩ | ⟨rfl, rfl⟩
    · exact va_astq (r := (RX1, TX1, 4)) F.ex F.cc F.bs.K Hm.1.1 Hm.1.2 S (a - 1) 5 (v - 1) 0 he rfl hev rfl hi d (fun H1 locs1 hP hD hS => kk H1 locs1 (hset ▸ hP) (hset ▸ hD) hS)
    · exact va_astq (r := (RX2, TX2, 5)) F.ex F.cc F.bs.K Hm.1.1 Hm.1.2 S (a - 1) 6 (v - 1) 1 he rfl hev rfl hi d (fun H1 locs1 hP hD hS => kk H1 locs1 (hset ▸ hP) (hset ▸ hD) hS)
    · exact va_astq (r := (RX4, TX4, 13)) F.ex F.cc F.bs.K Hm.1.1 Hm.1.2 S (a - 1) 7 (v - 1) 3 he rfl hev rfl hi d (fun H1 locs1 hP hD hS => kk H1 locs1 (hset ▸ hP) (hset ▸ hD) hS)
theorem x_alen {a : Nat} (d : decode (mB M) pc = .ok (.arraylength, 1)) (ha : okr h a 20) (kx : X l K M tg (pc + 1) ls (.int (Int32.ofNat (qW h a)) :: st) h) : X l K M tg pc ls (.ref a :: st) h :=
  X.same kx (fun w => wf_num trivial (wf_pop w)) fun p e R s m args below meth c H locs cells slots Q σ la F S Hm hl rf rl kk => by
    have he := kW_get (G := kG K) (σ := σ) ha.1
    rw [kE_20 ha.2] at he
    exact va_alen F.ex F.cc F.bs.K Hm.1.1 (a - 1) 0 he (ty := .int) rfl rfl d (kk la hl)
end XH
