/-! ===== from the machine's start to the functions ===== -/
def hp0 : Hp := (0, fun _ => 0, fun _ => 0, fun _ _ => 0, fun _ _ => 0, fun _ _ => 0, 0, 0)
theorem room_mono {s : State} {pl : Platform} {r r' : Room} (hf : r.frames ≤ r'.frames) (hl : r.locals ≤ r'.locals) (hc : r.cells ≤ r'.cells) (hs : r.slots ≤ r'.slots) (h : s.hasRoom pl r' = true) : s.hasRoom pl r = true := by
  simp only [State.hasRoom, Bool.and_eq_true, decide_eq_true_eq] at h ⊢
  obtain ⟨⟨⟨⟨y, a, b, c, d, e⟩, f⟩, g⟩, i⟩ := h
  exact ⟨⟨⟨⟨by omega, by omega, by omega, by omega, by omega, e⟩, by omega⟩, by omega⟩, i⟩
theorem W.room {p : Program} {l : Launch} {e : Env} {r r' : Room} {s : State} {m : MethodId} {args : Array Value} {below : List Frame} {meth : Method} {c : Code} {H : Heap} {locs : List Loc} {cells slots : Nat} {Q : State → Prop} {g : JFrame} (hf : r.frames ≤ r'.frames) (hl : r.locals ≤ r'.locals) (hc : r.cells ≤ r'.cells) (hs : r.slots ≤ r'.slots) (k : W p l e r s m args below meth c H locs cells slots Q g) : W p l e r' s m args below meth c H locs cells slots Q g :=
  fun T hT X => k T hT { X with room := room_mono hf hl hc hs X.room }
theorem W.post {p : Program} {l : Launch} {e : Env} {r : Room} {s : State} {m : MethodId} {args : Array Value} {below : List Frame} {meth : Method} {c : Code} {H : Heap} {locs : List Loc} {cells slots : Nat} {Q Q' : State → Prop} {g : JFrame} (h : ∀ t, Q t → Q' t) (k : W p l e r s m args below meth c H locs cells slots Q g) : W p l e r s m args below meth c H locs cells slots Q' g := fun T hT X => by
  obtain ⟨t, a, b⟩ := k T hT X
  exact ⟨t, a, h t b⟩
set_option maxRecDepth 10000 in
theorem bs0 {s : State} {b L : Nat} {xs : Nat → Int32} (hts : ∀ w ∈ lw_tbl, w.before #[Value.ref b] s = true) (hX : va_X b L xs s s.heap) (hb : b < s.heap.size) (hg : (Jvm.Cond.and given_1 narrow_1).before #[Value.ref b] s = true) :
    ∃ K : Ctx, kX K = b ∧ kLn K = L ∧ kXs K = xs ∧ kb K = s.heap.size ∧ Bs K s s.heap := by
  have hf := flat_of_before _ hg
  have hAW : ∀ w ∈ AW, w.before #[Value.ref b] s = true := fun w h => hts w (AW_tbl w h)
  have hT1 : ∀ w ∈ tables_1, w.before #[Value.ref b] s = true := fun w h => hts w (List.mem_append_right _ h)
  have hA : ∀ a : Nat, a < s.heap.size → ¬ (s.heap.size ≤ a) := fun a h => Nat.not_le.mpr h
  have hD : ∀ ci : Nat, ∃ d : ClassId × (Nat → Nat), ∀ q : vw_C, kCl[ci]? = some q → u_Kn s q.1 q.2.1 q.2.2 d.1 d.2 := by
    intro ci
    have one : ∀ (C : String) (T : u_T) (N : Nat), kCl[ci]? = some (C, T, N) → (∀ w ∈ u_ws C T N, w ∈ AW) → Cond.instantiable C N ∈ AW → ∃ d : ClassId × (Nat → Nat), ∀ q : vw_C, kCl[ci]? = some q → u_Kn s q.1 q.2.1 q.2.2 d.1 d.2 := fun C T N h1 h2 h3 => by
      obtain ⟨c, i, h⟩ := u_known hAW h2 (hAW _ h3)
      refine ⟨(c, i), fun q hq => ?_⟩
      cases h1.symm.trans hq
      exact h
    match ci, one with
    | 0, one => exact one RX1 TX1 4 rfl UWS1 tw_1_47
    | 1, one => exact one RX2 TX2 5 rfl UWS2 tw_2_74
    | 2, one => exact one RX3 TX3 9 rfl UWS3 tw_1_188
    | 3, one => exact one RX4 TX4 13 rfl UWS4 tw_1_53
    | 4, one => exact one RX5 TX5 8 rfl UWS5 tw_2_37
    | 5, one => exact one RX6 TX6 12 rfl UWS6 tw_1_233
    | 6, one => exact one RX7 TX7 9 rfl UWS7 tw_1_40
    | 7, one => exact one RX8 TX8 11 rfl UWS8 tw_1_32
    | 8, one => exact one RX9 TX9 34 rfl UWS9 tw_6_143
    | n + 9, _ => exact ⟨(s.heap.size, fun _ => 0), fun q hq => nomatch (show (none : Option vw_C) = some q from hq)⟩
  obtain ⟨fD, hfD⟩ := Classical.axiomOfChoice hD
  have arr1 : ∀ (cA : ClassId) (kA : Class) (comp : ClassId) (ty : FieldType), s.vm.classes[cA]? = some kA → kA.kind = .array comp ty → ArrOfT s cA ty := fun cA kA comp ty h1 h2 n z => ⟨fun k' q => (by cases q), kA, h1, comp, h2⟩
  have prim : ∀ ty : FieldType, (Cond.arrayClass ty) ∈ AW → (∀ C, ty ≠ .object C) → ∃ cA, ArrOfT s cA ty ∧ va_RA s cA ty := fun ty h hne => by
    obtain ⟨c, k, comp, h1, h2, h3⟩ := Cond.arrayClass_spec (hAW _ h)
    refine ⟨c, arr1 _ _ _ _ h2 h3, ?_⟩
    cases ty <;> first | exact h1 | exact absurd rfl (hne _)
  obtain ⟨g0, a0⟩ := prim .int tw_1_103 (fun _ q => by cases q)
  obtain ⟨g1, a1⟩ := prim .long tw_9_30 (fun _ q => by cases q)
  obtain ⟨g2, a2⟩ := prim .boolean tw_1_104 (fun _ q => by cases q)
  obtain ⟨g3, a3⟩ := prim .char tw_2_71 (fun _ q => by cases q)
  have o4 : va_AOA .int s := hT1 _ tw_1_194
  have o5 : va_AO RX1 s := hT1 _ tw_1_46
  have o6 : va_AO RX2 s := hT1 _ tw_2_73
  have o7 : va_AO RX4 s := hT1 _ tw_2_80
  obtain ⟨g4, a4⟩ : ∃ cA, ArrOfT s cA (.array .int) ∧ va_RA s cA (.array .int) := by
    obtain ⟨comp, c, k, h1, h2, h3, h4, h5⟩ := arrayOverA_spec o4
    exact ⟨c, arr1 _ _ _ _ h3 h4, h5⟩
  have obj : ∀ C : String, va_AO C s → ∃ cA, ArrOfT s cA (.object C) ∧ va_RA s cA (.object C) := fun C h => by
    obtain ⟨comp, c, k, h1, h2, h3, h4, h5⟩ := Cond.arrayOver_spec h
    exact ⟨c, arr1 _ _ _ _ h3 h4, k, comp, h3, h4, h1, h5⟩
  obtain ⟨g5, a5⟩ := obj RX1 o5
  obtain ⟨g6, a6⟩ := obj RX2 o6
  obtain ⟨g7, a7⟩ := obj RX4 o7
  have z1 : vx_Zq Bundle.tN "UNASSIGNED_STACK" Bundle.steD (fun q => s.heap.size ≤ q) s s.heap := vx_Zqof (hT1 _ (ch_3 (List.mem_of_getElem? (i := 113) rfl))) (hAW _ tw_1_12) (hf _ gv_s1) hA
  have z2 : vx_Zq Bundle.tN "SUPPRESSED_SENTINEL" Bundle.listD (fun q => s.heap.size ≤ q) s s.heap := vx_Zqof (hT1 _ (ch_3 (List.mem_of_getElem? (i := 115) rfl))) (hAW _ tw_1_12) (hf _ gv_s2) hA
  obtain ⟨fm, z3⟩ : ∃ fm : Nat, va_Z "jdk/internal/util/Preconditions" "SIOOBE_FORMATTER" "Ljava/util/function/BiFunction;" (if fm = 0 then .null else .ref (fm - 1)) (fun q => s.heap.size ≤ q) s s.heap := by
    have h := va_Zqof (C := "jdk/internal/util/Preconditions") (n := "SIOOBE_FORMATTER") (d := "Ljava/util/function/BiFunction;") (A := fun q => s.heap.size ≤ q) (hT1 _ (ch_4 (List.mem_of_getElem? (i := 200) rfl))) (hAW _ tw_1_23) (hf _ gv_s3) hA
    rcases h with h | ⟨t, h⟩
    · exact ⟨0, h⟩
    · exact ⟨t + 1, h⟩
  have z4 : va_Z "java/lang/String" "COMPACT_STRINGS" "Z" (.int 1) (fun q => s.heap.size ≤ q) s s.heap := by
    have h : (Cond.eq (.static "java/lang/String" "COMPACT_STRINGS" "Z") (.int 1)).before #[Value.ref b] s = true := hf _ gv_s4
    refine va_Zof (hT1 _ (ch_4 (List.mem_of_getElem? (i := 184) rfl))) (hAW _ tw_1_19) ?_ hA
    simp only [Cond.before, Cond.holds, Cond.value, Term.eval] at h ⊢
    split at h <;> simp_all
  obtain ⟨adK, adV, hS, hE⟩ := vk_Sof (args := #[Value.ref b]) (s := s) (N := strN) (tm := tmS) (len := strL) (byt := strB) (A := fun q => s.heap.size ≤ q) (by decide +kernel) (fun i hi => hf _ (gv_ex i hi)) (fun i hi => hf _ (gv_co i hi)) (fun i hi => hf _ (gv_ar i hi)) (fun i hi => hf _ (gv_le i hi)) (fun i hi j hj => hf _ (gv_el i hi j hj)) (fun i j hi hj hij => (gv_ne i hi j hj hij).imp (hf _) (hf _)) hA
  have hQ : ∀ (t1 t2 : Term) (a : Nat), t1.eval #[Value.ref b] s none [] s = some (.ref a) → (Cond.eq t1 t2).before #[Value.ref b] s = true → t2.eval #[Value.ref b] s none [] s = some (.ref a) := fun t1 t2 a h1 h2 => by
    simp only [Cond.before, Cond.holds, Cond.value, h1] at h2
    split at h2 <;> simp_all
  refine ⟨((fun c => (fD c).1, fun c => (fD c).2), (fun k => match k with | 0 => g0 | 1 => g1 | 2 => g2 | 3 => g3 | 4 => g4 | 5 => g5 | 6 => g6 | _ => g7), s.heap.size, adK, adV, b, L, xs, fm), rfl, rfl, rfl, rfl, ⟨⟨fun c q hq => hfD c q hq, ?_⟩, ⟨fun w hw g => va_Nw.of (by cases w <;> first | rfl | cases g) (hT1 w hw), ⟨o5, o6, o7, o4⟩, fun a ha c hc hac => va_Nc.of (hf _ (gv_ca a ha c hc hac))⟩, ?_⟩, ⟨z1, z2, z3⟩, ⟨hX, hb⟩, hS, z4, Nat.le_refl _⟩
  · intro k q hq
    match k, hq with
    | 0, hq => cases hq; exact a0
    | 1, hq => cases hq; exact a1
    | 2, hq => cases hq; exact a2
    | 3, hq => cases hq; exact a3
    | 4, hq => cases hq; exact a4
    | 5, hq => cases hq; exact a5
    | 6, hq => cases hq; exact a6
    | 7, hq => cases hq; exact a7
    | n + 8, hq => exact nomatch (show (none : Option (ClassId × FieldType)) = some q from hq)
  · exact (List.forall_mem_cons.mpr ⟨vk_R.of (hT1 _ (ch_5 (List.mem_of_getElem? (i := 21) rfl))) (hE 0 (by decide)), (List.forall_mem_cons.mpr ⟨vk_R.of (hT1 _ (ch_5 (List.mem_of_getElem? (i := 22) rfl))) (hE 1 (by decide)), (List.forall_mem_cons.mpr ⟨vk_R.of (hT1 _ (ch_5 (List.mem_of_getElem? (i := 23) rfl))) (hE 2 (by decide)), (List.forall_mem_cons.mpr ⟨vk_R.of (hT1 _ (ch_4 (List.mem_of_getElem? (i := 170) rfl))) (hE 3 (by decide)), (List.forall_mem_cons.mpr ⟨vk_R.of (hT1 _ (ch_5 (List.mem_of_getElem? (i := 10) rfl))) (hE 4 (by decide)), (List.forall_mem_cons.mpr ⟨vk_R.of (hT1 _ (ch_5 (List.mem_of_getElem? (i := 11) rfl))) (hE 5 (by decide)), (List.forall_mem_cons.mpr ⟨vk_R.of (hT1 _ (ch_5 (List.mem_of_getElem? (i := 12) rfl))) (hE 6 (by decide)), (List.forall_mem_cons.mpr ⟨vk_R.of (hT1 _ (ch_5 (List.mem_of_getElem? (i := 25) rfl))) (hE 7 (by decide)), (List.forall_mem_cons.mpr ⟨vk_R.of (hT1 _ (ch_5 (List.mem_of_getElem? (i := 34) rfl))) (hE 8 (by decide)), (List.forall_mem_cons.mpr ⟨vk_R.of (hT1 _ (ch_5 (List.mem_of_getElem? (i := 71) rfl))) (hE 9 (by decide)), (List.forall_mem_cons.mpr ⟨vk_R.of (hT1 _ (ch_7 (List.mem_of_getElem? (i := 177) rfl))) (hQ (tmS 0) (.string RX9 191) _ (hE 0 (by decide)) (hf _ gv_q0)), (List.forall_mem_cons.mpr ⟨vk_R.of (hT1 _ (ch_7 (List.mem_of_getElem? (i := 178) rfl))) (hQ (tmS 1) (.string RX9 197) _ (hE 1 (by decide)) (hf _ gv_q1)), (List.forall_mem_cons.mpr ⟨vk_R.of (hT1 _ (ch_7 (List.mem_of_getElem? (i := 179) rfl))) (hQ (tmS 2) (.string RX9 199) _ (hE 2 (by decide)) (hf _ gv_q2)), (List.forall_mem_cons.mpr ⟨vk_R.of (hT1 _ (ch_7 (List.mem_of_getElem? (i := 198) rfl))) (hE 10 (by decide)), (List.forall_mem_cons.mpr ⟨vk_R.of (hT1 _ (ch_7 (List.mem_of_getElem? (i := 211) rfl))) (hE 11 (by decide)), (List.forall_mem_cons.mpr ⟨vk_R.of (hT1 _ (ch_7 (List.mem_of_getElem? (i := 144) rfl))) (hQ (tmS 3) (.string RX9 220) _ (hE 3 (by decide)) (hf _ gv_q3)), (List.forall_mem_cons.mpr ⟨vk_R.of (hT1 _ (ch_7 (List.mem_of_getElem? (i := 166) rfl))) (hQ (tmS 4) (.string RX9 225) _ (hE 4 (by decide)) (hf _ gv_q4)), (List.forall_mem_cons.mpr ⟨vk_R.of (hT1 _ (ch_7 (List.mem_of_getElem? (i := 167) rfl))) (hQ (tmS 5) (.string RX9 227) _ (hE 5 (by decide)) (hf _ gv_q5)), (List.forall_mem_cons.mpr ⟨vk_R.of (hT1 _ (ch_7 (List.mem_of_getElem? (i := 168) rfl))) (hQ (tmS 6) (.string RX9 229) _ (hE 6 (by decide)) (hf _ gv_q6)), (List.forall_mem_cons.mpr ⟨vk_R.of (hT1 _ (ch_7 (List.mem_of_getElem? (i := 180) rfl))) (hQ (tmS 7) (.string RX9 234) _ (hE 7 (by decide)) (hf _ gv_q7)), (List.forall_mem_cons.mpr ⟨vk_R.of (hT1 _ (ch_7 (List.mem_of_getElem? (i := 189) rfl))) (hQ (tmS 8) (.string RX9 239) _ (hE 8 (by decide)) (hf _ gv_q8)), (List.forall_mem_cons.mpr ⟨vk_R.of (hT1 _ (ch_7 (List.mem_of_getElem? (i := 212) rfl))) (hQ (tmS 9) (.string RX9 244) _ (hE 9 (by decide)) (hf _ gv_q9)), (fun _ h => absurd h List.not_mem_nil)⟩)⟩)⟩)⟩)⟩)⟩)⟩)⟩)⟩)⟩)⟩)⟩)⟩)⟩)⟩)⟩)⟩)⟩)⟩)⟩)⟩)⟩)
