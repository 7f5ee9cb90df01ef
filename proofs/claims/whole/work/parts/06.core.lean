/-! ===== THE ABSTRACT HEAP: cells 1..qN; a tag, a length, int, long and reference contents; how many cells and slots were made ===== -/
abbrev Hp : Type := Nat × (Nat → Nat) × (Nat → Nat) × (Nat → Nat → Int32) × (Nat → Nat → Int64) × (Nat → Nat → Nat) × Nat × Nat
def qN (h : Hp) : Nat := h.1
def qT (h : Hp) : Nat → Nat := h.2.1
def qW (h : Hp) : Nat → Nat := h.2.2.1
def qI (h : Hp) : Nat → Nat → Int32 := h.2.2.2.1
def qL (h : Hp) : Nat → Nat → Int64 := h.2.2.2.2.1
def qR (h : Hp) : Nat → Nat → Nat := h.2.2.2.2.2.1
def qC (h : Hp) : Nat := h.2.2.2.2.2.2.1
def qS (h : Hp) : Nat := h.2.2.2.2.2.2.2
def putI (h : Hp) (a k : Nat) (v : Int32) : Hp := (qN h, qT h, qW h, fun x j => if x = a ∧ j = k then v else qI h x j, qL h, qR h, qC h, qS h)
def putL (h : Hp) (a k : Nat) (v : Int64) : Hp := (qN h, qT h, qW h, qI h, fun x j => if x = a ∧ j = k then v else qL h x j, qR h, qC h, qS h)
def putR (h : Hp) (a k : Nat) (v : Nat) : Hp := (qN h, qT h, qW h, qI h, qL h, fun x j => if x = a ∧ j = k then v else qR h x j, qC h, qS h)
/-- a new cell: its tag, its length, and how many slots it takes -/
def newO (h : Hp) (t w n : Nat) : Hp := (qN h + 1, fun x => if x = qN h + 1 then t else qT h x, fun x => if x = qN h + 1 then w else qW h x, fun x j => if x = qN h + 1 then 0 else qI h x j, fun x j => if x = qN h + 1 then 0 else qL h x j, fun x j => if x = qN h + 1 then 0 else qR h x j, qC h + 1, qS h + n)
/-- a new array of n arrays of k places each -/
def newB (h : Hp) (t t2 n k : Nat) : Hp := (qN h + 1 + n, fun x => if x = qN h + 1 then t else if qN h + 1 < x ∧ x ≤ qN h + 1 + n then t2 else qT h x, fun x => if x = qN h + 1 then n else if qN h + 1 < x ∧ x ≤ qN h + 1 + n then k else qW h x, fun x j => if qN h < x ∧ x ≤ qN h + 1 + n then 0 else qI h x j, qL h, fun x j => if x = qN h + 1 then (if j < n then qN h + 2 + j else 0) else if qN h + 1 < x ∧ x ≤ qN h + 1 + n then 0 else qR h x j, qC h + 1 + n, qS h + n + n * k)
/-- an exception was made -/
def bump (h : Hp) : Hp := (qN h, qT h, qW h, qI h, qL h, qR h, qC h + 1, qS h + 6)
/-- a is a cell of that tag -/
def okr (h : Hp) (a t : Nat) : Prop := (1 ≤ a ∧ a ≤ qN h) ∧ qT h a = t
/-- the classes whose objects the heap holds; a tag is a place here and one, or 20 and an array's kind -/
abbrev kCl : List vw_C := [(RX1, TX1, 4), (RX2, TX2, 5), (RX3, TX3, 9), (RX4, TX4, 13), (RX5, TX5, 8), (RX6, TX6, 12), (RX7, TX7, 9), (RX8, TX8, 11), (RX9, TX9, 34)]
def kTy (ci k : Nat) : FieldType := match ci with
  | 0 => tyX1 k | 1 => tyX2 k | 2 => tyX3 k | 3 => tyX4 k | 4 => tyX5 k | 5 => tyX6 k | 6 => tyX7 k | 7 => tyX8 k | _ => tyX9 k
def kNn (ci : Nat) : Nat := match kCl[ci]? with
  | some q => q.2.2
  | none => 0
def isRt (t : FieldType) : Bool := match t with
  | .object _ => true
  | .array _ => true
  | _ => false
def rv (σ : Nat → Nat) (r : Nat) : Value := if r = 0 then .null else .ref (σ r)
def ro (σ : Nat → Nat) (r : Nat) : Option Nat := if r = 0 then none else some (σ r)
def fdv (σ : Nat → Nat) (h : Hp) (a ci k : Nat) : Value := if isRt (kTy ci k) then rv σ (qR h a k) else .int (qI h a k)
def flds (σ : Nat → Nat) (h : Hp) (a ci : Nat) : List Value := (List.range (kNn ci)).map (fdv σ h a ci)
def kE (G : Nat → ClassId) (σ : Nat → Nat) (h : Hp) (a : Nat) : va_E :=
  if qT h a = 20 then .inl (G 0, qW h a, .inl (fun j => qI h a j))
  else if qT h a = 21 then .inl (G 1, qW h a, .inr (.inl (fun j => qL h a j)))
  else if qT h a = 22 then .inl (G 2, qW h a, .inl (fun j => qI h a j))
  else if qT h a = 23 then .inl (G 3, qW h a, .inl (fun j => qI h a j))
  else if 23 < qT h a then .inl (G (qT h a - 20), qW h a, .inr (.inr (.inr (.inr (fun j => ro σ (qR h a j))))))
  else .inr (qT h a - 1, flds σ h a (qT h a - 1))
abbrev aTy : List FieldType := [.int, .long, .boolean, .char, .array .int, .object RX1, .object RX2, .object RX4]
def tysG (G : Nat → ClassId) : List (ClassId × FieldType) := [(G 0, .int), (G 1, .long), (G 2, .boolean), (G 3, .char), (G 4, .array .int), (G 5, .object RX1), (G 6, .object RX2), (G 7, .object RX4)]
def kW (G : Nat → ClassId) (σ : Nat → Nat) (h : Hp) : va_W := (List.range (qN h)).map (fun k => (σ (k + 1), kE G σ h (k + 1)))
theorem kW_get {G : Nat → ClassId} {σ : Nat → Nat} {h : Hp} {a : Nat} (ha : 1 ≤ a ∧ a ≤ qN h) : (kW G σ h)[a - 1]? = some (σ a, kE G σ h a) := by
  unfold kW
  rw [List.getElem?_map, List.getElem?_range (by omega)]
  simp [show a - 1 + 1 = a by omega]
theorem kW_len {G : Nat → ClassId} {σ : Nat → Nat} {h : Hp} : (kW G σ h).length = qN h := by simp [kW]
/-- one cell changed -/
theorem kW_set {G : Nat → ClassId} {σ : Nat → Nat} {h h' : Hp} {a : Nat} (hn : qN h' = qN h) (ha : 1 ≤ a ∧ a ≤ qN h) (ho : ∀ x, x ≠ a → kE G σ h' x = kE G σ h x) : (kW G σ h).set (a - 1) (σ a, kE G σ h' a) = kW G σ h' := by
  apply List.ext_getElem?
  intro j
  by_cases hj : j = a - 1
  · subst hj
    rw [List.getElem?_set_self (by rw [kW_len]; omega), kW_get (by rw [hn]; exact ha)]
  · rw [List.getElem?_set_ne (Ne.symm hj)]
    unfold kW
    rw [List.getElem?_map, List.getElem?_map, hn]
    by_cases hl : j < qN h
    · rw [List.getElem?_range hl]
      simp only [Option.map_some]
      rw [ho (j + 1) (by omega)]
    · rw [List.getElem?_eq_none (by rw [List.length_range]; omega)]
      rfl
/-- one cell more -/
theorem kW_push {G : Nat → ClassId} {σ σ' : Nat → Nat} {h h' : Hp} {q : Nat} {e : va_E} (hn : qN h' = qN h + 1) (hs : ∀ x, x ≤ qN h → σ' x = σ x) (ho : ∀ x, x ≤ qN h → kE G σ' h' x = kE G σ h x) (hq : σ' (qN h + 1) = q) (he : kE G σ' h' (qN h + 1) = e) : kW G σ h ++ [(q, e)] = kW G σ' h' := by
  unfold kW
  rw [hn, List.range_succ, List.map_append]
  congr 1
  · apply List.map_congr_left
    intro k hk
    have := List.mem_range.mp hk
    rw [hs (k + 1) (by omega), ho (k + 1) (by omega)]
  · simp only [List.map_cons, List.map_nil]
    rw [hq, he]
/-- values: references by their numbers -/
def cv (σ : Nat → Nat) (v : Value) : Value := match v with
  | .ref x => .ref (σ x)
  | v => v
def cvL (σ : Nat → Nat) (l : List (Nat × Value)) : List (Nat × Value) := l.map (fun q => (q.1, cv σ q.2))
theorem cv_cat (σ : Nat → Nat) (v : Value) : (cv σ v).category = v.category := by cases v <;> rfl
/-- what doesn't change: D, G, base, the addresses of the Strings and their rows, the script -/
abbrev Ctx : Type := va_G × (Nat → ClassId) × Nat × (Nat → Nat) × (Nat → Nat) × Nat × Nat × (Nat → Int32) × Nat
def kA (K : Ctx) : Nat → Prop := fun q => K.2.2.1 ≤ q
abbrev kD (K : Ctx) : va_G := K.1
abbrev kG (K : Ctx) : Nat → ClassId := K.2.1

/-! ===== WHAT STAYS: the classes, Throwable's two statics, the script, the String constants ===== -/
abbrev strN : Nat := 12
abbrev strL : List Nat := [3, 3, 4, 5, 3, 3, 3, 3, 4, 3, 4, 4]
abbrev strB : List (List Int32) := [[102, 105, 120], [112, 99, 116], [97, 117, 116, 111], [119, 105, 100, 116, 104], [103, 97, 112], [112, 97, 100], [99, 111, 108], [114, 111, 119], [99, 101, 108, 108], [112, 105, 99], [112, 104, 113, 99], [95, 47, 126, 45]]
abbrev strTab : List (String × Nat × String × Nat) := [(RX5, 107, "fix", 0), (RX5, 109, "pct", 1), (RX5, 111, "auto", 2), (RX5, 49, "width", 3), (RX5, 63, "gap", 4), (RX5, 67, "pad", 5), (RX5, 72, "col", 6), (RX5, 77, "row", 7), (RX5, 83, "cell", 8), (RX5, 88, "pic", 9),
  (RX9, 191, "fix", 0), (RX9, 197, "pct", 1), (RX9, 199, "auto", 2), (RX9, 206, "phqc", 10), (RX9, 218, "_/~-", 11), (RX9, 220, "width", 3), (RX9, 225, "gap", 4), (RX9, 227, "pad", 5), (RX9, 229, "col", 6), (RX9, 234, "row", 7), (RX9, 239, "cell", 8), (RX9, 244, "pic", 9)]
def kb (K : Ctx) : Nat := K.2.2.1
def kK (K : Ctx) : Nat → Nat := K.2.2.2.1
def kV (K : Ctx) : Nat → Nat := K.2.2.2.2.1
def kX (K : Ctx) : Nat := K.2.2.2.2.2.1
def kLn (K : Ctx) : Nat := K.2.2.2.2.2.2.1
def kXs (K : Ctx) : Nat → Int32 := K.2.2.2.2.2.2.2.1
def kF (K : Ctx) : Nat := K.2.2.2.2.2.2.2.2
/-- what the formatter's static holds: null where kF is 0 -/
def fR (K : Ctx) : Value := if kF K = 0 then .null else .ref (kF K - 1)
def fV (K : Ctx) : Value := if kF K = 0 then .null else .ref 4000000
/-- words of the tables that hold on, though no contract carries them -/
def nk (w : Cond) : Bool := match w with
  | .fieldLinkNest .. => true
  | .methodLinkNest .. => true
  | .castable .. => true
  | .declares .. => true
  | _ => false
theorem nk_warm {w : Cond} (g : nk w = true) {s U : State} (hW : s.WarmedH U.vm) (h : va_Nw w s) : va_Nw w U := by
  cases w <;> first | exact va_Nw.warmF hW h | exact va_Nw.warmM hW h | exact va_Nw.warmC hW h | exact va_Nw.warmD hW h | cases g
theorem nk_same {w : Cond} (g : nk w = true) {s U : State} (hv : U.vm = s.vm) (h : va_Nw w s) : va_Nw w U := by
  cases w <;> first | exact va_Nw.same rfl hv.symm h | cases g
theorem va_AOA.moved {t : FieldType} {u U : State} (hvm : u.vm.Alike U.vm) (h : va_AOA t u) : va_AOA t U := by
  obtain ⟨comp, c, k, h1, h2, h3, h4, h5⟩ := arrayOverA_spec h
  obtain ⟨k', hk', he⟩ := hvm.2.2 _ _ h3
  have hi : (U.vm.classes.findIdx? fun (x : Class) => match x.kind with | .array component _ => component == comp | _ => false) = some c := by
    have e1 := va_idx_bare U.vm comp
    have e2 := va_idx_bare u.vm comp
    refine e1.symm.trans ?_
    have e3 : U.vm.bare = u.vm.bare := by first | exact hvm.bare_eq | exact hvm.bare_eq.symm
    rw [e3]
    exact e2.trans h2
  have hkind : k'.kind = .array comp (.array t) := by rw [he]; exact h4
  have f1 : U.vm.findClass (FieldType.array t).toString = some comp := by rw [hvm.findClass]; exact h1
  have f2 : U.vm.findClass ("[" ++ (FieldType.array t).toString) = some c := by rw [hvm.findClass]; exact h5
  unfold va_AOA Cond.before Cond.holds
  simp only [Cond.value]
  rw [f1, Option.bind_some]
  refine (congrArg (fun o : Option Nat => (o.bind (fun c => (U.vm.classes[c]?).map fun (k : Class) => match k.kind with | .array _ ty => decide (ty = FieldType.array t) && decide (U.vm.findClass ("[" ++ (FieldType.array t).toString) = some c) | _ => false) == some true)) hi).trans ?_
  simp [hk', hkind, f2]
abbrev exL : List String := ["java/lang/IllegalStateException", "java/lang/IllegalArgumentException", "java/lang/IndexOutOfBoundsException", "java/lang/ArithmeticException", "java/lang/UnsupportedOperationException", "java/util/NoSuchElementException"]
def Ns (s : State) : Prop := (∀ w ∈ tables_1, nk w = true → va_Nw w s) ∧ (va_AO RX1 s ∧ va_AO RX2 s ∧ va_AO RX4 s ∧ va_AOA .int s) ∧ ∀ a ∈ exL, ∀ b ∈ exL, a ≠ b → va_Nc a b s
theorem Ns.warm {s U : State} (hW : s.WarmedH U.vm) (h : Ns s) : Ns U :=
  ⟨fun w hw g => nk_warm g hW (h.1 w hw g), ⟨h.2.1.1.moved hW.alike, h.2.1.2.1.moved hW.alike, h.2.1.2.2.1.moved hW.alike, h.2.1.2.2.2.moved hW.alike⟩, fun a ha b hb hab => (h.2.2 a ha b hb hab).moved hW.alike⟩
theorem Ns.same {s U : State} (hv : U.vm = s.vm) (h : Ns s) : Ns U := by
  have hW : s.vm.Alike U.vm := by rw [hv]; exact Vm.Alike.refl _
  exact ⟨fun w hw g => nk_same g hv (h.1 w hw g), ⟨h.2.1.1.moved hW, h.2.1.2.1.moved hW, h.2.1.2.2.1.moved hW, h.2.1.2.2.2.moved hW⟩, fun a ha b hb hab => (h.2.2 a ha b hb hab).moved hW⟩
def Bs (K : Ctx) (s : State) (H : Heap) : Prop :=
  (va_K (kD K) kCl (tysG (kG K)) s ∧ Ns s ∧ ∀ q ∈ strTab, vk_R q.1 q.2.1 q.2.2.1 (kK K q.2.2.2) s) ∧
  (vx_Zq Bundle.tN "UNASSIGNED_STACK" Bundle.steD (kA K) s H ∧ vx_Zq Bundle.tN "SUPPRESSED_SENTINEL" Bundle.listD (kA K) s H ∧ va_Z "jdk/internal/util/Preconditions" "SIOOBE_FORMATTER" "Ljava/util/function/BiFunction;" (fR K) (kA K) s H) ∧
  (va_X (kX K) (kLn K) (kXs K) s H ∧ kX K < kb K) ∧ vk_S strN strL strB (kK K) (kV K) (kA K) s H ∧
  va_Z "java/lang/String" "COMPACT_STRINGS" "Z" (.int 1) (kA K) s H ∧ kb K ≤ H.size
theorem Bs.kept {K : Ctx} {s : State} {H H1 : Heap} (h : Bs K s H) (hz : H.size ≤ H1.size) (hq : ∀ a : Nat, a < H.size → ¬ kA K a → H1[a]? = H[a]?) : Bs K s H1 := by
  obtain ⟨h1, ⟨h2, h3, h3b⟩, ⟨h4, h5⟩, h6, h8, h9⟩ := h
  exact ⟨h1, ⟨h2.kept hq, h3.kept hq, h3b.kept hq⟩, ⟨h4.kept (hq _ (by omega) (by unfold kA; exact Nat.not_le.mpr h5)), h5⟩, h6.kept hq, h8.kept hq, by omega⟩
theorem Bs.warm {K : Ctx} {s U : State} {H : Heap} (hW : s.WarmedH U.vm) (h : Bs K s H) : Bs K U H := by
  obtain ⟨⟨h1, h1b, h7⟩, ⟨h2, h3, h3b⟩, ⟨h4, h5⟩, h6, h8, h9⟩ := h
  exact ⟨⟨h1.moved hW.alike, h1b.warm hW, fun q hq => (h7 q hq).warm hW⟩, ⟨h2.moved hW.alike, h3.moved hW.alike, h3b.moved hW.alike⟩, ⟨h4.moved hW.alike, h5⟩, h6.moved hW.alike, h8.moved hW.alike, h9⟩
theorem Bs.same {K : Ctx} {s U : State} {H : Heap} (hv : U.vm = s.vm) (h : Bs K s H) : Bs K U H := by
  have hW : s.vm.Alike U.vm := by rw [hv]; exact Vm.Alike.refl _
  obtain ⟨⟨h1, h1b, h7⟩, ⟨h2, h3, h3b⟩, ⟨h4, h5⟩, h6, h8, h9⟩ := h
  exact ⟨⟨h1.moved hW, h1b.same hv, fun q hq => (h7 q hq).same hv⟩, ⟨h2.moved hW, h3.moved hW, h3b.moved hW⟩, ⟨h4.moved hW, h5⟩, h6.moved hW, h8.moved hW, h9⟩
/-- no reference goes astray -/
def Hw (h : Hp) : Prop := ∀ x j, x ≤ qN h → qR h x j ≤ qN h
/-- the String constants' and the script's addresses -/
def Es (K : Ctx) (σ : Nat → Nat) : Prop := ((∀ j, j < strN → σ (1000000 + j) = kK K j) ∧ (∀ j, j < strN → σ (3000000 + j) = kV K j) ∧ σ 4000000 = kF K - 1) ∧ σ 2000000 = kX K
/-- the heap holds h -/
def Sm (K : Ctx) (σ : Nat → Nat) (h : Hp) (H : Heap) : Prop := (va_P (kD K) kCl (kW (kG K) σ h) H ∧ va_D (kA K) (kW (kG K) σ h)) ∧ qN h < 1000000 ∧ Hw h ∧ Es K σ
/-- σ' goes on from σ -/
def Ex (n : Nat) (σ σ' : Nat → Nat) : Prop := ∀ x, x ≤ n ∨ 1000000 ≤ x → σ' x = σ x
theorem Es.ex {K : Ctx} {n : Nat} {σ σ' : Nat → Nat} (h : Es K σ) (hE : ∀ x, x ≤ n ∨ 1000000 ≤ x → σ' x = σ x) : Es K σ' := ⟨⟨fun j hj => (hE _ (Or.inr (Nat.le_add_right _ _))).trans (h.1.1 j hj), fun j hj => (hE _ (Or.inr (by omega))).trans (h.1.2.1 j hj), (hE _ (Or.inr (by omega))).trans h.1.2.2⟩, (hE _ (Or.inr (by omega))).trans h.2⟩
theorem Ex.rf {n : Nat} {σ : Nat → Nat} : Ex n σ σ := fun _ _ => rfl
theorem Ex.tr {n n1 : Nat} {σ σ1 σ2 : Nat → Nat} (h1 : Ex n σ σ1) (hn : n ≤ n1) (h2 : Ex n1 σ1 σ2) : Ex n σ σ2 := fun x hx => by
  rw [h2 x (by rcases hx with h | h; exact Or.inl (by omega); exact Or.inr h), h1 x hx]
/-- references that are there -/
def okV (n : Nat) (v : Value) : Prop := match v with
  | .ref x => x ≤ n ∨ 1000000 ≤ x
  | _ => True
def Wf (n : Nat) (ls : List (Nat × Value)) (st : List Value) : Prop := (∀ q ∈ ls, okV n q.2) ∧ ∀ v ∈ st, okV n v
theorem cv_ex {n : Nat} {σ σ' : Nat → Nat} (h : Ex n σ σ') {v : Value} (hv : okV n v) : cv σ' v = cv σ v := by
  cases v with
  | ref x => show Value.ref (σ' x) = Value.ref (σ x); rw [h x hv]
  | _ => rfl
theorem cvs_ex {n : Nat} {σ σ' : Nat → Nat} (h : Ex n σ σ') {st : List Value} (hv : ∀ v ∈ st, okV n v) : st.map (cv σ') = st.map (cv σ) := List.map_congr_left fun v hm => cv_ex h (hv v hm)
theorem cvL_ex {n : Nat} {σ σ' : Nat → Nat} (h : Ex n σ σ') {ls : List (Nat × Value)} (hv : ∀ q ∈ ls, okV n q.2) : cvL σ' ls = cvL σ ls := List.map_congr_left fun q hm => by rw [cv_ex h (hv q hm)]
theorem okV.mono {n n1 : Nat} (h : n ≤ n1) {v : Value} (hv : okV n v) : okV n1 v := by
  cases v with
  | ref x => exact hv.elim (fun a => Or.inl (Nat.le_trans a h)) Or.inr
  | _ => trivial
theorem Wf.mono {n n1 : Nat} (h : n ≤ n1) {ls : List (Nat × Value)} {st : List Value} (w : Wf n ls st) : Wf n1 ls st := ⟨fun q hq => (w.1 q hq).mono h, fun v hv => (w.2 v hv).mono h⟩
/-- how a method ended: thrown (the class by its number), or returned -/
abbrev Tg : Type := Hp × (Nat ⊕ Option Value)
def exN (n : Nat) : String := match n with
  | 0 => "java/lang/IllegalStateException" | 1 => "java/lang/IllegalArgumentException" | 2 => "java/lang/IndexOutOfBoundsException"
  | 3 => "java/lang/ArithmeticException" | 4 => "java/lang/UnsupportedOperationException" | _ => "java/util/NoSuchElementException"
def rmD (d mc ms : Nat) : Room := { frames := d, cells := mc, slots := ms, locals := 100 * d }
def PcX (K : Ctx) (σ : Nat → Nat) (h : Hp) (as : List Value) : Array Value → State → Prop := va_Pc (as.map (cv σ)) (fun U => Bs K U U.heap ∧ Sm K σ h U.heap)
def QcX (K : Ctx) (σ : Nat → Nat) (n : Nat) (tg : Tg) : Array Value → State → Outcome → State → Prop := fun _ st o t =>
  (∃ (v : Option Value) (σ' : Nat → Nat), tg.2 = .inr v ∧ o = .returned (v.map (cv σ')) ∧ (∀ x ∈ v, okV (qN tg.1) x) ∧ Ex n σ σ' ∧ Sm K σ' tg.1 t.heap) ∧ va_F (kA K) st t
def XcX (K : Ctx) (σ : Nat → Nat) (n : Nat) (tg : Tg) : String → State → State → Prop := fun E st t =>
  (∃ (k : Nat) (σ' : Nat → Nat), tg.2 = .inl k ∧ E = exN k ∧ Ex n σ σ' ∧ Sm K σ' tg.1 t.heap) ∧ va_F (kA K) st t
/-- method y, with h and these arguments, comes to tg -/
def Ctr (l : Launch) (K : Ctx) (d : Nat) (y : MethodName) (cw : Cond) (as : List Value) (h : Hp) (tg : Tg) : Prop :=
  (qC h ≤ qC tg.1 ∧ qS h ≤ qS tg.1 ∧ qN h ≤ qN tg.1) ∧ ((∀ v ∈ as, okV (qN h) v) → ∀ σ : Nat → Nat, vx_Met l y (cw :: AW) (rmD d (qC tg.1 - qC h) (qS tg.1 - qS h)) (PcX K σ h as) (QcX K σ (qN h) tg) (XcX K σ (qN h) tg) (qC tg.1 - qC h) (qS tg.1 - qS h) (kA K))
theorem PcX.blind {K : Ctx} {σ : Nat → Nat} {h : Hp} {as : List Value} : FrameBlind (PcX K σ h as) := by
  intro a U g mk hq
  obtain ⟨h1, h2, h3⟩ := hq
  have h4 : Bs K (U.calling g mk a) U.heap := Bs.same (s := U) (U := U.calling g mk a) (H := U.heap) rfl h2
  exact ⟨h1, h4, h3⟩
/-- a frame: depth, owner, code, locals, return type, table, is it a constructor -/
abbrev Mi : Type := Nat × String × ByteArray × Nat × Option FieldType × List (Nat × Nat × Nat × Nat) × Bool
abbrev mD (M : Mi) : Nat := M.1
abbrev mO (M : Mi) : String := M.2.1
abbrev mB (M : Mi) : ByteArray := M.2.2.1
abbrev mL (M : Mi) : Nat := M.2.2.2.1
abbrev mR (M : Mi) : Option FieldType := M.2.2.2.2.1
abbrev mH (M : Mi) : List (Nat × Nat × Nat × Nat) := M.2.2.2.2.2.1
abbrev mI (M : Mi) : Bool := M.2.2.2.2.2.2
def Fr (l : Launch) (K : Ctx) (M : Mi) (p : Program) (s : State) (m : MethodId) (args : Array Value) (meth : Method) (c : Code) : Prop :=
  p.tables.exec = Jvm.exec ∧ c.code = mB M ∧ c.maxLocals = mL M ∧ meth.sig.returnType = mR M ∧ meth.locks = false ∧ s.vm.findClass (mO M) = some m.cls ∧ (∀ w ∈ AW, w.before args s = true) ∧ Bs K s s.heap ∧ c.exceptionTable.toList = tableOf (mH M) ∧ (mI M = true → meth.name = "<init>") ∧ l.stackTraces = false
/-- from here the machine comes to tg -/
def X (l : Launch) (K : Ctx) (M : Mi) (tg : Tg) (pc : Nat) (ls : List (Nat × Value)) (st : List Value) (h : Hp) : Prop :=
  (qC h ≤ qC tg.1 ∧ qS h ≤ qS tg.1 ∧ qN h ≤ qN tg.1) ∧
  ∀ (p : Program) (e : Env) (s : State) (m : MethodId) (args : Array Value) (below : List Frame) (meth : Method) (c : Code) (H : Heap) (locs : List Loc) (c0 s0 n0 : Nat) (σ0 σ : Nat → Nat) (la : Array Slot),
    Fr l K M p s m args meth c → c0 ≤ qC h ∧ s0 ≤ qS h ∧ n0 ≤ qN h → Ex n0 σ0 σ → va_S (kA K) s.heap H locs → Sm K σ h H → lv_has la (mL M) (cvL σ ls) → Wf (qN h) ls st →
    W p l e (rmD (mD M) (qC tg.1 - c0) (qS tg.1 - s0)) s m args below meth c H locs (qC h - c0) (qS h - s0) (vx_MQ below (QcX K σ0 n0 tg) (XcX K σ0 n0 tg) args s (qC tg.1 - c0) (qS tg.1 - s0) (kA K)) (F0 m pc la (st.map (cv σ)))
theorem Bs.go {K : Ctx} {s : State} {H : Heap} {locs : List Loc} (h : Bs K s s.heap) (hS : va_S (kA K) s.heap H locs) : Bs K s H := h.kept hS.1 hS.2.1
/-- an instruction that leaves the heap -/
theorem X.same {l : Launch} {K : Ctx} {M : Mi} {tg : Tg} {pc pc' : Nat} {ls ls' : List (Nat × Value)} {st st' : List Value} {h : Hp} (k : X l K M tg pc' ls' st' h) (w : Wf (qN h) ls st → Wf (qN h) ls' st')
    (f : ∀ (p : Program) (e : Env) (R : Room) (s : State) (m : MethodId) (args : Array Value) (below : List Frame) (meth : Method) (c : Code) (H : Heap) (locs : List Loc) (cells slots : Nat) (Q : State → Prop) (σ : Nat → Nat) (la : Array Slot),
      Fr l K M p s m args meth c → va_S (kA K) s.heap H locs → Sm K σ h H → lv_has la (mL M) (cvL σ ls) → R.frames = mD M → R.locals = 100 * mD M →
      (∀ la' : Array Slot, lv_has la' (mL M) (cvL σ ls') → W p l e R s m args below meth c H locs cells slots Q (F0 m pc' la' (st'.map (cv σ)))) →
      W p l e R s m args below meth c H locs cells slots Q (F0 m pc la (st.map (cv σ)))) : X l K M tg pc ls st h := by
  refine ⟨k.1, ?_⟩
  intro p e s m args below meth c H locs c0 s0 n0 σ0 σ la hF h0 hE hS hM hl hw
  exact f p e _ s m args below meth c H locs _ _ _ σ la hF hS hM hl rfl rfl (fun la' hl' => k.2 p e s m args below meth c H locs c0 s0 n0 σ0 σ la' hF h0 hE hS hM hl' (w hw))
/-- an instruction that writes -/
theorem X.upd {l : Launch} {K : Ctx} {M : Mi} {tg : Tg} {pc pc' : Nat} {ls : List (Nat × Value)} {st st' : List Value} {h h' : Hp} (hq : qC h' = qC h ∧ qS h' = qS h ∧ qN h' = qN h) (hz : Hw h → Hw h') (k : X l K M tg pc' ls st' h') (w : Wf (qN h) ls st → Wf (qN h) ls st')
    (f : ∀ (p : Program) (e : Env) (R : Room) (s : State) (m : MethodId) (args : Array Value) (below : List Frame) (meth : Method) (c : Code) (H : Heap) (locs : List Loc) (cells slots : Nat) (Q : State → Prop) (σ : Nat → Nat) (la : Array Slot),
      Fr l K M p s m args meth c → va_S (kA K) s.heap H locs → Sm K σ h H → lv_has la (mL M) (cvL σ ls) →
      (∀ (H1 : Heap) (locs1 : List Loc), va_P (kD K) kCl (kW (kG K) σ h') H1 → va_D (kA K) (kW (kG K) σ h') → va_S (kA K) s.heap H1 locs1 → W p l e R s m args below meth c H1 locs1 cells slots Q (F0 m pc' la (st'.map (cv σ)))) →
      W p l e R s m args below meth c H locs cells slots Q (F0 m pc la (st.map (cv σ)))) : X l K M tg pc ls st h := by
  obtain ⟨q1, q2, q3⟩ := hq
  refine ⟨by rw [← q1, ← q2, ← q3]; exact k.1, ?_⟩
  intro p e s m args below meth c H locs c0 s0 n0 σ0 σ la hF h0 hE hS hM hl hw
  refine f p e _ s m args below meth c H locs _ _ _ σ la hF hS hM hl (fun H1 locs1 hP hD hS1 => ?_)
  have := k.2 p e s m args below meth c H1 locs1 c0 s0 n0 σ0 σ la hF (by rw [q1, q2, q3]; exact h0) hE hS1 ⟨⟨hP, hD⟩, by rw [q3]; exact hM.2.1, hz hM.2.2.1, hM.2.2.2⟩ hl (by rw [q3]; exact w hw)
  rw [q1, q2] at this
  exact this
