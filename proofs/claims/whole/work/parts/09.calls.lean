/-! ===== new cells, ends, throws, calls ===== -/
section XN
variable {l : Launch} {K : Ctx} {M : Mi} {tg : Tg} {pc : Nat} {ls : List (Nat × Value)} {st : List Value} {h : Hp}
theorem kE_ex {G : Nat → ClassId} {n : Nat} {σ σ' : Nat → Nat} {h h' : Hp} {x : Nat} (hE : Ex n σ σ') (hr : ∀ j, qR h x j ≤ n) (hT : qT h' x = qT h x) (hW : qW h' x = qW h x) (hI : ∀ j, qI h' x j = qI h x j) (hL : ∀ j, qL h' x j = qL h x j) (hR : ∀ j, qR h' x j = qR h x j) : kE G σ' h' x = kE G σ h x := by
  have e1 : ∀ j, rv σ' (qR h x j) = rv σ (qR h x j) := fun j => by unfold rv; rw [hE _ (Or.inl (hr j))]
  have e2 : ∀ j, ro σ' (qR h x j) = ro σ (qR h x j) := fun j => by unfold ro; rw [hE _ (Or.inl (hr j))]
  unfold kE flds fdv
  simp only [hT, hW, hI, hL, hR, e1, e2]
def σup (σ : Nat → Nat) (n q : Nat) : Nat → Nat := fun x => if x = n + 1 then q else σ x
theorem Ex.up {n q : Nat} {σ : Nat → Nat} (hn : n + 1 < 1000000) : Ex n σ (σup σ n q) := fun x hx => if_neg (by omega)
theorem kW_new {K : Ctx} {σ : Nat → Nat} {t w n q : Nat} {e : va_E} (hn : qN h + 1 < 1000000) (hw : Hw h) (he : kE (kG K) (σup σ (qN h) q) (newO h t w n) (qN h + 1) = e) : kW (kG K) σ h ++ [(q, e)] = kW (kG K) (σup σ (qN h) q) (newO h t w n) :=
  kW_push rfl (fun x hx => Ex.up hn x (Or.inl hx)) (fun x hx => kE_ex (n := qN h) (Ex.up hn) (fun j => hw x j hx) (if_neg (by omega)) (if_neg (by omega)) (fun _ => if_neg (by omega)) (fun _ => if_neg (by omega)) (fun _ => if_neg (by omega))) (if_pos rfl) he
theorem hw_new {t w n : Nat} (hw : Hw h) : Hw (newO h t w n) := fun x j hx => by
  show (if x = qN h + 1 then 0 else qR h x j) ≤ qN h + 1
  have hx' : x ≤ qN h + 1 := hx
  split
  · omega
  · have := hw x j (by omega); omega
theorem Es.up {K : Ctx} {n q : Nat} {σ : Nat → Nat} (h : Es K σ) (hn : n + 1 < 1000000) : Es K (σup σ n q) := h.ex (Ex.up hn)
/-- a new cell is made -/
theorem X.mk {pc' t w n : Nat} {st' : List Value} (hn : qN h + 1 < 1000000) (k : X l K M tg pc' ls (.ref (qN h + 1) :: st') (newO h t w n)) (wf : Wf (qN h) ls st → Wf (qN h) ls st')
    (f : ∀ (p : Program) (e : Env) (R : Room) (s : State) (m : MethodId) (args : Array Value) (below : List Frame) (meth : Method) (c : Code) (H : Heap) (locs : List Loc) (cells slots : Nat) (Q : State → Prop) (σ : Nat → Nat) (la : Array Slot),
      Fr l K M p s m args meth c → va_S (kA K) s.heap H locs → Sm K σ h H → lv_has la (mL M) (cvL σ ls) → cells + 1 ≤ R.cells → slots + n ≤ R.slots → (∀ q, s.heap.size ≤ q → kA K q) →
      (∀ (q : Nat) (H1 : Heap) (locs1 : List Loc), va_P (kD K) kCl (kW (kG K) (σup σ (qN h) q) (newO h t w n)) H1 → va_D (kA K) (kW (kG K) (σup σ (qN h) q) (newO h t w n)) → va_S (kA K) s.heap H1 locs1 → W p l e R s m args below meth c H1 locs1 (cells + 1) (slots + n) Q (F0 m pc' la (.ref q :: st'.map (cv σ)))) →
      W p l e R s m args below meth c H locs cells slots Q (F0 m pc la (st.map (cv σ)))) : X l K M tg pc ls st h := by
  obtain ⟨b1, b2, b3⟩ := k.1
  have b1' : qC h + 1 ≤ qC tg.1 := b1
  have b2' : qS h + n ≤ qS tg.1 := b2
  have b3' : qN h + 1 ≤ qN tg.1 := b3
  refine ⟨⟨by omega, by omega, by omega⟩, ?_⟩
  intro p e s m args below meth c H locs c0 s0 n0 σ0 σ la hF h0 hE hS hM hl hw
  refine f p e _ s m args below meth c H locs _ _ _ σ la hF hS hM hl (by show _ ≤ qC tg.1 - c0; omega) (by show _ ≤ qS tg.1 - s0; omega) (fun q hq => Nat.le_trans hF.bs.2.2.2.2.2 hq) (fun q H1 locs1 hP hD hS1 => ?_)
  have hE1 : Ex (qN h) σ (σup σ (qN h) q) := Ex.up hn
  have w' := wf hw
  have k9 := k.2 p e s m args below meth c H1 locs1 c0 s0 n0 σ0 (σup σ (qN h) q) la hF ⟨by show c0 ≤ qC h + 1; omega, by show s0 ≤ qS h + n; omega, by show n0 ≤ qN h + 1; omega⟩ (hE.tr h0.2.2 hE1) hS1 ⟨⟨hP, hD⟩, hn, hw_new hM.2.2.1, hM.2.2.2.up hn⟩ (by rw [cvL_ex hE1 hw.1]; exact hl) (wf_val (Or.inl (Nat.le_refl _)) (w'.mono (Nat.le_succ _)))
  have e1 : qC (newO h t w n) - c0 = qC h - c0 + 1 := by show qC h + 1 - c0 = _; omega
  have e2 : qS (newO h t w n) - s0 = qS h - s0 + n := by show qS h + n - s0 = _; omega
  rw [e1, e2, List.map_cons, cvs_ex hE1 w'.2] at k9
  have e3 : cv (σup σ (qN h) q) (.ref (qN h + 1)) = .ref q := by show Value.ref (σup σ (qN h) q (qN h + 1)) = _; rw [show σup σ (qN h) q (qN h + 1) = q from if_pos rfl]
  rw [e3] at k9
  exact k9
theorem kE_newObj {G : Nat → ClassId} {σ : Nat → Nat} {ci n : Nat} (hc : ci < 9) : kE G σ (newO h (ci + 1) 0 n) (qN h + 1) = .inr (ci, (List.range (kNn ci)).map (fun j => if isRt (kTy ci j) then Value.null else .int 0)) := by
  rw [kE_obj (show qT (newO h (ci + 1) 0 n) (qN h + 1) = ci + 1 from if_pos rfl) hc]
  congr 2
  unfold flds
  apply List.map_congr_left
  intro j _
  unfold fdv
  rw [show qR (newO h (ci + 1) 0 n) (qN h + 1) j = 0 from if_pos rfl, show qI (newO h (ci + 1) 0 n) (qN h + 1) j = 0 from if_pos rfl]
  rfl
theorem dv_ok : ∀ ci, ci < 9 → ∀ j, j < kNn ci → defaultValue (kTy ci j) = if isRt (kTy ci j) then Value.null else .int 0 := by decide +kernel
/-- new -/
theorem x_new {i ci : Nat} {C : String} {T : u_T} {N : Nat} (hc : kCl[ci]? = some (C, T, N)) (w1 : Cond.classLink (mO M) i C ∈ AW) (w2 : Cond.instantiable C N ∈ AW) (w3 : Cond.initialized C ∈ AW) (d : decode (mB M) pc = .ok (.new i, 3)) (hn : qN h + 1 < 1000000) (kx : X l K M tg (pc + 3) ls (.ref (qN h + 1) :: st) (newO h (ci + 1) 0 N)) : X l K M tg pc ls st h :=
  X.mk hn kx (fun w => w) fun p e R s m args below meth c H locs cells slots Q σ la F S Hm hl hC hS hA kk => by
    obtain ⟨u1, u2, u3, u4, u5⟩ := kOK ci hc
    refine va_new F.ex F.cc F.ts u1 (kTy ci) u2 F.ow (F.ts _ w1) (F.ts _ w2) (F.ts _ w3) F.bs.K Hm.1.1 Hm.1.2 S hA hc (fs := (List.range (kNn ci)).map (fun j => if isRt (kTy ci j) then Value.null else .int 0)) (fun j hj => ?_) hC hS d (fun q H1 hP hD hS1 => ?_)
    · rw [dv_ok ci u5 j (by omega)]
      simp [vp_V, show j < kNn ci by omega]
    · have e := kW_new (K := K) (σ := σ) (q := q) (t := ci + 1) (w := 0) (n := N) hn Hm.2.2.1 (kE_newObj u5)
      exact kk q H1 locs (e ▸ hP) (e ▸ hD) hS1
theorem tys_find {K : Ctx} {s : State} {H : Heap} (B : Bs K s H) {t : Nat} {ty : FieldType} (h : (tysG (kG K))[t]? = some (kG K t, ty)) : s.vm.findClass ("[" ++ ty.toString) = some (kG K t) := by
  have h2 := (B.K.2 t _ h).2
  cases ty with
  | object C => exact h2.choose_spec.choose_spec.2.2.2
  | _ => exact h2
/-- newarray of ints, longs, booleans, chars -/
theorem x_newa {atype : ArrayType} {ty : FieldType} {t : Nat} {n : Int32} {w : Nat} (hty : newarray.typeOf atype = ty) (ht : (t = 0 ∧ ty = .int) ∨ (t = 1 ∧ ty = .long) ∨ (t = 2 ∧ ty = .boolean) ∨ (t = 3 ∧ ty = .char)) (w1 : Cond.arrayClass ty ∈ AW) (d : decode (mB M) pc = .ok (.newarray atype, 2)) (h0 : ¬ n < 0) (hw : n.toNatClampNeg = w) (hb : w ≤ 10000) (hn : qN h + 1 < 1000000) (kx : X l K M tg (pc + 2) ls (.ref (qN h + 1) :: st) (newO h (20 + t) w w)) : X l K M tg pc ls (.int n :: st) h :=
  X.mk hn kx wf_pop fun p e R s m args below meth c H locs cells slots Q σ la F S Hm hl hC hS hA kk => by
    have hcb : w * componentBytes ty ≤ 536870912 := by
      have : componentBytes ty ≤ 8 := by rcases ht with ⟨-, rfl⟩ | ⟨-, rfl⟩ | ⟨-, rfl⟩ | ⟨-, rfl⟩ <;> decide
      have := Nat.mul_le_mul hb this
      omega
    have hfind : ∀ cA : ClassId, (ArrOfT s cA ty ∧ va_RA s cA ty) → cA = kG K t := fun cA hA9 => by
      have h1 : (tysG (kG K))[t]? = some (kG K t, ty) := by rcases ht with ⟨rfl, rfl⟩ | ⟨rfl, rfl⟩ | ⟨rfl, rfl⟩ | ⟨rfl, rfl⟩ <;> rfl
      have h2 := tys_find F.bs h1
      have h3 : s.vm.findClass ("[" ++ ty.toString) = some cA := by rcases ht with ⟨rfl, rfl⟩ | ⟨rfl, rfl⟩ | ⟨rfl, rfl⟩ | ⟨rfl, rfl⟩ <;> exact hA9.2
      exact Option.some.inj (h3.symm.trans h2)
    have hq := fun (q : Nat) (e : va_E) => kW_new (K := K) (h := h) (σ := σ) (q := q) (t := 20 + t) (w := w) (n := w) (e := e) hn Hm.2.2.1
    have go : ∀ a0 : vp_A, (∀ cA : ClassId, vp_cell cA a0 = arrV cA w (fun _ => defaultValue ty)) → (∀ q, kE (kG K) (σup σ (qN h) q) (newO h (20 + t) w w) (qN h + 1) = .inl (kG K t, a0)) → W p l e R s m args below meth c H locs cells slots Q (F0 m pc la ((Value.int n :: st).map (cv σ))) := fun a0 h1 h2 => by
      refine va_newa F.ex F.cc (atype := atype) (by rw [hty]; exact F.ts _ w1) hty F.bs.K Hm.1.1 Hm.1.2 S hA h1 h0 hw hcb hC hS d (fun q cA H1 hK hP hD hS1 => ?_)
      have hcA := hfind cA (hK.2 (tysG (kG K)).length (cA, ty) (by simp [tysG]))
      subst hcA
      have e9 := hq q _ (h2 q)
      exact kk q H1 locs (e9 ▸ hP) (e9 ▸ hD) hS1
    have eI : (fun j => qI (newO h (20 + t) w w) (qN h + 1) j) = fun _ => 0 := funext fun _ => if_pos rfl
    have eL : (fun j => qL (newO h (20 + t) w w) (qN h + 1) j) = fun _ => 0 := funext fun _ => if_pos rfl
    have eT : qT (newO h (20 + t) w w) (qN h + 1) = 20 + t := if_pos rfl
    have eW : qW (newO h (20 + t) w w) (qN h + 1) = w := if_pos rfl
    rcases ht with ⟨rfl, rfl⟩ | ⟨rfl, rfl⟩ | ⟨rfl, rfl⟩ | ⟨rfl, rfl⟩
    · exact go (w, .inl (fun _ => 0)) (fun _ => rfl) (fun q => by rw [kE_20 eT, eW, eI])
    · exact go (w, .inr (.inl (fun _ => 0))) (fun _ => rfl) (fun q => by rw [kE_21 eT, eW, eL])
    · exact go (w, .inl (fun _ => 0)) (fun _ => rfl) (fun q => by rw [kE_22 eT, eW, eI])
    · exact go (w, .inl (fun _ => 0)) (fun _ => rfl) (fun q => by rw [kE_23 eT, eW, eI])
/-- anewarray of Cells, Clips, Contents -/
theorem x_anew {i t : Nat} {C : String} {n : Int32} {w : Nat} (ht : (t = 1 ∧ C = RX1) ∨ (t = 2 ∧ C = RX2) ∨ (t = 3 ∧ C = RX4)) (w1 : Cond.classLink (mO M) i C ∈ AW) (d : decode (mB M) pc = .ok (.anewarray i, 3)) (h0 : ¬ n < 0) (hw : n.toNatClampNeg = w) (hb : w ≤ 10000) (hn : qN h + 1 < 1000000) (kx : X l K M tg (pc + 3) ls (.ref (qN h + 1) :: st) (newO h (24 + t) w w)) : X l K M tg pc ls (.int n :: st) h :=
  X.mk hn kx wf_pop fun p e R s m args below meth c H locs cells slots Q σ la F S Hm hl hC hS hA kk => by
    have hao : va_AO C s := by
      have h9 := F.bs.1.2.1.2.1
      rcases ht with ⟨-, rfl⟩ | ⟨-, rfl⟩ | ⟨-, rfl⟩
      · exact h9.1
      · exact h9.2.1
      · exact h9.2.2.1
    have h1 : (tysG (kG K))[4 + t]? = some (kG K (4 + t), .object C) := by rcases ht with ⟨rfl, rfl⟩ | ⟨rfl, rfl⟩ | ⟨rfl, rfl⟩ <;> rfl
    refine va_newq F.ex F.cc F.ow (F.ts _ w1) hao F.bs.K Hm.1.1 Hm.1.2 S hA h0 hw (by omega) hC hS d (fun q cA H1 hK hP hD hS1 => ?_)
    have h3 := (hK.2 (tysG (kG K)).length (cA, .object C) (by simp [tysG])).2.choose_spec.choose_spec.2.2.2
    have hcA : cA = kG K (4 + t) := Option.some.inj (h3.symm.trans (tys_find F.bs h1))
    subst hcA
    have eR : (fun j => ro (σup σ (qN h) q) (qR (newO h (24 + t) w w) (qN h + 1) j)) = fun _ => none := funext fun j => by rw [show qR (newO h (24 + t) w w) (qN h + 1) j = 0 from if_pos rfl]; rfl
    have e9 := kW_new (K := K) (h := h) (σ := σ) (q := q) (t := 24 + t) (w := w) (n := w) hn Hm.2.2.1 (kE_24 (show qT (newO h (24 + t) w w) (qN h + 1) = 24 + t from if_pos rfl))
    rw [eR, show qW (newO h (24 + t) w w) (qN h + 1) = w from if_pos rfl] at e9
    exact kk q H1 locs (e9 ▸ hP) (e9 ▸ hD) hS1
end XN
