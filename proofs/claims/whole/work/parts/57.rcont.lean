/-! ===== STAGE B: blocks; the reference's content ===== -/
abbrev bN (p : Prop) [Decidable p] : Int32 := if p then iN 1 else iN 0
theorem bN0 {p : Prop} [Decidable p] : bN p = 0 ↔ ¬ p := by
  unfold bN
  by_cases h : p
  · rw [if_pos h]; exact ⟨fun z => absurd z (by decide), fun z => absurd h z⟩
  · rw [if_neg h]; exact ⟨fun _ => h, fun _ => rfl⟩
theorem bN01 {p : Prop} [Decidable p] : bN p = 0 ∨ bN p = 1 := by
  unfold bN
  by_cases h : p
  · rw [if_pos h]; exact Or.inr rfl
  · rw [if_neg h]; exact Or.inl rfl
/-- numbers, with ranges as plain premises -/
theorem iN_leO {a b : Int} (h1 : -2147483648 ≤ a) (h2 : a < 2147483648) (h3 : -2147483648 ≤ b) (h4 : b < 2147483648) : iN a ≤ iN b ↔ a ≤ b := iN_le ⟨h1, h2⟩ ⟨h3, h4⟩
theorem iN_ltO {a b : Int} (h1 : -2147483648 ≤ a) (h2 : a < 2147483648) (h3 : -2147483648 ≤ b) (h4 : b < 2147483648) : iN a < iN b ↔ a < b := iN_lt ⟨h1, h2⟩ ⟨h3, h4⟩
theorem iN_eqO {a b : Int} (h1 : -2147483648 ≤ a) (h2 : a < 2147483648) (h3 : -2147483648 ≤ b) (h4 : b < 2147483648) : iN a = iN b ↔ a = b := iN_eq ⟨h1, h2⟩ ⟨h3, h4⟩
theorem iN_eq0 {a : Int} (h1 : -2147483648 ≤ a) (h2 : a < 2147483648) : iN a = 0 ↔ a = 0 := by
  rw [iN_zero]; exact iN_eqO h1 h2 (by omega) (by omega)
theorem iN_eq1 {a : Int} (h1 : -2147483648 ≤ a) (h2 : a < 2147483648) : iN a = 1 ↔ a = 1 := by
  rw [show (1 : Int32) = iN 1 from rfl]; exact iN_eqO h1 h2 (by omega) (by omega)
theorem iN_le0 {a : Int} (h1 : -2147483648 ≤ a) (h2 : a < 2147483648) : iN a ≤ 0 ↔ a ≤ 0 := by
  rw [iN_zero]; exact iN_leO h1 h2 (by omega) (by omega)
theorem iN_lt0 {a : Int} (h1 : -2147483648 ≤ a) (h2 : a < 2147483648) : iN a < 0 ↔ a < 0 := by
  rw [iN_zero]; exact iN_ltO h1 h2 (by omega) (by omega)
theorem iN_0lt {a : Int} (h1 : -2147483648 ≤ a) (h2 : a < 2147483648) : 0 < iN a ↔ 0 < a := by
  rw [iN_zero]; exact iN_ltO (by omega) (by omega) h1 h2
theorem ck_in {α : Type} {z : Int} {n : Nat} {x : Option α} (h0 : 0 ≤ z) (h : z < n) (hn : n < 2147483648) : chk (vp_in (iN z) n) x = x := chk_pos (vp_inN h0 h hn)
theorem ck_b {α : Type} {p : Prop} [Decidable p] {x : Option α} : chk (bN p = 0 ∨ bN p = 1) x = x := chk_pos bN01
/-- a row of an array as a function -/
def up (f : Int → Int) (k v : Int) : Int → Int := fun j => if j = k then v else f j
theorem up_eq {f : Int → Int} {k v : Int} : up f k v k = v := if_pos rfl
theorem up_ne {f : Int → Int} {k v j : Int} (h : j ≠ k) : up f k v j = f j := if_neg h
def AR (h : Hp) (a : Nat) (n : Int) (f : Int → Int) : Prop := ∀ k : Int, 0 ≤ k → k < n → qI h a k.toNat = iN (f k)
theorem AR.put {h : Hp} {a : Nat} {n : Int} {f : Int → Int} (A : AR h a n f) {k v : Int} (hk : 0 ≤ k) : AR (putI h a k.toNat (iN v)) a n (up f k v) := by
  intro j hj hj2
  rw [qI_pI]
  unfold up
  by_cases e : j = k
  · rw [if_pos ⟨rfl, by rw [e]⟩, if_pos e]
  · rw [if_neg (fun q => e (by have := q.2; omega)), if_neg e]; exact A j hj hj2
theorem AR.ne {h : Hp} {a b k : Nat} {n : Int} {v : Int32} {f : Int → Int} (A : AR h b n f) (hab : b ≠ a) : AR (putI h a k v) b n f := fun j h1 h2 => by
  rw [qI_pI, if_neg (fun q => hab q.1)]; exact A j h1 h2
theorem AR.fz {P : Nat → Nat → Prop} {h h' : Hp} {a : Nat} {n : Int} {f : Int → Int} (A : AR h a n f) (F : FZ P h h') (hp : ∀ j, ¬ P a j) : AR h' a n f := fun k h1 h2 => (F.2 a _ (hp _)).trans (A k h1 h2)
theorem AR.cg {h : Hp} {a : Nat} {n : Int} {f g : Int → Int} (A : AR h a n f) (e : ∀ k, 0 ≤ k → k < n → f k = g k) : AR h a n g := fun k h1 h2 => by rw [← e k h1 h2]; exact A k h1 h2
theorem AR.sh {h : Hp} {a : Nat} {n n2 : Int} {f : Int → Int} (A : AR h a n f) (e : n2 ≤ n) : AR h a n2 f := fun k h1 h2 => A k h1 (by omega)
/-- the reference's table is m -/
def RM (h : Hp) (M : Nat) (m : Int → Int) : Prop := LM h M ∧ AR h (M + 1) 506 m
theorem RM.b {h h2 : Hp} {M : Nat} {m : Int → Int} (r : RM h M m) (F : FZ (pB M) h h2) : RM h2 M m := ⟨r.1.ly F.1, r.2.fz F (fun j z => by unfold pB at z; omega)⟩
def blk (m : Int → Int) (i : Int) : Int → Int := fun k => m (10 + 31 * i + k)
def wsB (b : Int → Int) : List (Int × Int) := (List.range (b 4).toNat).map (fun k : Nat => (b (7 + (k : Int)), b (19 + (k : Int))))
def psB (b : Int → Int) : List (Int × Int) := S_pcs (b 3) (wsB b) 0
def WB (b : Int → Int) : Prop := (0 ≤ b 3 ∧ b 3 ≤ 5) ∧ (0 ≤ b 4 ∧ b 4 ≤ 12) ∧ (1 ≤ b 5 ∧ b 5 ≤ 20) ∧ (1 ≤ b 6 ∧ b 6 ≤ 20) ∧ (∀ k, 0 ≤ k → k < b 4 → (1 ≤ b (7 + k) ∧ b (7 + k) ≤ 12) ∧ 0 ≤ b (19 + k) ∧ b (19 + k) ≤ 3) ∧ (4 ≤ b 3 → b 4 = 0) ∧ (b 3 ≤ 3 → b 5 = 1 ∧ b 6 = 1)
theorem wsB_len {b : Int → Int} : (wsB b).length = (b 4).toNat := by
  unfold wsB
  rw [List.length_map, List.length_range]
theorem wsB_at {b : Int → Int} {k : Nat} (h : k < (b 4).toNat) : (wsB b)[k]? = some (b (7 + (k : Int)), b (19 + (k : Int))) := by
  unfold wsB
  rw [List.getElem?_map, List.getElem?_range h]
  rfl
theorem wsB_get {b : Int → Int} {k : Nat} {p : Int × Int} (h : (wsB b)[k]? = some p) : k < (b 4).toNat ∧ p = (b (7 + (k : Int)), b (19 + (k : Int))) := by
  have h1 := (List.getElem?_eq_some_iff.mp h).1
  rw [wsB_len] at h1
  rw [wsB_at h1] at h
  exact ⟨h1, (Option.some.inj h).symm⟩
theorem wsB_ok {b : Int → Int} (w : WB b) : ∀ x ∈ wsB b, (1 ≤ x.1 ∧ x.1 ≤ 12) ∧ 0 ≤ x.2 ∧ x.2 ≤ 3 := by
  intro x hx
  obtain ⟨k, hk⟩ := List.mem_iff_getElem?.mp hx
  obtain ⟨h1, rfl⟩ := wsB_get hk
  exact w.2.2.2.2.1 k (by omega) (by omega)
def PO (ps : List (Int × Int)) : Prop := (∀ p ∈ ps, (1 ≤ p.1 ∧ p.1 ≤ 156) ∧ 0 ≤ p.2 ∧ p.2 ≤ 3) ∧ ps.length ≤ 12 ∧ (pcAt ps (ps.length - 1)).2 = 1
theorem S_pcs_ok {kd : Int} : ∀ (ws : List (Int × Int)) (acc : Int), (∀ x ∈ ws, (1 ≤ x.1 ∧ x.1 ≤ 12) ∧ 0 ≤ x.2 ∧ x.2 ≤ 3) → 0 ≤ acc → (∀ p ∈ S_pcs kd ws acc, (1 ≤ p.1 ∧ p.1 ≤ acc + 13 * ws.length) ∧ 0 ≤ p.2 ∧ p.2 ≤ 3) ∧ (S_pcs kd ws acc).length ≤ ws.length ∧ (S_pcs kd ws acc).getLast?.all (fun p => p.2 = 1) = true
  | [], acc, h, ha => by
    refine ⟨fun p hp => (by cases hp), Nat.le_refl _, rfl⟩
  | (l, b) :: r, acc, h, ha => by
    obtain ⟨⟨l1, l2⟩, b1, b2⟩ := h (l, b) (List.mem_cons_self ..)
    simp only at l1 l2 b1 b2
    have hr : ∀ x ∈ r, (1 ≤ x.1 ∧ x.1 ≤ 12) ∧ 0 ≤ x.2 ∧ x.2 ≤ 3 := fun x hx => h x (List.mem_cons_of_mem _ hx)
    rw [S_pcs]
    have hcl : ((((l, b) :: r).length : Nat) : Int) = r.length + 1 := by rw [List.length_cons]; rfl
    rw [hcl]
    by_cases h0 : r = []
    · subst h0
      rw [if_pos rfl]
      refine ⟨fun p hp => ?_, by simp, rfl⟩
      rw [List.mem_singleton] at hp
      subst hp
      simp only [List.length_nil]
      omega
    · rw [if_neg h0]
      have hne : ∀ a, S_pcs kd r a ≠ [] := by
        intro a
        cases r with
        | nil => exact absurd rfl h0
        | cons y t =>
          obtain ⟨y1, y2⟩ := y
          have : ∀ (t : List (Int × Int)) (y1 y2 a : Int), S_pcs kd ((y1, y2) :: t) a ≠ [] := by
            intro t
            induction t with
            | nil => intro y1 y2 a z; rw [S_pcs, if_pos rfl] at z; cases z
            | cons u t iht =>
              intro y1 y2 a z
              rw [S_pcs, if_neg (by simp)] at z
              split at z
              · exact iht u.1 u.2 _ z
              · cases z
          exact this t y1 y2 a
      by_cases hj : b = 2 ∨ kd = 3 ∧ b ≠ 1
      · rw [if_pos hj]
        obtain ⟨i1, i2, i3⟩ := S_pcs_ok (kd := kd) r (acc + l + (if b = 3 then 0 else 1)) hr (by split <;> omega)
        refine ⟨fun p hp => ?_, by rw [List.length_cons]; omega, i3⟩
        have := i1 p hp
        split at this <;> omega
      · rw [if_neg hj]
        obtain ⟨i1, i2, i3⟩ := S_pcs_ok (kd := kd) r 0 hr (by omega)
        refine ⟨fun p hp => ?_, by rw [List.length_cons, List.length_cons]; omega, ?_⟩
        · rcases List.mem_cons.mp hp with rfl | hp
          · simp only; omega
          · have := i1 p hp
            omega
        · rw [List.getLast?_cons_of_ne_nil (hne 0)]
          exact i3
theorem psB_ok {b : Int → Int} (w : WB b) : PO (psB b) := by
  obtain ⟨h1, h2, h3⟩ := S_pcs_ok (kd := b 3) (wsB b) 0 (wsB_ok w) (by omega)
  have hl : (wsB b).length ≤ 12 := by rw [wsB_len]; have := w.2.1; omega
  refine ⟨fun p hp => ?_, Nat.le_trans h2 hl, ?_⟩
  · have := h1 p hp
    omega
  · unfold psB
    generalize S_pcs (b 3) (wsB b) 0 = ps at h3 ⊢
    cases e : ps.getLast? with
    | none =>
      rw [List.getLast?_eq_none_iff] at e
      subst e
      rfl
    | some x =>
      rw [e] at h3
      have hx : x.2 = 1 := by simpa using h3
      rw [List.getLast?_eq_getElem?] at e
      unfold pcAt
      rw [List.getD_eq_getElem?_getD, e]
      exact hx
theorem PO.h2 {ps : List (Int × Int)} (w : PO ps) : ∀ p ∈ ps, (0 ≤ p.1 ∧ p.1 ≤ 200) ∧ 0 ≤ p.2 ∧ p.2 ≤ 3 := fun p hp => by have := w.1 p hp; omega
theorem WB.ws2 {b : Int → Int} (w : WB b) : ∀ x ∈ wsB b, 0 ≤ x.2 ∧ x.2 ≤ 3 := fun x hx => (wsB_ok w x hx).2
theorem WB.wl {b : Int → Int} (w : WB b) : (wsB b).length ≤ 12 := by rw [wsB_len]; have := w.2.1; omega
theorem RM.rw {h : Hp} {M : Nat} {m : Int → Int} {i : Int} (r : RM h M m) (hi : 0 ≤ i ∧ i < 16) (w : WB (blk m i)) : RW h M i (blk m i 3) (wsB (blk m i)) := by
  have A := r.2
  refine ⟨A (10 + 31 * i + 3) (by omega) (by omega), ?_, fun k p hk => ?_⟩
  · rw [wsB_len, A (10 + 31 * i + 4) (by omega) (by omega)]
    have := w.2.1
    show iN (blk m i 4) = _
    congr 1
    omega
  · obtain ⟨k1, rfl⟩ := wsB_get hk
    have := w.2.1
    exact ⟨A (10 + 31 * i + (7 + k)) (by omega) (by omega), A (10 + 31 * i + (19 + k)) (by omega) (by omega)⟩
theorem g_ofA {h : Hp} {M : Nat} {m : Int → Int} (r : RM h M m) {i w : Int} (hi : 0 ≤ i ∧ i < 16) (hw : 0 ≤ w ∧ w < 31) : f_X9_of h M (iN i) (iN w) = some (h, .inr (iN (blk m i w))) := by
  rw [g_of r.1 hi hw, r.2 _ (by omega) (by omega)]
  rfl
theorem g_greater {h : Hp} {a b : Int} (ha : InR a) (hb : InR b) : f_X9_greater h (iN a) (iN b) = some (h, .inr (iN (max a b))) := by
  unfold f_X9_greater
  by_cases hh : a ≤ b
  · rw [if_pos ((iN_le ha hb).mpr hh), Int.max_eq_right hh]
  · rw [if_neg (fun z => hh ((iN_le ha hb).mp z)), Int.max_eq_left (by omega)]
theorem g_in {h : Hp} {a b c : Int} (ha : InR a) (hb : InR b) (hc : InR c) : f_X9_in h (iN a) (iN b) (iN c) = some (h, .inr (bN (b ≤ a ∧ a ≤ c))) := by
  unfold f_X9_in
  by_cases h1 : a < b
  · rw [if_pos ((iN_lt ha hb).mpr h1)]
    unfold bN
    rw [if_neg (by omega)]
  · rw [if_neg (fun z => h1 ((iN_lt ha hb).mp z))]
    by_cases h2 : c < a
    · rw [if_pos ((iN_lt hc ha).mpr h2)]
      unfold bN
      rw [if_neg (by omega)]
    · rw [if_neg (fun z => h2 ((iN_lt hc ha).mp z))]
      unfold bN
      rw [if_pos (by omega)]
theorem g_isText9 {h : Hp} {M : Nat} {m : Int → Int} (r : RM h M m) {i : Int} (hi : 0 ≤ i ∧ i < 16) (w : WB (blk m i)) : f_X9_isText h M (iN i) = some (h, .inr (bN (blk m i 3 ≤ 3))) := by
  have := w.1
  unfold f_X9_isText bN
  rw [chk_pos r.1.1, g_ofA r hi (by omega), bnd_ret]
  by_cases h3 : blk m i 3 ≤ 3
  · rw [if_neg (fun z => by have := (iN_leO (by omega) (by omega) (by omega) (by omega)).mp z; omega), if_pos h3]
  · rw [if_pos ((iN_leO (by omega) (by omega) (by omega) (by omega)).mpr (by omega)), if_neg h3]
