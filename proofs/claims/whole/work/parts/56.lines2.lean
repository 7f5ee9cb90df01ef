/-! ===== STAGE B: the reference's lines are the class's ===== -/
def FZ (P : Nat → Nat → Prop) (h h' : Hp) : Prop := Ly h h' ∧ ∀ x j, ¬ P x j → qI h' x j = qI h x j
theorem FZ.rf {P : Nat → Nat → Prop} {h : Hp} : FZ P h h := ⟨Ly.rf, fun _ _ _ => rfl⟩
theorem FZ.tr {P : Nat → Nat → Prop} {h h1 h2 : Hp} (a : FZ P h h1) (b : FZ P h1 h2) : FZ P h h2 := ⟨a.1.tr b.1, fun x j z => (b.2 x j z).trans (a.2 x j z)⟩
theorem FZ.mo {P Q : Nat → Nat → Prop} {h h1 : Hp} (a : FZ P h h1) (pq : ∀ x j, P x j → Q x j) : FZ Q h h1 := ⟨a.1, fun x j z => a.2 x j (fun y => z (pq x j y))⟩
theorem FZ.pI {P : Nat → Nat → Prop} {h : Hp} {a k : Nat} {v : Int32} (hp : P a k) : FZ P h (putI h a k v) := ⟨Ly.pI, fun x j z => by
  rw [qI_pI, if_neg (fun y => z (by rw [y.1, y.2]; exact hp))]⟩
/-- what a content's reckoning may touch in the reference -/
def pB (M x j : Nat) : Prop := (x = M ∧ (j = 18 ∨ j = 20)) ∨ x = M + 9 ∨ x = M + 10 ∨ x = M + 11
def S_us (ps : List (Int × Int)) (f : Nat) : Nat → Int
  | 0 => 0
  | d + 1 => S_us ps f d + kP1 (pcAt ps (f + d)).1 (pcAt ps (f + d)).2
theorem S_lp_us (ps : List (Int × Int)) (f : Nat) : ∀ d, S_lp ps d f = S_us ps f d + (pcAt ps (f + d)).1
  | 0 => by show (pcAt ps f).1 = 0 + (pcAt ps (f + 0)).1; rw [Nat.add_zero]; omega
  | d + 1 => by
    rw [S_lp_s, S_lp_us ps f d, S_us, show f + (d + 1) = f + d + 1 from rfl]
    unfold kP1
    omega
theorem S_lo_us (ps : List (Int × Int)) (d f : Nat) : S_lo ps d f = S_us ps f d + kE1 (pcAt ps (f + d)).1 (pcAt ps (f + d)).2 := by
  unfold S_lo kE1
  rw [S_lp_us]
  omega
theorem drop_pc {ps : List (Int × Int)} {k : Nat} (h : k < ps.length) : ps.drop k = ((pcAt ps k).1, (pcAt ps k).2) :: ps.drop (k + 1) := by
  have e := pcAt_get h
  rw [List.getElem?_eq_getElem h] at e
  rw [List.drop_eq_getElem_cons h, Option.some.inj e]
theorem S_brk_o (room : Int) (r : List (Int × Int)) (L : List Int) (u v : Int) : S_brk room r L u false = S_brk room r L v false := by
  cases r with
  | nil => rfl
  | cons x r => obtain ⟨l, b⟩ := x; rw [S_brk, S_brk, if_pos (Or.inl rfl), if_pos (Or.inl rfl)]
theorem S_in_bd {ps : List (Int × Int)} {room : Int} {f : Nat} (hend : (pcAt ps (ps.length - 1)).2 = 1) : ∀ (c la en : Nat), en + 1 + c = ps.length → f ≤ la → la ≤ en → f ≤ S_in ps room f (c + 1) la en ∧ S_in ps room f (c + 1) la en < ps.length
  | 0, la, en, h1, h2, h3 => by
    rw [S_in, if_pos (by rw [show en = ps.length - 1 by omega]; exact hend)]
    omega
  | c + 1, la, en, h1, h2, h3 => by
    rw [S_in]
    by_cases hb : (pcAt ps en).2 = 1
    · rw [if_pos hb]; omega
    · rw [if_neg hb]
      by_cases hf : S_lo ps (en + 1 - f) f ≤ room
      · rw [if_pos hf]; exact S_in_bd hend c (en + 1) (en + 1) (by omega) (by omega) (by omega)
      · rw [if_neg hf]; exact S_in_bd hend c la (en + 1) (by omega) (by omega) (by omega)
theorem S_in_stay {ps : List (Int × Int)} {room : Int} {f : Nat} (hp1 : ∀ p ∈ ps, 1 ≤ p.1) (hend : (pcAt ps (ps.length - 1)).2 = 1) : ∀ (c la en : Nat), f ≤ en → en + 1 + c = ps.length → (en + 1 < ps.length → room < S_lo ps (en + 1 - f) f) → S_in ps room f (c + 1) la en = la
  | 0, la, en, h1, h2, h3 => by
    rw [S_in, if_pos (by rw [show en = ps.length - 1 by omega]; exact hend)]
  | c + 1, la, en, h1, h2, h3 => by
    have h4 := h3 (by omega)
    rw [S_in]
    by_cases hb : (pcAt ps en).2 = 1
    · rw [if_pos hb]
    · rw [if_neg hb, if_neg (by omega)]
      refine S_in_stay hp1 hend c la (en + 1) (by omega) (by omega) (fun h5 => ?_)
      have := S_lo_up hp1 (d := en + 1 - f) (k := f) (by omega)
      rw [show en + 1 - f + 1 = en + 1 + 1 - f by omega] at this
      omega
theorem S_brk_in {ps : List (Int × Int)} {room : Int} {f : Nat} (hp1 : ∀ p ∈ ps, 1 ≤ p.1) (hend : (pcAt ps (ps.length - 1)).2 = 1) (L : List Int) : ∀ (c k : Nat), k + 1 + c = ps.length → f ≤ k →
    S_brk room (ps.drop (k + 1)) (L ++ [S_lo ps (k - f) f]) (S_us ps f (k + 1 - f)) (decide ((pcAt ps k).2 ≠ 1)) = S_brk room (ps.drop (S_in ps room f (c + 1) k k + 1)) (L ++ [S_lo ps (S_in ps room f (c + 1) k k - f) f]) 0 false
  | 0, k, h1, h2 => by
    have hb : (pcAt ps k).2 = 1 := by rw [show k = ps.length - 1 by omega]; exact hend
    rw [S_in, if_pos hb, show decide ((pcAt ps k).2 ≠ 1) = false by rw [hb]; rfl]
    exact S_brk_o _ _ _ _ _
  | c + 1, k, h1, h2 => by
    by_cases hb : (pcAt ps k).2 = 1
    · rw [S_in, if_pos hb, show decide ((pcAt ps k).2 ≠ 1) = false by rw [hb]; rfl]
      exact S_brk_o _ _ _ _ _
    · have e1 : S_us ps f (k + 1 - f) + kE1 (pcAt ps (k + 1)).1 (pcAt ps (k + 1)).2 = S_lo ps (k + 1 - f) f := by
        rw [S_lo_us, show f + (k + 1 - f) = k + 1 by omega]
      have e2 : S_us ps f (k + 1 - f) + kP1 (pcAt ps (k + 1)).1 (pcAt ps (k + 1)).2 = S_us ps f (k + 1 + 1 - f) := by
        rw [show k + 1 + 1 - f = (k + 1 - f) + 1 by omega, S_us, show f + (k + 1 - f) = k + 1 by omega]
      rw [show decide ((pcAt ps k).2 ≠ 1) = true by simpa using hb, S_in, if_neg hb, drop_pc (show k + 1 < ps.length by omega), S_brk, e1, e2]
      by_cases hf : room < S_lo ps (k + 1 - f) f
      · have est : S_in ps room f (c + 1) k (k + 1) = k := by
          refine S_in_stay hp1 hend c k (k + 1) (by omega) (by omega) (fun h5 => ?_)
          have := S_lo_up hp1 (d := k + 1 - f) (k := f) (by omega)
          rw [show k + 1 - f + 1 = k + 1 + 1 - f by omega] at this
          omega
        rw [if_pos (Or.inr hf), if_neg (show ¬ S_lo ps (k + 1 - f) f ≤ room by omega), est, drop_pc (show k + 1 < ps.length by omega), S_brk, if_pos (Or.inl rfl)]
      · rw [if_neg (fun z => z.elim (fun z => by cases z) hf), if_pos (show S_lo ps (k + 1 - f) f ≤ room by omega), List.dropLast_concat]
        exact S_brk_in hp1 hend L c (k + 1) (by omega) (by omega)
theorem g_linOut {M : Nat} {ps : List (Int × Int)} (hps : ∀ p ∈ ps, (1 ≤ p.1 ∧ p.1 ≤ 156) ∧ 0 ≤ p.2 ∧ p.2 ≤ 3) (hlen : ps.length ≤ 12) (hend : (pcAt ps (ps.length - 1)).2 = 1) {room : Int} (hroom : -100000 ≤ room ∧ room ≤ 100000) : ∀ (n f : Nat) (L : List Int) (h : Hp), f ≤ ps.length → ps.length - f < n → LM h M → RP h M ps → qI h M 20 = iN L.length → (∀ (i : Nat) (x : Int), L[i]? = some x → qI h (M + 11) i = iN x) → L.length ≤ f →
    ∃ h2, f_X9_breaksLines_L21 n h M (iN room) (iN f) = some (h2, .inr ()) ∧ FZ (pB M) h h2 ∧ qI h2 M 20 = iN (S_brk room (ps.drop f) L 0 false).length ∧ ∀ (i : Nat) (x : Int), (S_brk room (ps.drop f) L 0 false)[i]? = some x → qI h2 (M + 11) i = iN x := by
  have hps2 : ∀ p ∈ ps, (0 ≤ p.1 ∧ p.1 ≤ 200) ∧ 0 ≤ p.2 ∧ p.2 ≤ 3 := fun p hp => by have := hps p hp; omega
  have hp1 : ∀ p ∈ ps, 1 ≤ p.1 := fun p hp => (hps p hp).1.1
  intro n
  induction n with
  | zero => intro f L h hf hn; omega
  | succ n ih =>
    intro f L h hf hn l p h20 hL hLf
    have p18 := p.1
    show ∃ h2, f_X9_breaksLines_B21 (f_X9_breaksLines_L21 n) h M (iN room) (iN f) = _ ∧ _
    unfold f_X9_breaksLines_B21
    by_cases hff : f = ps.length
    · subst hff
      refine ⟨h, ?_, FZ.rf, ?_, ?_⟩
      · rw [chk_pos l.1, p18, if_pos ((iN_le ⟨by omega, by omega⟩ ⟨by omega, by omega⟩).mpr (by omega))]
      · rw [List.drop_length]; exact h20
      · rw [List.drop_length]; exact hL
    · have hfl : f < ps.length := by omega
      obtain ⟨c, hc⟩ : ∃ c, f + 1 + c = ps.length := ⟨ps.length - (f + 1), by omega⟩
      obtain ⟨b1, b2⟩ := S_in_bd (room := room) (f := f) hend c f f hc (Nat.le_refl _) (Nat.le_refl _)
      have st : S_brk room (ps.drop f) L 0 false = S_brk room (ps.drop (S_in ps room f (c + 1) f f + 1)) (L ++ [S_lo ps (S_in ps room f (c + 1) f f - f) f]) 0 false := by
        rw [← S_brk_in hp1 hend L c f hc (Nat.le_refl _), drop_pc hfl, S_brk, if_pos (Or.inl rfl), S_lo_us, show f + 1 - f = 1 by omega, Nat.sub_self]
        rfl
      have gi := g_linIn (K := f_X9_breaksLines_L21 n) hps2 hlen hend hroom l p (ln := L.length) (by omega) h20 (f := f) c f f 2000 hc ⟨Nat.le_refl _, Nat.le_refl _⟩ (by omega)
      rw [st]
      generalize S_in ps room f (c + 1) f f = la at b1 b2 gi ⊢
      have z11 : FZ (pB M) h (putI (putI h (M + 11) L.length (iN (S_lo ps (la - f) f))) M 20 (iN (L.length + 1))) := (FZ.pI (Or.inr (Or.inr (Or.inr rfl)))).tr (FZ.pI (Or.inl ⟨rfl, Or.inr rfl⟩))
      have rp : RP (putI (putI h (M + 11) L.length (iN (S_lo ps (la - f) f))) M 20 (iN (L.length + 1))) M ps := by
        refine ⟨by rw [qI_pI, if_neg (by omega), qI_pI, if_neg (by omega)]; exact p18, fun k y hk => ?_⟩
        obtain ⟨a, b⟩ := p.2 k y hk
        rw [qI_pI, if_neg (by omega), qI_pI, if_neg (by omega), qI_pI, if_neg (by omega), qI_pI, if_neg (by omega)]
        exact ⟨a, b⟩
      have lns : ∀ (i : Nat) (x : Int), (L ++ [S_lo ps (la - f) f])[i]? = some x → qI (putI (putI h (M + 11) L.length (iN (S_lo ps (la - f) f))) M 20 (iN (L.length + 1))) (M + 11) i = iN x := by
        intro i x hx
        rw [qI_pI, if_neg (by omega), qI_pI]
        by_cases hi : i = L.length
        · subst hi
          rw [List.getElem?_append_right (Nat.le_refl _), Nat.sub_self] at hx
          cases hx
          exact if_pos ⟨rfl, rfl⟩
        · rw [if_neg (fun z => hi z.2)]
          have hi2 : i < L.length := by
            have := (List.getElem?_eq_some_iff.mp hx).1
            rw [List.length_append] at this
            simp only [List.length_cons, List.length_nil] at this
            omega
          rw [List.getElem?_append_left hi2] at hx
          exact hL i x hx
      obtain ⟨h2, g1, g2, g3, g4⟩ := ih (la + 1) (L ++ [S_lo ps (la - f) f]) _ (by omega) (by omega) (l.ly z11.1) rp (by rw [qI_pI, if_pos ⟨rfl, rfl⟩, List.length_append]; rfl) lns (by rw [List.length_append]; simp only [List.length_cons, List.length_nil]; omega)
      refine ⟨h2, ?_, z11.tr g2, g3, g4⟩
      rw [chk_pos l.1, p18, if_neg (fun z => by have := (iN_le ⟨by omega, by omega⟩ ⟨by omega, by omega⟩).mp z; omega), gi]
      exact g1
