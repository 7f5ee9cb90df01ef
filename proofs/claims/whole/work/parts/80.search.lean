/-! ===== STAGE B: the search, pure ===== -/
def ndF (m : Int → Int) (c : Int) : Int := if tyS (m (6 + c)) = 1 then gs2 m c else (msW m).1 c
def fxF (m : Int → Int) (c : Int) : Bool := decide (tyS (m (6 + c)) = 1)
def wloop {α : Type} (f : Int → List α) : Nat → Int → List α
  | 0, _ => []
  | k + 1, w => f w ++ wloop f k (w + 1)
def lays (m : Int → Int) : Nat → Int → Int → (Int → Int) → List (Int → Int)
  | 0, _, room, t => if room = 0 then [t] else []
  | d + 1, c, room, t => wloop (fun w => lays m d (c + 1) (room - w) (up t c w)) (min (if fxF m c = true then ndF m c else room) room - ndF m c + 1).toNat (ndF m c)
def lfF (m : Int → Int) : Nat → Int
  | 0 => -1
  | k + 1 => if fxF m k = true then lfF m k else k
def layC (m : Int → Int) (lf : Int) : Nat → Int → Int → (Int → Int) → List (Int → Int)
  | 0, _, _, t => [t]
  | d + 1, c, sl, t => wloop (fun e => layC m lf d (c + 1) (sl - e) (up t c (ndF m c + e))) ((if fxF m c = true then 0 else sl) - (if c = lf then sl else 0) + 1).toNat (if c = lf then sl else 0)
theorem wloop_app {α : Type} {f : Int → List α} (a : Nat) : ∀ (b : Nat) (w : Int), wloop f (b + a) w = wloop f b w ++ wloop f a (w + b)
  | 0, w => by rw [Nat.zero_add, wloop]; simp
  | b + 1, w => by
    rw [show b + 1 + a = (b + a) + 1 by omega, wloop, wloop, wloop_app a b (w + 1), List.append_assoc, show w + 1 + (b : Int) = w + ((b + 1 : Nat) : Int) by omega]
theorem wloop_nil {α : Type} {f : Int → List α} : ∀ (k : Nat) (w : Int), (∀ x, w ≤ x → x < w + k → f x = []) → wloop f k w = []
  | 0, _, _ => rfl
  | k + 1, w, h => by
    rw [wloop, h w (by omega) (by omega), wloop_nil k (w + 1) (fun x h1 h2 => h x (by omega) (by omega))]
    rfl
theorem wloop_cg {α : Type} {f g : Int → List α} : ∀ (k : Nat) (w v : Int), (∀ j : Nat, j < k → f (w + j) = g (v + j)) → wloop f k w = wloop g k v
  | 0, _, _, _ => rfl
  | k + 1, w, v, h => by
    have h0 := h 0 (by omega)
    rw [show w + ((0 : Nat) : Int) = w by omega, show v + ((0 : Nat) : Int) = v by omega] at h0
    rw [wloop, wloop, h0, wloop_cg k (w + 1) (v + 1) (fun j hj => by
      have := h (j + 1) (by omega)
      rw [show w + 1 + (j : Int) = w + ((j + 1 : Nat) : Int) by omega, show v + 1 + (j : Int) = v + ((j + 1 : Nat) : Int) by omega]
      exact this)]
theorem wloop_mem {α : Type} {f : Int → List α} {x : α} : ∀ (k : Nat) (w : Int), x ∈ wloop f k w → ∃ v, w ≤ v ∧ v < w + k ∧ x ∈ f v
  | 0, _, h => by cases h
  | k + 1, w, h => by
    rw [wloop, List.mem_append] at h
    rcases h with h | h
    · exact ⟨w, by omega, by omega, h⟩
    · obtain ⟨v, h1, h2, h3⟩ := wloop_mem k (w + 1) h
      exact ⟨v, by omega, by omega, h3⟩
theorem sumF_1 {F : Int → Int} {c : Int} : ∀ d : Nat, sumF F c (d + 1) = F c + sumF F (c + 1) d
  | 0 => by
    show 0 + F (c + ((0 : Nat) : Int)) = F c + 0
    rw [show c + ((0 : Nat) : Int) = c by omega]
    omega
  | d + 1 => by
    have a : sumF F c (d + 1 + 1) = sumF F c (d + 1) + F (c + ((d + 1 : Nat) : Int)) := rfl
    have b : sumF F (c + 1) (d + 1) = sumF F (c + 1) d + F (c + 1 + (d : Int)) := rfl
    rw [a, sumF_1 d, b, show c + ((d + 1 : Nat) : Int) = c + 1 + (d : Int) by omega]
    omega
theorem lays_lt {m : Int → Int} : ∀ (d : Nat) (c room : Int) (t : Int → Int), room < sumF (ndF m) c d → lays m d c room t = []
  | 0, c, room, t, h => by
    rw [sumF] at h
    rw [lays, if_neg (by omega)]
  | d + 1, c, room, t, h => by
    rw [lays]
    refine wloop_nil _ _ (fun x h1 h2 => lays_lt d (c + 1) (room - x) _ ?_)
    rw [sumF_1] at h
    omega
theorem lays_fx {m : Int → Int} : ∀ (d : Nat) (c room : Int) (t : Int → Int), (∀ x, c ≤ x → x < c + d → fxF m x = true) → room ≠ sumF (ndF m) c d → lays m d c room t = []
  | 0, c, room, t, hf, h => by
    rw [sumF] at h
    rw [lays, if_neg h]
  | d + 1, c, room, t, hf, h => by
    rw [lays, if_pos (hf c (by omega) (by omega))]
    refine wloop_nil _ _ (fun x h1 h2 => lays_fx d (c + 1) (room - x) _ (fun y y1 y2 => hf y (by omega) (by omega)) ?_)
    rw [sumF_1] at h
    omega
theorem lfF_bd {m : Int → Int} : ∀ k : Nat, -1 ≤ lfF m k ∧ lfF m k < k ∧ (0 ≤ lfF m k → fxF m (lfF m k) = false) ∧ ∀ x : Int, lfF m k < x → x < k → 0 ≤ x → fxF m x = true
  | 0 => ⟨by rw [lfF]; omega, by rw [lfF]; omega, fun h => by rw [lfF] at h; omega, fun x h1 h2 h3 => by omega⟩
  | k + 1 => by
    obtain ⟨h1, h2, h3, h4⟩ := lfF_bd (m := m) k
    rw [lfF]
    by_cases h : fxF m k = true
    · rw [if_pos h]
      refine ⟨h1, by omega, h3, fun x x1 x2 x3 => ?_⟩
      by_cases e : x = k
      · rw [e]; exact h
      · exact h4 x x1 (by omega) x3
    · rw [if_neg h]
      exact ⟨by omega, by omega, fun _ => by simpa using h, fun x x1 x2 x3 => by omega⟩
theorem ndF_bd {m : Int → Int} (w : WF m) {c : Int} (hc : 0 ≤ c ∧ c < m 0) : 1 ≤ ndF m c ∧ ndF m c ≤ 102900 ∧ (msW m).1 c ≤ ndF m c := by
  have b := gs_bd w hc
  unfold ndF
  split <;> omega
theorem ndS_nn {m : Int → Int} (w : WF m) : ∀ (d : Nat) (c : Int), 0 ≤ c → c + d ≤ m 0 → 0 ≤ sumF (ndF m) c d
  | 0, _, _, _ => Int.le_refl 0
  | d + 1, c, h1, h2 => by
    have := ndS_nn w d (c + 1) (by omega) (by omega)
    have := ndF_bd w (c := c) (by omega)
    rw [sumF_1]; omega
/-- the class's layouts are the reference's -/
theorem lays_C {m : Int → Int} (w : WF m) : ∀ (d : Nat) (c sl : Int) (t : Int → Int), 0 ≤ c → c + d = m 0 → 0 ≤ sl → (sl = 0 ∨ c ≤ lfF m (m 0).toNat) → lays m d c (sl + sumF (ndF m) c d) t = layC m (lfF m (m 0).toNat) d c sl t
  | 0, c, sl, t, h0, h1, h2, h3 => by
    have hK := w.1.1
    have := (lfF_bd (m := m) (m 0).toNat).2.1
    rw [lays, layC, sumF, if_pos (by omega)]
  | d + 1, c, sl, t, h0, h1, h2, h3 => by
    have hK := w.1.1
    obtain ⟨l1, l2, l3, l4⟩ := lfF_bd (m := m) (m 0).toNat
    have nb := ndF_bd w (c := c) (by omega)
    have sn := ndS_nn w d (c + 1) (by omega) (by omega)
    rw [lays, layC, sumF_1]
    have step : ∀ e : Int, 0 ≤ e → e ≤ sl → (sl - e = 0 ∨ c + 1 ≤ lfF m (m 0).toNat) → lays m d (c + 1) (sl + (ndF m c + sumF (ndF m) (c + 1) d) - (ndF m c + e)) (up t c (ndF m c + e)) = layC m (lfF m (m 0).toNat) d (c + 1) (sl - e) (up t c (ndF m c + e)) := by
      intro e e1 e2 e3
      rw [show sl + (ndF m c + sumF (ndF m) (c + 1) d) - (ndF m c + e) = (sl - e) + sumF (ndF m) (c + 1) d by omega]
      exact lays_C w d (c + 1) (sl - e) _ (by omega) (by omega) (by omega) e3
    by_cases hf : fxF m c = true
    · have hc : c ≠ lfF m (m 0).toNat := fun e => by
        have := l3 (by omega)
        rw [← e, hf] at this
        cases this
      rw [if_pos hf, if_pos hf, if_neg hc, Int.min_eq_left (by omega), show ndF m c - ndF m c + 1 = 1 by omega, show (0 : Int) - 0 + 1 = 1 by omega]
      refine wloop_cg _ _ _ (fun j hj => ?_)
      have : j = 0 := by omega
      subst this
      have := step 0 (by omega) h2 (by omega)
      rw [show ndF m c + ((0 : Nat) : Int) = ndF m c + 0 from rfl, show (0 : Int) + ((0 : Nat) : Int) = 0 from rfl]
      exact this
    · rw [if_neg hf, if_neg hf, Int.min_eq_left (Int.le_refl _)]
      by_cases hc : c = lfF m (m 0).toNat
      · have rest : ∀ x, c + 1 ≤ x → x < c + 1 + d → fxF m x = true := fun x x1 x2 => l4 x (by omega) (by omega) (by omega)
        rw [if_pos hc, show sl - sl + 1 = 1 by omega]
        rw [show (sl + (ndF m c + sumF (ndF m) (c + 1) d) - ndF m c + 1).toNat = sl.toNat + (1 + (sumF (ndF m) (c + 1) d).toNat) by omega, wloop_app (1 + (sumF (ndF m) (c + 1) d).toNat) sl.toNat, wloop_nil sl.toNat _ (fun x x1 x2 => lays_fx d (c + 1) _ _ rest (by omega)), List.nil_append, wloop_app (sumF (ndF m) (c + 1) d).toNat 1, wloop_nil (sumF (ndF m) (c + 1) d).toNat _ (fun x x1 x2 => lays_fx d (c + 1) _ _ rest (by omega)), List.append_nil]
        refine wloop_cg 1 _ _ (fun j hj => ?_)
        have : j = 0 := by omega
        subst this
        have := step sl h2 (by omega) (by omega)
        rw [show ndF m c + (sl.toNat : Int) + ((0 : Nat) : Int) = ndF m c + sl by omega, show sl + ((0 : Nat) : Int) = sl by omega]
        exact this
      · rw [if_neg hc, show sl - 0 + 1 = sl + 1 by omega, show (sl + (ndF m c + sumF (ndF m) (c + 1) d) - ndF m c + 1).toNat = (sl + 1).toNat + (sumF (ndF m) (c + 1) d).toNat by omega, wloop_app (sumF (ndF m) (c + 1) d).toNat (sl + 1).toNat, wloop_nil (sumF (ndF m) (c + 1) d).toNat _ (fun x x1 x2 => lays_lt d (c + 1) _ _ (by omega)), List.append_nil]
        refine wloop_cg _ _ _ (fun j hj => ?_)
        have hlf : c + 1 ≤ lfF m (m 0).toNat := by
          by_cases q : lfF m (m 0).toNat < c
          · exact absurd (l4 c q (by omega) h0) hf
          · omega
        have := step j (by omega) (by omega) (Or.inr hlf)
        rw [show (0 : Int) + (j : Int) = j by omega]
        exact this
/-- what a layout of the list is -/
theorem layC_mem {m : Int → Int} (w : WF m) {lf : Int} {t2 : Int → Int} : ∀ (d : Nat) (c sl : Int) (t : Int → Int), 0 ≤ c → c + d = m 0 → 0 ≤ sl → t2 ∈ layC m lf d c sl t → (∀ x, x < c → t2 x = t x) ∧ (∀ x, c ≤ x → x < m 0 → ndF m x ≤ t2 x ∧ t2 x ≤ ndF m x + sl)
  | 0, c, sl, t, h0, h1, h2, h => by
    rw [layC] at h
    have := List.mem_singleton.mp h
    subst this
    exact ⟨fun x _ => rfl, fun x z1 z2 => by omega⟩
  | d + 1, c, sl, t, h0, h1, h2, h => by
    rw [layC] at h
    obtain ⟨e, e1, e2, e3⟩ := wloop_mem _ _ h
    have he : 0 ≤ e ∧ e ≤ sl := by
      split at e1 <;> split at e2 <;> omega
    obtain ⟨g1, g2⟩ := layC_mem w d (c + 1) (sl - e) _ (by omega) (by omega) (by omega) e3
    refine ⟨fun x hx => ?_, fun x x1 x2 => ?_⟩
    · rw [g1 x (by omega), up_ne (by omega)]
    · by_cases hx : x = c
      · rw [hx, g1 c (by omega), up_eq]; omega
      · have := g2 x (by omega) x2
        omega
theorem layC_sum {m : Int → Int} (w : WF m) {lf : Int} {t2 : Int → Int} : ∀ (d : Nat) (c sl : Int) (t : Int → Int), 0 ≤ c → c + d = m 0 → 0 ≤ sl → t2 ∈ layC m lf d c sl t → sumF t2 c d ≤ sumF (ndF m) c d + sl
  | 0, c, sl, t, h0, h1, h2, h => by rw [sumF, sumF]; omega
  | d + 1, c, sl, t, h0, h1, h2, h => by
    rw [layC] at h
    obtain ⟨e, e1, e2, e3⟩ := wloop_mem _ _ h
    have he : 0 ≤ e ∧ e ≤ sl := by
      split at e1 <;> split at e2 <;> omega
    have g1 := (layC_mem w d (c + 1) (sl - e) _ (by omega) (by omega) (by omega) e3).1 c (by omega)
    have g2 := layC_sum w d (c + 1) (sl - e) _ (by omega) (by omega) (by omega) e3
    rw [up_eq] at g1
    rw [sumF_1, sumF_1]
    omega
theorem sumF_mo2 {F G : Int → Int} {c : Int} : ∀ n : Nat, (∀ j, c ≤ j → j < c + n → F j ≤ G j) → sumF F c n ≤ sumF G c n
  | 0, _ => Int.le_refl _
  | n + 1, h => by
    have := sumF_mo2 n (fun j h1 h2 => h j h1 (by omega))
    have := h (c + n) (by omega) (by omega)
    rw [sumF, sumF]
    omega
theorem sumF_sub {F G : Int → Int} {c s K : Int} (hc : 0 ≤ c) (hs : 0 ≤ s) (hk : c + s ≤ K) (h : ∀ j, 0 ≤ j → j < K → F j ≤ G j) : sumF G c s.toNat - sumF F c s.toNat ≤ sumF G 0 K.toNat - sumF F 0 K.toNat := by
  have e : ∀ H : Int → Int, sumF H 0 K.toNat = sumF H 0 c.toNat + (sumF H c s.toNat + sumF H (c + s) (K - c - s).toNat) := fun H => by
    rw [show K.toNat = c.toNat + (s.toNat + (K - c - s).toNat) by omega, sumF_split, sumF_split, show (0 : Int) + (c.toNat : Int) = c by omega, show c + (s.toNat : Int) = c + s by omega]
  have a := sumF_mo2 (F := F) (G := G) (c := 0) c.toNat (fun j h1 h2 => h j (by omega) (by omega))
  have b := sumF_mo2 (F := F) (G := G) (c := c + s) (K - c - s).toNat (fun j h1 h2 => h j (by omega) (by omega))
  rw [e F, e G]
  omega
abbrev BS : Type := Int × (Int → Int)
def stB (H : (Int → Int) → Int) (s : BS) (t : Int → Int) : BS := if H t < s.1 then (H t, t) else s
def foB (H : (Int → Int) → Int) (s : BS) (L : List (Int → Int)) : BS := L.foldl (stB H) s
theorem foB_app {H : (Int → Int) → Int} {s : BS} {L L2 : List (Int → Int)} : foB H s (L ++ L2) = foB H (foB H s L) L2 := List.foldl_append ..
theorem foB_id {H : (Int → Int) → Int} {s : BS} : ∀ L : List (Int → Int), (∀ t ∈ L, s.1 ≤ H t) → foB H s L = s
  | [], _ => rfl
  | t :: L, h => by
    have h1 := h t (List.mem_cons_self ..)
    have e : stB H s t = s := by unfold stB; rw [if_neg (by omega)]
    show foB H (stB H s t) L = s
    rw [e]
    exact foB_id L (fun t ht => h t (List.mem_cons_of_mem _ ht))
/-- more room, no more lines -/
theorem S_brk_mo {a b : Int} (hab : a ≤ b) : ∀ (r : List (Int × Int)) (L K : List Int) (u v : Int) (o : Bool), (∀ p ∈ r, 0 ≤ p.1) → 0 ≤ u → (o = true → L ≠ [] ∧ K ≠ []) → (K.length < L.length ∨ (K.length = L.length ∧ v ≤ u)) → (S_brk b r K v o).length ≤ (S_brk a r L u o).length
  | [], L, K, u, v, o, _, _, _, h => by rw [S_brk, S_brk]; omega
  | (l, q) :: r, L, K, u, v, o, hp, hu, ho, h => by
    have h1 := hp (l, q) (List.mem_cons_self ..)
    simp only at h1
    have hr := fun p hp2 => hp p (List.mem_cons_of_mem _ hp2)
    have hP : 0 ≤ kP1 l q := by unfold kP1; split <;> omega
    have len1 : ∀ (X : List Int) (y : Int), (X ++ [y]).length = X.length + 1 := fun X y => by rw [List.length_append]; rfl
    have len2 : ∀ (X : List Int) (y : Int), X ≠ [] → (X.dropLast ++ [y]).length = X.length := fun X y hX => by
      have := List.length_pos_iff.mpr hX
      rw [List.length_append, List.length_dropLast]
      simp only [List.length_cons, List.length_nil]
      omega
    have ne1 : ∀ (X : List Int) (y : Int), X ++ [y] ≠ [] := fun X y => by simp
    rw [S_brk, S_brk]
    cases o with
    | false =>
      rw [if_pos (Or.inl rfl), if_pos (Or.inl rfl)]
      exact S_brk_mo hab r _ _ _ _ _ hr (by omega) (fun _ => ⟨ne1 _ _, ne1 _ _⟩) (by rw [len1, len1]; omega)
    | true =>
      obtain ⟨hL, hK⟩ := ho rfl
      by_cases c1 : b < v + kE1 l q
      · rw [if_pos (Or.inr c1)]
        by_cases c2 : a < u + kE1 l q
        · rw [if_pos (Or.inr c2)]
          exact S_brk_mo hab r _ _ _ _ _ hr (by omega) (fun _ => ⟨ne1 _ _, ne1 _ _⟩) (by rw [len1, len1]; omega)
        · rw [if_neg (fun z => z.elim (fun z => by cases z) c2)]
          exact S_brk_mo hab r _ _ _ _ _ hr (by omega) (fun _ => ⟨ne1 _ _, ne1 _ _⟩) (by rw [len1, len2 _ _ hL]; omega)
      · rw [if_neg (fun z => z.elim (fun z => by cases z) c1)]
        by_cases c2 : a < u + kE1 l q
        · rw [if_pos (Or.inr c2)]
          exact S_brk_mo hab r _ _ _ _ _ hr (by omega) (fun _ => ⟨ne1 _ _, ne1 _ _⟩) (by rw [len2 _ _ hK, len1]; omega)
        · rw [if_neg (fun z => z.elim (fun z => by cases z) c2)]
          exact S_brk_mo hab r _ _ _ _ _ hr (by omega) (fun _ => ⟨ne1 _ _, ne1 _ _⟩) (by rw [len2 _ _ hL, len2 _ _ hK]; omega)
theorem hB_txt {b : Int → Int} (w : WB b) (h3 : b 3 ≤ 3) {x y : Int} (h : x ≤ y) : hB b y ≤ hB b x := by
  have := S_brk_mo (a := x - indOf (b 3)) (b := y - indOf (b 3)) (by omega) (psB b) [] [] 0 0 false (fun p hp => by have := (psB_ok w).1 p hp; omega) (by omega) (fun z => by cases z) (Or.inr ⟨rfl, by omega⟩)
  unfold hB lnB
  rw [if_pos h3, if_pos h3]
  split <;> omega
theorem picN_up {wd ht x : Int} (h1 : 1 ≤ x) (h3 : 1 ≤ wd ∧ wd ≤ 20) (h4 : 1 ≤ ht ∧ ht ≤ 20) : picN wd ht x ≤ picN wd ht (x + 1) := by
  unfold picN
  by_cases c1 : wd ≤ x
  · rw [if_pos c1, if_pos (by omega)]; omega
  · rw [if_neg c1]
    obtain ⟨-, -, t3, t4, t5⟩ := pic_all (wd := wd) (x := x) (ht := ht) h1 (by omega) h3.2 h4.1 h4.2
    by_cases c2 : wd ≤ x + 1
    · rw [if_pos c2]; omega
    · rw [if_neg c2]
      have := t5 (by omega)
      omega
theorem picN_mo {wd ht x : Int} (h1 : 1 ≤ x) (h3 : 1 ≤ wd ∧ wd ≤ 20) (h4 : 1 ≤ ht ∧ ht ≤ 20) : ∀ d : Nat, picN wd ht x ≤ picN wd ht (x + d)
  | 0 => by rw [show x + ((0 : Nat) : Int) = x by omega]; omega
  | d + 1 => by
    have := picN_mo h1 h3 h4 d
    have := picN_up (wd := wd) (ht := ht) (x := x + d) (by omega) h3 h4
    rw [show x + ((d + 1 : Nat) : Int) = x + (d : Int) + 1 by omega]
    omega
/-- between two widths a height isn't below both ends' -/
theorem hB_mid {b : Int → Int} (w : WB b) {x y z : Int} (h1 : x ≤ y) (h2 : y ≤ z) (hx : 4 ≤ b 3 → 1 ≤ x) : min (hB b x) (hB b z) ≤ hB b y := by
  by_cases h3 : b 3 ≤ 3
  · have := hB_txt w h3 h2
    omega
  · have w1 := w.1
    unfold hB
    rw [if_neg h3, if_neg h3, if_neg h3]
    by_cases h4 : b 3 = 4
    · rw [if_pos h4, if_pos h4, if_pos h4]
      have := picN_mo (wd := b 5) (ht := b 6) (x := x) (hx (by omega)) w.2.2.1 w.2.2.2.1 (y - x).toNat
      rw [show x + ((y - x).toNat : Int) = y by omega] at this
      omega
    · rw [if_neg h4, if_neg h4, if_neg h4]; omega
/-- a cell's width in a layout lies between its least one and that and the slack -/
theorem wC_lay {m : Int → Int} (w : WF m) {lf sl : Int} {t t2 : Int → Int} (hs : 0 ≤ sl) (h : t2 ∈ layC m lf (m 0).toNat 0 sl t) {i : Int} (hi : 0 ≤ i ∧ i < m 5) : wC m i (ndF m) ≤ wC m i t2 ∧ wC m i t2 ≤ wC m i (ndF m) + sl := by
  have h0 := w.1.1
  have co := (w.2.2.1 i hi.1 hi.2).1
  unfold CO at co
  have g1 := (layC_mem w (m 0).toNat 0 sl t (by omega) (by omega) hs h).2
  have g2 := layC_sum w (m 0).toNat 0 sl t (by omega) (by omega) hs h
  refine ⟨wC_mo w hi (fun c z1 z2 => (g1 c z1 z2).1), ?_⟩
  have := sumF_sub (F := ndF m) (G := t2) (c := blk m i 1) (s := blk m i 2) (K := m 0) (by omega) (by omega) (by omega) (fun j z1 z2 => (g1 j z1 z2).1)
  unfold wC
  omega
theorem nd_GW {m : Int → Int} (w : WF m) {i : Int} (hi : 0 ≤ i ∧ i < m 5) : mnC m i ≤ wC m i (ndF m) := by
  have h1 := cov w hi
  have h2 := wC_mo w (V := (msW m).1) (W := ndF m) hi (fun c q1 q2 => (ndF_bd w ⟨q1, q2⟩).2.2)
  omega
/-- the lowest that a cell can be -/
def lowF (m : Int → Int) (sl i : Int) : Int := min (hC m i (wC m i (ndF m))) (hC m i (wC m i (ndF m) + sl))
theorem hC_low {m : Int → Int} (w : WF m) {lf sl : Int} {t t2 : Int → Int} (hs : 0 ≤ sl) (h : t2 ∈ layC m lf (m 0).toNat 0 sl t) {i : Int} (hi : 0 ≤ i ∧ i < m 5) : lowF m sl i ≤ hC m i (wC m i t2) := by
  obtain ⟨a, b⟩ := wC_lay w hs h hi
  have wb := (w.2.2.1 i hi.1 hi.2).2
  have g := nd_GW w hi
  have mb := mnB_bd wb
  have := hB_mid wb (x := wC m i (ndF m) - 2 * m 3) (y := wC m i t2 - 2 * m 3) (z := wC m i (ndF m) + sl - 2 * m 3) (by omega) (by omega) (fun z => by have := mb.2.2 z; unfold mnC at g; omega)
  unfold lowF hC
  omega
