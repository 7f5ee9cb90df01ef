/-! ===== STAGE B: ink is within the table ===== -/
theorem shS_le {a : Int} {wt : Int → Int} {K : Int} (ha : 0 ≤ a) (hw : ∀ c, 0 ≤ c → c < K → 0 ≤ wt c) : sumF (shP a wt K) 0 K.toNat ≤ a := by
  by_cases h : 0 < shT wt K
  · have step : ∀ n : Nat, sumF (shP a wt K) 0 n * shT wt K ≤ a * sumF wt 0 n := by
      intro n
      induction n with
      | zero => rw [sumF, sumF, Int.zero_mul, Int.mul_zero]; exact Int.le_refl _
      | succ n ih =>
        rw [sumF, sumF, Int.add_mul, Int.mul_add]
        have e : shP a wt K (0 + (n : Int)) = a * wt (0 + (n : Int)) / shT wt K := if_pos h
        have := Int.ediv_mul_le (a * wt (0 + (n : Int))) (show shT wt K ≠ 0 by omega)
        rw [e]
        omega
    have := step K.toNat
    exact Int.le_of_mul_le_mul_right (show sumF (shP a wt K) 0 K.toNat * shT wt K ≤ a * shT wt K from this) h
  · rw [sumF_z (F := shP a wt K) _ (fun j _ _ => if_neg h)]
    exact ha
theorem shX_sum {a : Int} {wt : Int → Int} {K : Int} : ∀ n : Nat, sumF (shX a wt K) 0 n = shL a wt K 0 - shL a wt K n
  | 0 => by rw [sumF]; omega
  | n + 1 => by
    rw [sumF, shX_sum n, show (0 : Int) + (n : Int) = n by omega]
    have e : shL a wt K (n + 1) = if 0 < shL a wt K n ∧ 0 < wt n then shL a wt K n - 1 else shL a wt K n := rfl
    rw [e]
    unfold shX
    rw [show ((n : Nat) : Int).toNat = n by omega]
    by_cases q : 0 < shL a wt K n ∧ 0 < wt n
    · rw [if_pos q, if_pos q]; omega
    · rw [if_neg q, if_neg q]; omega
theorem shL_nn {a : Int} {wt : Int → Int} {K : Int} (h : 0 ≤ shL a wt K 0) : ∀ n : Nat, 0 ≤ shL a wt K n
  | 0 => h
  | n + 1 => by
    have := shL_nn h n
    rw [shL]
    split <;> omega
/-- no more is shared than there is -/
theorem shF_le {a : Int} {wt : Int → Int} {K : Int} (ha : 0 ≤ a) (hw : ∀ c, 0 ≤ c → c < K → 0 ≤ wt c) : sumF (shF a wt K) 0 K.toNat ≤ a := by
  have e : sumF (shF a wt K) 0 K.toNat = sumF (shP a wt K) 0 K.toNat + sumF (shX a wt K) 0 K.toNat := sumF_add (F := shP a wt K) (G := shX a wt K) K.toNat
  have h1 := shS_le ha hw
  have h2 : shL a wt K 0 = a - sumF (shP a wt K) 0 K.toNat := rfl
  have h3 := shL_nn (a := a) (wt := wt) (K := K) (by omega) K.toNat
  rw [e, shX_sum]
  omega
theorem ft_in {m : Int → Int} (h : gsS m 0 ≤ usF m) : gsS m (ftF m) ≤ usF m := by
  unfold ftF
  by_cases h3 : gsS m 3 ≤ usF m
  · rw [if_pos h3]; exact h3
  · rw [if_neg h3]
    by_cases h2 : gsS m 2 ≤ usF m
    · rw [if_pos h2]; exact h2
    · rw [if_neg h2]
      by_cases h1 : gsS m 1 ≤ usF m
      · rw [if_pos h1]; exact h1
      · rw [if_neg h1]; exact h
/-- the automatic widths fit the table -/
theorem au_sum {m : Int → Int} (w : WF m) (h : gsS m 0 ≤ usF m) : sumF (auF m) 0 (m 0).toNat ≤ usF m := by
  have hf := ft_in h
  have fb := ft_bd m
  by_cases q : gsS m (ftF m) < usF m
  · have e : sumF (auF m) 0 (m 0).toNat = sumF (gsF m (ftF m)) 0 (m 0).toNat + sumF (shF (usF m - gsS m (ftF m)) (wRf m (ftF m)) (m 0)) 0 (m 0).toNat := by
      rw [← sumF_add]
      refine sumF_cg _ (fun j _ _ => ?_)
      unfold auF
      rw [if_pos q]
    have := shF_le (a := usF m - gsS m (ftF m)) (wt := wRf m (ftF m)) (K := m 0) (by omega) (fun c c0 c1 => (wRf_bd w fb ⟨c0, c1⟩).1)
    rw [e]
    unfold gsS at this hf
    unfold gsS at *
    omega
  · have e : sumF (auF m) 0 (m 0).toNat = gsS m (ftF m) := by
      unfold gsS
      refine sumF_cg _ (fun j _ _ => ?_)
      unfold auF
      rw [if_neg q, Int.add_zero]
    rw [e]
    exact hf
theorem au_nn {m : Int → Int} (w : WF m) {c : Int} (hc : 0 ≤ c ∧ c < m 0) : 0 ≤ auF m c := by
  have fb := ft_bd m
  have g := (gsF_bd w (g := ftF m) hc).1
  unfold auF
  by_cases q : gsS m (ftF m) < usF m
  · rw [if_pos q]
    have := (shF_bd (wRf_SW w fb q) hc).1
    omega
  · rw [if_neg q]
    omega
/-! letters and lines -/
def suL : List Int → Int
  | [] => 0
  | z :: r => z + suL r
theorem suL_ap : ∀ (L : List Int) (x : Int), suL (L ++ [x]) = suL L + x
  | [], x => by show x + 0 = 0 + x; omega
  | z :: r, x => by
    show z + suL (r ++ [x]) = z + suL r + x
    rw [suL_ap r x]
    omega
theorem suL_le {B : Int} : ∀ L : List Int, (∀ z ∈ L, z ≤ B) → suL L ≤ B * L.length
  | [], _ => by show 0 ≤ B * 0; omega
  | z :: r, h => by
    have h1 := h z (List.mem_cons_self ..)
    have h2 := suL_le r (fun y hy => h y (List.mem_cons_of_mem _ hy))
    show z + suL r ≤ B * ((r.length + 1 : Nat) : Int)
    rw [Int.natCast_add, Int.mul_add]
    show z + suL r ≤ B * r.length + B * 1
    omega
def suP : List (Int × Int) → Int
  | [] => 0
  | p :: r => p.1 + suP r
theorem S_brk_su {room : Int} : ∀ (r : List (Int × Int)) (L : List Int) (u v : Int) (o : Bool), (∀ p ∈ r, 0 ≤ p.1) → 0 ≤ v → (o = true → v ≤ u ∧ suL L.dropLast + v ≤ suL L) → (if o = true then suL L.dropLast + v else suL L) + suP r ≤ suL (S_brk room r L u o)
  | [], L, u, v, o, _, _, h => by
    show _ + 0 ≤ suL L
    by_cases q : o = true
    · rw [if_pos q]; have := h q; omega
    · rw [if_neg q]; omega
  | (l, b) :: r, L, u, v, o, hp, hv, h => by
    have h1 : 0 ≤ l := hp (l, b) (List.mem_cons_self ..)
    have hr := fun p hp2 => hp p (List.mem_cons_of_mem _ hp2)
    have k1 := kE1_ge (l := l) (b := b)
    have kp : l ≤ kP1 l b := by unfold kP1; split <;> omega
    have e1 : suP ((l, b) :: r) = l + suP r := rfl
    rw [S_brk, e1]
    have base : (if o = true then suL L.dropLast + v else suL L) ≤ suL L := by
      by_cases q : o = true
      · rw [if_pos q]; exact (h q).2
      · rw [if_neg q]; exact Int.le_refl _
    by_cases q : o = false ∨ room < u + kE1 l b
    · rw [if_pos q]
      have i := S_brk_su (room := room) r (L ++ [0 + kE1 l b]) (0 + kP1 l b) l (decide (b ≠ 1)) hr h1 (fun _ => ⟨by omega, by rw [List.dropLast_concat, suL_ap]; omega⟩)
      rw [List.dropLast_concat, suL_ap] at i
      have : suL L + l ≤ (if decide (b ≠ 1) = true then suL L + l else suL L + (0 + kE1 l b)) := by
        split <;> omega
      omega
    · rw [if_neg q]
      have o1 : o = true := by
        match o, q with
        | true, _ => rfl
        | false, q => exact absurd (Or.inl rfl) q
      have h2 := h o1
      have i := S_brk_su (room := room) r (L.dropLast ++ [u + kE1 l b]) (u + kP1 l b) (v + l) (decide (b ≠ 1)) hr (by omega) (fun _ => ⟨by omega, by rw [List.dropLast_concat, suL_ap]; omega⟩)
      rw [List.dropLast_concat, suL_ap] at i
      rw [if_pos o1]
      have : suL L.dropLast + v + l ≤ (if decide (b ≠ 1) = true then suL L.dropLast + (v + l) else suL L.dropLast + (u + kE1 l b)) := by
        split <;> omega
      omega
theorem S_pcs_su {kd : Int} : ∀ (ws : List (Int × Int)) (acc : Int), ws ≠ [] → acc + suP ws ≤ suP (S_pcs kd ws acc)
  | [], acc, h => absurd rfl h
  | (l, b) :: r, acc, _ => by
    have e1 : suP ((l, b) :: r) = l + suP r := rfl
    rw [S_pcs, e1]
    by_cases q : r = []
    · rw [if_pos q, q]
      show acc + (l + 0) ≤ acc + l + 0
      omega
    · rw [if_neg q]
      by_cases q2 : b = 2 ∨ kd = 3 ∧ b ≠ 1
      · rw [if_pos q2]
        have := S_pcs_su (kd := kd) r (acc + l + (if b = 3 then 0 else 1)) q
        have : 0 ≤ (if b = 3 then (0 : Int) else 1) := by split <;> omega
        omega
      · rw [if_neg q2]
        have := S_pcs_su (kd := kd) r 0 q
        show acc + (l + suP r) ≤ acc + l + suP (S_pcs kd r 0)
        omega
/-- the letters of a text -/
def ltB (b : Int → Int) (k : Nat) : Int := sumF (fun j => b (7 + j)) 0 k
theorem suP_ws {b : Int → Int} : suP (wsB b) = ltB b (b 4).toNat := by
  have gen : ∀ (n s : Nat) , suP ((List.range' s n).map (fun k : Nat => (b (7 + (k : Int)), b (19 + (k : Int))))) = sumF (fun j => b (7 + j)) s n := by
    intro n
    induction n with
    | zero => intro s; rfl
    | succ n ih =>
      intro s
      rw [List.range'_succ, List.map_cons, sumF_1]
      show b (7 + (s : Int)) + suP _ = _
      rw [ih (s + 1)]
      rfl
  have := gen (b 4).toNat 0
  unfold wsB ltB
  rw [List.range_eq_range']
  exact this
theorem ltB_nn {b : Int → Int} (w : WB b) {k : Nat} (hk : (k : Int) ≤ b 4) : 0 ≤ ltB b k ∧ ltB b k ≤ 12 * k := sumF_bd (F := fun j => b (7 + j)) (B := 12) k (fun j j0 j1 => by have := (w.2.2.2.2.1 j (by omega) (by omega)).1; show 0 ≤ b (7 + (j : Int)) ∧ b (7 + (j : Int)) ≤ 12; omega)
/-- letters fit the lines' room -/
theorem lt_room {b : Int → Int} (w : WB b) (h3 : b 3 ≤ 3) {x : Int} (hx : mnB b ≤ x) : ltB b (b 4).toNat ≤ x * (lnB b x).length := by
  have rm := lnB_rm w h3 hx
  have ib := indOf_bd (b 3)
  have mb := mnB_bd w
  by_cases q : wsB b = []
  · have e : suP (wsB b) = 0 := by rw [q]; rfl
    rw [suP_ws] at e
    rw [e]
    exact Int.mul_nonneg (by omega) (by omega)
  · have h1 := S_pcs_su (kd := b 3) (wsB b) 0 q
    have h2 := S_brk_su (room := x - indOf (b 3)) (psB b) [] 0 0 false (fun p hp => by have := ((psB_ok w).1 p hp).1.1; omega) (by omega) (fun z => by cases z)
    have h3 := suL_le (B := x) (lnB b x) (fun z hz => by have := rm z hz; omega)
    rw [suP_ws] at h1
    have h4 : (0 : Int) + suP (psB b) ≤ suL (lnB b x) := h2
    have h5 : 0 + ltB b (b 4).toNat ≤ suP (psB b) := h1
    omega
/-- a content's ink -/
def inkB (b : Int → Int) (x : Int) : Int := if b 3 ≤ 3 then ltB b (b 4).toNat else min (b 5) x * hB b x
theorem inkB_bd {b : Int → Int} (w : WB b) {x : Int} (hx : mnB b ≤ x) : 0 ≤ inkB b x ∧ inkB b x ≤ x * hB b x := by
  have mb := mnB_bd w
  have h5 := w.2.2.1
  unfold inkB
  by_cases q : b 3 ≤ 3
  · rw [if_pos q]
    refine ⟨(ltB_nn w (by have := w.2.1; omega)).1, Int.le_trans (lt_room w q hx) (Int.mul_le_mul_of_nonneg_left ?_ (by omega))⟩
    unfold hB
    rw [if_pos q]
    split <;> omega
  · have hb := hB_bd w (x := x) (fun _ => by have := mb.2.2 (by omega); omega)
    rw [if_neg q]
    exact ⟨Int.mul_nonneg (by omega) hb.1, Int.mul_le_mul_of_nonneg_right (by omega) hb.1⟩
def inkN (m W : Int → Int) (i : Int) : Int := inkB (blk m i) (wC m i W - 2 * m 3)
theorem inkN_bd {m W : Int → Int} (w : WF m) (g : GW m W) {i : Int} (hi : 0 ≤ i ∧ i < m 5) : 0 ≤ inkN m W i ∧ inkN m W i ≤ wC m i W * hC m i (wC m i W) := by
  have wb := (w.2.2.1 i hi.1 hi.2).2
  have gi := g i hi.1 hi.2
  have hp := w.1.2.2.2.1
  have mb := mnB_bd wb
  have mc : mnC m i = mnB (blk m i) + 2 * m 3 := rfl
  obtain ⟨h1, h2⟩ := inkB_bd wb (x := wC m i W - 2 * m 3) (by omega)
  have hb := hB_bd wb (x := wC m i W - 2 * m 3) (fun z => by have := mb.2.2 z; omega)
  refine ⟨h1, Int.le_trans h2 ?_⟩
  have e : hC m i (wC m i W) = hB (blk m i) (wC m i W - 2 * m 3) + 2 * m 3 := rfl
  exact Int.mul_le_mul (by omega) (by omega) hb.1 (by omega)
/-! cells in rows -/
theorem sumF_mul {F : Int → Int} {x : Int} {c : Int} : ∀ n : Nat, sumF (fun j => F j * x) c n = sumF F c n * x
  | 0 => by rw [sumF, sumF, Int.zero_mul]
  | n + 1 => by rw [sumF, sumF, sumF_mul n, Int.add_mul]
theorem sumF_one {x k K : Int} (hk : 0 ≤ k ∧ k < K) : sumF (fun j => if j = k then x else 0) 0 K.toNat = x := by
  rw [sumF_in (c := k) (s := 1) hk.1 (by omega) (by omega) (fun j _ _ h => if_neg (by omega))]
  show sumF _ k 1 = x
  rw [sumF, sumF]
  show 0 + (if k + ((0 : Nat) : Int) = k then x else 0) = x
  rw [if_pos (by omega)]
  omega
/-- what the first k cells of a row cover -/
def cvF (m V : Int → Int) (r : Int) : Nat → Int → Int
  | 0, _ => 0
  | k + 1, c => cvF m V r k c + (if blk m k 0 = r ∧ blk m k 1 ≤ c ∧ c < blk m k 1 + blk m k 2 then V c else 0)
theorem cvF_le {m V : Int → Int} (w : WF m) {r c : Int} : ∀ k : Nat, (k : Int) ≤ m 5 → cvF m V r k c = 0 ∨ (cvF m V r k c = V c ∧ ∃ i : Int, 0 ≤ i ∧ i < k ∧ blk m i 0 = r ∧ blk m i 1 ≤ c ∧ c < blk m i 1 + blk m i 2)
  | 0, _ => Or.inl rfl
  | k + 1, hk => by
    rw [cvF]
    by_cases q : blk m k 0 = r ∧ blk m k 1 ≤ c ∧ c < blk m k 1 + blk m k 2
    · rw [if_pos q]
      rcases cvF_le w (V := V) (r := r) (c := c) k (by omega) with z | ⟨z, i, i0, i1, i2, i3, i4⟩
      · exact Or.inr ⟨by omega, k, by omega, by omega, q⟩
      · exfalso
        have := w.2.2.2 i k i0 (by omega) (by omega) (by omega)
        omega
    · rw [if_neg q]
      rcases cvF_le w (V := V) (r := r) (c := c) k (by omega) with z | ⟨z, i, i0, i1, i2⟩
      · exact Or.inl (by omega)
      · exact Or.inr ⟨by omega, i, i0, by omega, i2⟩
/-- the widths of a row's first k cells -/
def rwF (m W : Int → Int) (r : Int) : Nat → Int
  | 0 => 0
  | k + 1 => rwF m W r k + (if blk m k 0 = r then wC m k W else 0)
theorem rwF_cv {m W : Int → Int} (w : WF m) {r : Int} : ∀ k : Nat, (k : Int) ≤ m 5 → rwF m W r k ≤ sumF (cvF m (fun c => W c + m 2) r k) 0 (m 0).toNat
  | 0, _ => by
    rw [rwF, sumF_z (F := cvF m (fun c => W c + m 2) r 0) _ (fun _ _ _ => rfl)]
    exact Int.le_refl _
  | k + 1, hk => by
    have h2 := w.1.2.2.1
    have co := (w.2.2.1 k (by omega) (by omega)).1
    have b1 := co.2.1
    have b2 := co.2.2.1
    have b3 := co.2.2.2
    have ih := rwF_cv w (W := W) (r := r) k (by omega)
    have e : sumF (cvF m (fun c => W c + m 2) r (k + 1)) 0 (m 0).toNat = sumF (cvF m (fun c => W c + m 2) r k) 0 (m 0).toNat + sumF (fun c => if blk m k 0 = r ∧ blk m k 1 ≤ c ∧ c < blk m k 1 + blk m k 2 then W c + m 2 else 0) 0 (m 0).toNat := by
      rw [← sumF_add]
      exact sumF_cg _ (fun _ _ _ => rfl)
    rw [rwF, e]
    by_cases q : blk m k 0 = r
    · rw [if_pos q]
      have e2 : sumF (fun c => if blk m k 0 = r ∧ blk m k 1 ≤ c ∧ c < blk m k 1 + blk m k 2 then W c + m 2 else 0) 0 (m 0).toNat = sumF (fun c => W c + m 2) (blk m k 1) (blk m k 2).toNat := by
        rw [sumF_in (c := blk m k 1) (s := blk m k 2) b1 (by omega) b3 (fun j _ _ h => if_neg (by omega))]
        exact sumF_cg _ (fun j j1 j2 => if_pos ⟨q, j1, by omega⟩)
      have e3 : sumF (fun c => W c + m 2) (blk m k 1) (blk m k 2).toNat = sumF W (blk m k 1) (blk m k 2).toNat + m 2 * blk m k 2 := by
        have e4 : sumF (fun _ => m 2) (blk m k 1) (blk m k 2).toNat = m 2 * blk m k 2 := by
          have gen : ∀ n : Nat, sumF (fun _ => m 2) (blk m k 1) n = m 2 * n := by
            intro n
            induction n with
            | zero => rw [sumF]; show 0 = m 2 * 0; omega
            | succ n ih => rw [sumF, ih, Int.natCast_add, Int.mul_add]; show _ = m 2 * (n : Int) + m 2 * 1; omega
          rw [gen, Int.toNat_of_nonneg (by omega)]
        rw [← e4]
        exact sumF_add (F := W) (G := fun _ => m 2) _
      rw [e2, e3]
      unfold wC
      rw [Int.mul_sub]
      omega
    · rw [if_neg q, sumF_z (F := fun c => if blk m k 0 = r ∧ blk m k 1 ≤ c ∧ c < blk m k 1 + blk m k 2 then W c + m 2 else 0) _ (fun c _ _ => if_neg (fun z => q z.1))]
      omega
/-- a row's cells are no wider than the table -/
theorem rwF_le {m W : Int → Int} (w : WF m) {r : Int} (hn : ∀ c, 0 ≤ c → c < m 0 → 0 ≤ W c) (hs : sumF W 0 (m 0).toNat ≤ usF m) : rwF m W r (m 5).toNat ≤ m 1 := by
  have h0 := w.1.1
  have h2 := w.1.2.2.1
  have h5 := w.1.2.2.2.2.2
  have a := rwF_cv w (W := W) (r := r) (m 5).toNat (by omega)
  have b : sumF (cvF m (fun c => W c + m 2) r (m 5).toNat) 0 (m 0).toNat ≤ sumF (fun c => W c + m 2) 0 (m 0).toNat := sumF_mo2 _ (fun j j0 j1 => by
    have := hn j j0 (by omega)
    show _ ≤ W j + m 2
    rcases cvF_le w (V := fun c => W c + m 2) (r := r) (c := j) (m 5).toNat (by omega) with z | ⟨z, -⟩
    · omega
    · rw [z]; exact Int.le_refl _)
  have c : sumF (fun c => W c + m 2) 0 (m 0).toNat = sumF W 0 (m 0).toNat + m 2 * m 0 := by
    have e4 : sumF (fun _ => m 2) 0 (m 0).toNat = m 2 * m 0 := by
      have gen : ∀ n : Nat, sumF (fun _ => m 2) 0 n = m 2 * n := by
        intro n
        induction n with
        | zero => rw [sumF]; show 0 = m 2 * 0; omega
        | succ n ih => rw [sumF, ih, Int.natCast_add, Int.mul_add]; show _ = m 2 * (n : Int) + m 2 * 1; omega
      rw [gen, Int.toNat_of_nonneg (by omega)]
    rw [← e4]
    exact sumF_add (F := W) (G := fun _ => m 2) _
  unfold usF at hs
  rw [Int.mul_add] at hs
  omega
/-- the ink of the first k cells -/
def inkS (m W : Int → Int) : Nat → Int
  | 0 => 0
  | k + 1 => inkS m W k + inkN m W k
theorem rhN_gt {m W : Int → Int} {r : Int} : ∀ (n k : Nat), k < n → blk m k 0 = r → hC m k (wC m k W) ≤ rhN m r W n
  | 0, k, h, _ => by omega
  | n + 1, k, h, hr => by
    rw [rhN]
    by_cases e : k = n
    · subst e
      rw [if_pos hr]
      omega
    · have := rhN_gt (W := W) n k (by omega) hr
      split <;> omega
theorem inkS_rw {m W : Int → Int} (w : WF m) (g : GW m W) : ∀ k : Nat, (k : Int) ≤ m 5 → 0 ≤ inkS m W k ∧ inkS m W k ≤ sumF (fun r => rhN m r W (m 5).toNat * rwF m W r k) 0 (m 4).toNat
  | 0, _ => by
    rw [inkS, sumF_z _ (fun j _ _ => by show _ * (0 : Int) = 0; rw [Int.mul_zero])]
    omega
  | k + 1, hk => by
    have ih := inkS_rw w g k (by omega)
    have co := (w.2.2.1 k (by omega) (by omega)).1.1
    have ib := inkN_bd w g (i := k) ⟨by omega, by omega⟩
    have hb := hC_bd w g (i := k) ⟨by omega, by omega⟩
    have hr := rhN_gt (m := m) (W := W) (r := blk m k 0) (m 5).toNat k (by omega) rfl
    have e : sumF (fun r => rhN m r W (m 5).toNat * rwF m W r (k + 1)) 0 (m 4).toNat = sumF (fun r => rhN m r W (m 5).toNat * rwF m W r k) 0 (m 4).toNat + wC m k W * rhN m (blk m k 0) W (m 5).toNat := by
      rw [← sumF_one (x := wC m k W * rhN m (blk m k 0) W (m 5).toNat) (k := blk m k 0) (K := m 4) co, ← sumF_add]
      refine sumF_cg _ (fun j _ _ => ?_)
      show rhN m j W (m 5).toNat * (rwF m W j k + (if blk m k 0 = j then wC m k W else 0)) = rhN m j W (m 5).toNat * rwF m W j k + (if j = blk m k 0 then wC m k W * rhN m (blk m k 0) W (m 5).toNat else 0)
      rw [Int.mul_add]
      by_cases q : blk m k 0 = j
      · rw [if_pos q, if_pos q.symm, q, Int.mul_comm (wC m k W)]
      · rw [if_neg q, if_neg (fun z => q z.symm), Int.mul_zero]
    have h9 : wC m k W * hC m k (wC m k W) ≤ wC m k W * rhN m (blk m k 0) W (m 5).toNat := Int.mul_le_mul_of_nonneg_left hr hb.2.1.1
    rw [inkS, e]
    omega
/-- ink lies within the table -/
theorem ink_area {m W : Int → Int} (w : WF m) (g : GW m W) (hn : ∀ c, 0 ≤ c → c < m 0 → 0 ≤ W c) (hs : sumF W 0 (m 0).toNat ≤ usF m) : 0 ≤ inkS m W (m 5).toNat ∧ inkS m W (m 5).toNat ≤ m 1 * taH m W := by
  have h1 := w.1.2.1
  have h2 := w.1.2.2.1
  have h4 := w.1.2.2.2.2.1
  have h5 := w.1.2.2.2.2.2
  have a := inkS_rw w g (m 5).toNat (by omega)
  have b : sumF (fun r => rhN m r W (m 5).toNat * rwF m W r (m 5).toNat) 0 (m 4).toNat ≤ sumF (fun r => rhN m r W (m 5).toNat * m 1) 0 (m 4).toNat := sumF_mo2 _ (fun j _ _ => Int.mul_le_mul_of_nonneg_left (rwF_le w hn hs) (rhN_bd w g (m 5).toNat (by omega)).1)
  have c : sumF (fun r => rhN m r W (m 5).toNat * m 1) 0 (m 4).toNat = sumF (fun r => rhN m r W (m 5).toNat) 0 (m 4).toNat * m 1 := sumF_mul (F := fun r => rhN m r W (m 5).toNat) _
  have d : 0 ≤ m 2 * (m 4 + 1) := Int.mul_nonneg (by omega) (by omega)
  have f : 0 ≤ m 1 * (m 2 * (m 4 + 1)) := Int.mul_nonneg (by omega) d
  refine ⟨a.1, ?_⟩
  unfold taH
  rw [Int.mul_add, Int.mul_comm (m 1) (sumF _ _ _)]
  omega
