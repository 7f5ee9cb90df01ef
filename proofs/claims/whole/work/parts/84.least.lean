/-! ===== STAGE B: the class's search: boundRows, leastHeight, restart ===== -/
theorem nd_36 {m : Int → Int} (w : WF m) {sl : Int} (h1 : 0 ≤ sl) (h2 : sumF (ndF m) 0 (m 0).toNat + sl ≤ 36) : sl ≤ 36 ∧ ∀ c, 0 ≤ c → c < m 0 → ndF m c ≤ 36 := by
  have h0 := w.1.1
  have n0 := ndS_nn w (m 0).toNat 0 (by omega) (by omega)
  refine ⟨by omega, fun c z1 z2 => ?_⟩
  have := sumF_ge (F := ndF m) (m 0).toNat (fun j hj => by have := ndF_bd w (c := (j : Int)) (by omega); omega) c.toNat (by omega)
  rw [Int.toNat_of_nonneg z1] at this
  omega
theorem low_bd {m : Int → Int} (w : WF m) {sl : Int} (h1 : 0 ≤ sl) (h2 : sumF (ndF m) 0 (m 0).toNat + sl ≤ 36) {i : Int} (hi : 0 ≤ i ∧ i < m 5) : ((4 ≤ blk m i 3 → 1 ≤ wC m i (ndF m) - 2 * m 3) ∧ 0 ≤ wC m i (ndF m) ∧ wC m i (ndF m) ≤ 406) ∧ (0 ≤ hC m i (wC m i (ndF m)) ∧ hC m i (wC m i (ndF m)) ≤ 28) ∧ 0 ≤ hC m i (wC m i (ndF m) + sl) ∧ hC m i (wC m i (ndF m) + sl) ≤ 28 := by
  obtain ⟨b1, b2⟩ := nd_36 w h1 h2
  have co := (w.2.2.1 i hi.1 hi.2).1
  have wb := (w.2.2.1 i hi.1 hi.2).2
  have hp := w.1.2.2.2.1
  unfold CO at co
  obtain ⟨q1, q2, q3⟩ := hC_t w (t := ndF m) (c := m 0) hi (by omega) (fun x x1 x2 => by have := b2 x x1 x2; omega)
  have := hB_bd wb (x := wC m i (ndF m) + sl - 2 * m 3) (fun z => by have := q1 z; omega)
  unfold hC at q3 ⊢
  exact ⟨⟨q1, by omega, by omega⟩, by omega, by omega, by omega⟩
theorem g_br12 {S C T : Nat} {m t : Int → Int} (w : WF m) {sl : Int} (h1 : 0 ≤ sl) (h2 : sumF (ndF m) 0 (m 0).toNat + sl ≤ 36) : ∀ (d k : Nat) (h : Hp) (n : Nat) (f : Int → Int), (k : Int) + d = m 5 → d < n → LU h S C T → TM h T m → AR h (S + 40) (m 0) (ndF m) → AR h (S + 42 + 0) (m 4) f → BP m (lowF m sl) t (fun i => blk m i 1 + blk m i 2 ≤ 0) f →
    ∃ h2 f2, f_X6_boundRows_L12 n h S (iN sl) (iN k) = some (h2, .inr ()) ∧ FZ (fun x j => pH T x j ∨ x = S + 42 + 0) h h2 ∧ TM h2 T m ∧ AR h2 (S + 42 + 0) (m 4) f2 ∧ BP m (lowF m sl) t (fun i => blk m i 1 + blk m i 2 ≤ 0) f2 := by
  have hm := w.1.2.2.2.2.2
  have h4 := w.1.2.2.2.2.1
  have h0 := w.1.1
  have h3 := w.1.2.2.2.1
  obtain ⟨sb, ndb⟩ := nd_36 w h1 h2
  intro d
  induction d with
  | zero =>
    intro k h n f hk hn l tm An Af bp
    obtain ⟨n, rfl⟩ : ∃ z, n = z + 1 := ⟨n - 1, by omega⟩
    refine ⟨h, f, ?_, FZ.rf, tm, Af, bp⟩
    show f_X6_boundRows_B12 (f_X6_boundRows_L12 n) h S (iN sl) (iN k) = _
    unfold f_X6_boundRows_B12
    rw [chk_pos l.o, l.r0, chk_pos tm.1.o, tm.ns, if_pos (yleN (by omega) (by omega) (by omega))]
  | succ d ih =>
    intro k h n f hk hn l tm An Af bp
    obtain ⟨n, rfl⟩ : ∃ z, n = z + 1 := ⟨n - 1, by omega⟩
    have st := l.st
    have hki : 0 ≤ (k : Int) ∧ (k : Int) < m 5 := by omega
    have cc := tm.cc hki.1 hki.2
    have co := (w.2.2.1 k hki.1 hki.2).1
    unfold CO at co
    obtain ⟨⟨q1, q2, q3⟩, q4, q5⟩ := low_bd w h1 h2 hki
    obtain ⟨ha, ea, fa, ta⟩ := g_heightWithin tm w hki (x := wC m k (ndF m)) (by omega) q1
    have eca : cA ha T k = cA h T k := cA_ly fa.1
    obtain ⟨hb, eb, fb, tb⟩ := g_heightWithin ta w hki (x := wC m k (ndF m) + sl) (by omega) (fun z => by have := q1 z; omega)
    rw [eca] at eb
    have fab := fa.tr fb
    have la := l.ly fa.1
    have lb := l.ly fab.1
    have ecb : cA hb T k = cA h T k := cA_ly fab.1
    have ccb := tb.cc hki.1 hki.2
    have cob := tb.1.co (i := k) (by omega)
    rw [ecb] at ccb cob
    have Afb : AR hb (S + 42 + 0) (m 4) f := Af.fz fab (fun j z => by unfold pH at z; omega)
    obtain ⟨b1, -, -⟩ := bp (blk m k 0) (by omega) (by omega)
    have rf := Afb (blk m k 0) (by omega) (by omega)
    have elow : min (hC m k (wC m k (ndF m))) (hC m k (wC m k (ndF m) + sl)) = lowF m sl k := rfl
    have lb2 : 0 ≤ lowF m sl k ∧ lowF m sl k ≤ 28 := by unfold lowF; omega
    generalize hv : max (f (blk m k 0)) (lowF m sl k) = v
    have fp : FZ (pA (S + 42 + 0)) hb (putI hb (S + 42 + 0) (blk m k 0).toNat (iN v)) := FZ.pa
    obtain ⟨h2', f2, e2, g2, t2, a2, bp2⟩ := ih (k + 1) _ n (up f (blk m k 0) v) (by omega) (by omega) (lb.ly fp.1) (tb.fz hm fp (fun x j z1 z2 z3 => by unfold pA at z3; omega)) ((An.fz fab (fun j z => by unfold pH at z; omega)).ne (by omega)) (Afb.put (k := blk m k 0) (v := v) (by omega)) (by
      intro r r1 r2
      obtain ⟨a1, a2, a3⟩ := bp r r1 r2
      by_cases hr : r = blk m k 0
      · subst hr
        rw [up_eq]
        refine ⟨by clear a3; omega, fun i i1 i2 i3 i4 => ?_, ?_⟩
        · have := (w.2.2.1 i i1 i2).1
          unfold CO at this
          exfalso
          clear a3
          omega
        · by_cases q : lowF m sl k ≤ f (blk m k 0)
          · rw [← hv, Int.max_eq_left q]
            exact a3
          · rw [← hv, Int.max_eq_right (by omega)]
            exact Or.inr ⟨k, hki.1, hki.2, rfl, Or.inl rfl⟩
      · rw [up_ne hr]
        exact ⟨a1, a2, a3⟩)
    refine ⟨h2', f2, ?_, ((fab.mo (fun x j z => Or.inl z)).tr (fp.mo (fun x j z => Or.inr z))).tr g2, t2, a2, bp2⟩
    have e0 := lb.br (d := 0) (by omega)
    have o0 := lb.bo (d := 0) (by omega)
    have w0 := lb.bw (d := 0) (by omega)
    rw [show (0 : Int).toNat = 0 from rfl] at e0
    show f_X6_boundRows_B12 (f_X6_boundRows_L12 n) h S (iN sl) (iN k) = _
    unfold f_X6_boundRows_B12
    rw [chk_pos l.o, l.r0, chk_pos tm.1.o, tm.ns, if_neg (nleN (by omega) (by omega) (by omega)), tm.1.r8, chk_pos tm.1.o3, tm.1.w3, ck_in (by omega) (by omega) (by omega), cA_eq (by omega) (by omega), chk_pos (tm.1.co (by omega)), l.r4, chk_pos l.o40, g_widthIn tm w hki l.o40 l.w40 An, bnd_ret, chk_pos l.o, l.r0, chk_pos tm.1.o, ea, bnd_ret, chk_pos la.o, la.r0, chk_pos ta.1.o, iN_add, eb, bnd_ret, chk_pos lb.o, lb.r7, chk_pos lb.o41, lb.w41, ck_in (by omega) (by omega) (by omega), e0, chk_pos o0, chk_pos cob, ccb.1.1, w0, ck_in (by omega) (by omega) (by omega), iN_cl (z := blk m k 0) (by omega) (by omega), rf, g_jmin ⟨by omega, by omega⟩ ⟨by omega, by omega⟩, elow, g_jmax ⟨by omega, by omega⟩ ⟨by omega, by omega⟩, hv, lt_is, iN_add]
    exact e2
theorem g_boundRows {h : Hp} {S C T : Nat} {m t : Int → Int} (w : WF m) {sl : Int} (h1 : 0 ≤ sl) (h2 : sumF (ndF m) 0 (m 0).toNat + sl ≤ 36) (l : LU h S C T) (tm : TM h T m) (An : AR h (S + 40) (m 0) (ndF m)) :
    ∃ h2 f2, f_X6_boundRows h S (iN sl) = some (h2, .inr ()) ∧ FZ (fun x j => pH T x j ∨ x = S + 42 + 0) h h2 ∧ TM h2 T m ∧ AR h2 (S + 42 + 0) (m 4) f2 ∧ BP m (lowF m sl) t (fun i => blk m i 1 + blk m i 2 ≤ 0) f2 := by
  have hm := w.1.2.2.2.2.2
  have h4 := w.1.2.2.2.2.1
  have st := l.st
  have o0 := l.bo (d := 0) (by omega)
  have w0 := l.bw (d := 0) (by omega)
  have fp : FZ (pA (S + 42 + 0)) h (fillN h (S + 42 + 0) (iN 0) 6) := ⟨Ly.fill, fun x j z => if_neg (fun q => z q.1)⟩
  have A0 : AR (fillN h (S + 42 + 0) (iN 0) 6) (S + 42 + 0) (m 4) (fun _ => 0) := fun x x1 x2 => if_pos ⟨rfl, by omega⟩
  obtain ⟨h2', f2, e2, g2, t2, a2, bp2⟩ := g_br12 (t := t) w h1 h2 (m 5).toNat 0 _ 2000 (fun _ => 0) (by omega) (by omega) (l.ly fp.1) (tm.fz hm fp (fun x j z1 z2 z3 => by unfold pA at z3; omega)) (An.fz fp (fun j z => by unfold pA at z; omega)) A0 (fun r r1 r2 => ⟨⟨Int.le_refl 0, by show (0 : Int) ≤ 28; omega⟩, fun i i1 i2 i3 i4 => by have := (w.2.2.1 i i1 i2).1; unfold CO at this; exfalso; omega, Or.inl rfl⟩)
  refine ⟨h2', f2, ?_, (fp.mo (fun x j z => Or.inr z)).tr g2, t2, a2, bp2⟩
  have e0 := l.br (d := 0) (by omega)
  rw [show (0 : Int).toNat = 0 from rfl] at e0
  unfold f_X6_boundRows
  rw [chk_pos l.o, l.r7, chk_pos l.o41, l.w41, ck_in (by omega) (by omega) (by omega), e0, chk_pos o0, g_fill o0 (by rw [w0]; omega), bnd_ret, w0]
  exact e2
def slF (m : Int → Int) (x : Int) : Int := x - m 2 * (m 0 + 1) - sumF (ndF m) 0 (m 0).toNat
def bsC (m : Int → Int) (L x : Int) : BS := if slF m x = 0 ∨ (0 < slF m x ∧ 0 ≤ lfF m (m 0).toNat) then foB (taH m) (L, fun _ => 0) (layC m (lfF m (m 0).toNat) (m 0).toNat 0 (slF m x) (fun _ => 0)) else (L, fun _ => 0)
def lhF (m : Int → Int) (L x : Int) : Int := if (bsC m L x).1 < L then (bsC m L x).1 else -1
def CK (h : Hp) (S : Nat) (m : Int → Int) (L : Int) : Prop := ∀ x, 0 ≤ x → x ≤ 36 → qI h (S + 1) x.toNat = iN (-2) ∨ (qI h (S + 1) x.toNat = iN (lhF m L x) ∧ ((bsC m L x).1 < L → AR h (S + 3 + x.toNat) (m 0) (bsC m L x).2))
def SM (h : Hp) (S : Nat) (m : Int → Int) (L : Int) : Prop := AR h (S + 40) (m 0) (ndF m) ∧ qI h S 5 = iN (sumF (ndF m) 0 (m 0).toNat) ∧ qI h S 6 = iN (lfF m (m 0).toNat) ∧ qI h S 9 = iN L ∧ CK h S m L
theorem SM.fz {P : Nat → Nat → Prop} {h h2 : Hp} {S : Nat} {m : Int → Int} {L : Int} (k : SM h S m L) (f : FZ P h h2) (hp : ∀ x j, S ≤ x → x ≤ S + 47 → ¬ P x j) : SM h2 S m L := by
  obtain ⟨a1, a2, a3, a4, a5⟩ := k
  refine ⟨a1.fz f (fun j => hp _ j (by omega) (by omega)), (f.2 S 5 (hp _ _ (by omega) (by omega))).trans a2, (f.2 S 6 (hp _ _ (by omega) (by omega))).trans a3, (f.2 S 9 (hp _ _ (by omega) (by omega))).trans a4, fun x x1 x2 => ?_⟩
  rw [f.2 (S + 1) _ (hp _ _ (by omega) (by omega))]
  exact (a5 x x1 x2).imp id (fun z => ⟨z.1, fun q => (z.2 q).fz f (fun j => hp _ j (by omega) (by omega))⟩)
def pS (T S x j : Nat) : Prop := pH T x j ∨ (S ≤ x ∧ x ≤ S + 47)
def pE (T S : Nat) (a : Int) (x j : Nat) : Prop := pH T x j ∨ (x = S ∧ (j = 10 ∨ j = 11)) ∨ x = S + 47 ∨ (S + 42 ≤ x ∧ x ≤ S + 46) ∨ x = S + 3 + a.toNat ∨ (x = S + 1 ∧ j = a.toNat)
theorem nds_bd {m : Int → Int} (w : WF m) : 0 ≤ sumF (ndF m) 0 (m 0).toNat ∧ sumF (ndF m) 0 (m 0).toNat ≤ 411600 := by
  have h0 := w.1.1
  have := sumF_bd (F := ndF m) (B := 102900) (m 0).toNat (fun j _ z2 => by have := ndF_bd w (c := (j : Int)) (by omega); omega)
  omega
theorem foB_in {H : (Int → Int) → Int} : ∀ (L : List (Int → Int)) (s : BS), (foB H s L = s) ∨ (∃ t ∈ L, foB H s L = (H t, t))
  | [], s => Or.inl rfl
  | t :: L, s => by
    have e : foB H s (t :: L) = foB H (stB H s t) L := rfl
    rw [e]
    rcases foB_in (H := H) L (stB H s t) with h | ⟨x, hx, h⟩
    · rw [h]
      unfold stB
      by_cases q : H t < s.1
      · rw [if_pos q]; exact Or.inr ⟨t, List.mem_cons_self .., rfl⟩
      · rw [if_neg q]; exact Or.inl rfl
    · exact Or.inr ⟨x, List.mem_cons_of_mem _ hx, h⟩
/-- what is found is a layout -/
theorem bsC_in {m : Int → Int} (w : WF m) {L x : Int} (hx : x ≤ 36) (h : (bsC m L x).1 < L) : (bsC m L x).1 = taH m (bsC m L x).2 ∧ (0 ≤ slF m x ∧ slF m x ≤ 36) ∧ (bsC m L x).2 ∈ layC m (lfF m (m 0).toNat) (m 0).toNat 0 (slF m x) (fun _ => 0) := by
  have nb := nds_bd w
  have h2 := w.1.2.2.1
  have h0 := w.1.1
  have n1 : 0 ≤ m 2 * (m 0 + 1) := Int.mul_nonneg (by omega) (by omega)
  unfold bsC at h ⊢
  by_cases c : slF m x = 0 ∨ (0 < slF m x ∧ 0 ≤ lfF m (m 0).toNat)
  · rw [if_pos c] at h ⊢
    rcases foB_in (H := taH m) (layC m (lfF m (m 0).toNat) (m 0).toNat 0 (slF m x) (fun _ => 0)) (L, fun _ => 0) with e | ⟨t, ht, e⟩
    · rw [e] at h; exfalso; dsimp only at h; omega
    · rw [e]
      exact ⟨rfl, ⟨by omega, by unfold slF; omega⟩, ht⟩
  · rw [if_neg c] at h; exfalso; dsimp only at h; omega
/-- and its widths give every cell its minimum -/
theorem bs_GW {m : Int → Int} (w : WF m) {L x : Int} (hx : x ≤ 36) (h : (bsC m L x).1 < L) : GW m (bsC m L x).2 ∧ (∀ c, 0 ≤ c → c < m 0 → ndF m c ≤ (bsC m L x).2 c ∧ (bsC m L x).2 c ≤ 72) := by
  have nb := nds_bd w
  have h2 := w.1.2.2.1
  have h0 := w.1.1
  have n1 : 0 ≤ m 2 * (m 0 + 1) := Int.mul_nonneg (by omega) (by omega)
  obtain ⟨-, ⟨s1, s2⟩, hin⟩ := bsC_in w hx h
  have es : sumF (ndF m) 0 (m 0).toNat + slF m x ≤ 36 := by unfold slF; omega
  have n36 := nd_36 w s1 es
  have mem := (layC_mem w (m 0).toNat 0 (slF m x) _ (by omega) (by omega) s1 hin).2
  have b : ∀ c, 0 ≤ c → c < m 0 → ndF m c ≤ (bsC m L x).2 c ∧ (bsC m L x).2 c ≤ 72 := fun c z1 z2 => by
    have := mem c z1 z2
    have := n36.2 c z1 z2
    omega
  refine ⟨GW_of w (fun c z1 z2 => ?_), b⟩
  have := b c z1 z2
  have := (ndF_bd w (c := c) ⟨z1, z2⟩).2.2
  omega
theorem lh_bd {m : Int → Int} (w : WF m) {L x : Int} (hx : x ≤ 36) : -1 ≤ lhF m L x ∧ lhF m L x ≤ 182 ∧ (0 ≤ lhF m L x ↔ (bsC m L x).1 < L) ∧ (lhF m L x < 0 ↔ lhF m L x = -1) := by
  unfold lhF
  by_cases h : (bsC m L x).1 < L
  · rw [if_pos h, (bsC_in w hx h).1]
    have := taH_bd w (bs_GW w hx h).1
    exact ⟨by omega, by omega, ⟨fun _ => by rw [← (bsC_in w hx h).1]; exact h, fun _ => by omega⟩, by omega⟩
  · rw [if_neg h]
    exact ⟨by omega, by omega, ⟨fun z => by omega, fun z => absurd z h⟩, by omega⟩
theorem g_leastHeight {h : Hp} {S C T : Nat} {m : Int → Int} (w : WF m) {L x : Int} (hL : -10 ≤ L ∧ L ≤ 2000000) (hx : 0 ≤ x ∧ x ≤ 36) (l : LU h S C T) (tm : TM h T m) (sm : SM h S m L) :
    ∃ h2, f_X6_leastHeight h S (iN x) = some (h2, .inr (iN (lhF m L x))) ∧ FZ (pS T S) h h2 ∧ TM h2 T m ∧ SM h2 S m L ∧ ((bsC m L x).1 < L → AR h2 (S + 3 + x.toNat) (m 0) (bsC m L x).2) := by
  have hm := w.1.2.2.2.2.2
  have h0 := w.1.1
  have h2 := w.1.2.2.1
  have st := l.st
  have nb := nds_bd w
  have lfb := lfF_bd (m := m) (m 0).toNat
  have n1 : 0 ≤ m 2 * (m 0 + 1) := Int.mul_nonneg (by omega) (by omega)
  have n2 : m 2 * (m 0 + 1) ≤ 2 * 5 := Int.mul_le_mul (by omega) (by omega) (by omega) (by omega)
  obtain ⟨An, q5, q6, q9, ck⟩ := sm
  have lb := lh_bd w (L := L) (x := x) hx.2
  have xc : (iN x).toNatClampNeg = x.toNat := iN_cl hx.1 (by omega)
  have sub : ∀ h3, FZ (pE T S x) h h3 → FZ (pS T S) h h3 := fun h3 f => f.mo (fun y j z => by
    rcases z with z | z | z | z | z | z
    · exact Or.inl z
    · exact Or.inr (by omega)
    · exact Or.inr (by omega)
    · exact Or.inr (by omega)
    · exact Or.inr (by omega)
    · exact Or.inr (by omega))
  unfold f_X6_leastHeight
  rw [chk_pos l.o, l.r2, chk_pos l.o1, l.w1, ck_in (by omega) (by omega) (by omega), xc]
  by_cases hun : qI h (S + 1) x.toNat = iN (-2)
  · rw [if_pos hun, l.r0, chk_pos tm.1.o, g_usable tm, bnd_ret, chk_pos l.o, q9, lt_is, lt_is, q5, iN_sub]
    generalize hha : putI (putI h S 11 (iN L)) S 10 (iN x) = ha
    have esl : x - m 2 * (m 0 + 1) - sumF (ndF m) 0 (m 0).toNat = slF m x := rfl
    rw [esl]
    have slb : -500000 ≤ slF m x ∧ slF m x ≤ 36 := by unfold slF; omega
    have fa : FZ (pE T S x) h ha := by
      rw [← hha]
      exact (FZ.pI (Or.inr (Or.inl ⟨rfl, Or.inr rfl⟩))).tr (FZ.pI (Or.inr (Or.inl ⟨rfl, Or.inl rfl⟩)))
    have fa2 : FZ (fun y j => y = S ∧ (j = 10 ∨ j = 11)) h ha := by
      rw [← hha]
      exact (FZ.pI ⟨rfl, Or.inr rfl⟩).tr (FZ.pI ⟨rfl, Or.inl rfl⟩)
    have la := l.ly fa.1
    have ta := tm.fz hm fa2 (fun y j z1 z2 z3 => by omega)
    have q10a : qI ha S 10 = iN x := by rw [← hha, rd_eq]
    have q11a : qI ha S 11 = iN L := by rw [← hha, rd_nk (by omega), rd_eq]
    have q6a : qI ha S 6 = iN (lfF m (m 0).toNat) := (fa2.2 S 6 (by omega)).trans q6
    have Ana : AR ha (S + 40) (m 0) (ndF m) := An.fz fa2 (fun j z => by omega)
    have fin : ∀ h3, FZ (pE T S x) h h3 → TM h3 T m → CS h3 S m L x (bsC m L x) → ∃ h2, f_X6_leastHeight_L64 h3 S (iN x) = some (h2, .inr (iN (lhF m L x))) ∧ FZ (pS T S) h h2 ∧ TM h2 T m ∧ SM h2 S m L ∧ ((bsC m L x).1 < L → AR h2 (S + 3 + x.toNat) (m 0) (bsC m L x).2) := by
      intro h3 f3 t3 c3
      have l3 := l.ly f3.1
      have fp : FZ (pE T S x) h3 (putI h3 (S + 1) x.toNat (iN (lhF m L x))) := FZ.pI (Or.inr (Or.inr (Or.inr (Or.inr (Or.inr ⟨rfl, rfl⟩)))))
      have l4 := l3.ly fp.1
      have f4 := f3.tr fp
      have bs0 : -10 ≤ (bsC m L x).1 ∧ (bsC m L x).1 ≤ 2000000 := by
        by_cases q : (bsC m L x).1 < L
        · have := lb.2.2.1.mpr q
          have e : lhF m L x = (bsC m L x).1 := by unfold lhF; rw [if_pos q]
          omega
        · have : (bsC m L x).1 ≤ L := by
            unfold bsC
            split
            · exact foB_le _ _
            · exact Int.le_refl _
          omega
      have q9' : qI h3 S 9 = iN L := (f3.2 S 9 (fun z => by unfold pE pH at z; omega)).trans q9
      have arow : (bsC m L x).1 < L → AR (putI h3 (S + 1) x.toNat (iN (lhF m L x))) (S + 3 + x.toNat) (m 0) (bsC m L x).2 := fun q => (c3.2 q).ne (by omega)
      refine ⟨putI h3 (S + 1) x.toNat (iN (lhF m L x)), ?_, sub _ f4, t3.fz (P := pA (S + 1)) hm FZ.pa (fun y j z1 z2 z3 => by unfold pA at z3; omega), ⟨An.fz f4 (fun j z => by unfold pE pH at z; omega), (f4.2 S 5 (fun z => by unfold pE pH at z; omega)).trans q5, (f4.2 S 6 (fun z => by unfold pE pH at z; omega)).trans q6, (f4.2 S 9 (fun z => by unfold pE pH at z; omega)).trans q9, fun y y1 y2 => ?_⟩, arow⟩
      · have rdx : qI (putI h3 (S + 1) x.toNat (iN (lhF m L x))) (S + 1) x.toNat = iN (lhF m L x) := rd_eq
        have l88 : f_X6_leastHeight_L88 h3 S (iN x) (iN (lhF m L x)) (iN x) (S + 1) = some (putI h3 (S + 1) x.toNat (iN (lhF m L x)), .inr (iN (lhF m L x))) := by
          unfold f_X6_leastHeight_L88 f_X6_leastHeight_L89
          rw [chk_pos l3.o1, l3.w1, ck_in (by omega) (by omega) (by omega), xc, lt_is, chk_pos l4.o, l4.r2, chk_pos l4.o1, l4.w1, ck_in (by omega) (by omega) (by omega), rdx]
        unfold f_X6_leastHeight_L64
        rw [chk_pos l3.o, l3.r2, chk_pos l3.o1, q9', c3.1]
        by_cases q : (bsC m L x).1 < L
        · have e : lhF m L x = (bsC m L x).1 := by unfold lhF; rw [if_pos q]
          rw [if_neg (nleN (by omega) (by omega) (by omega))]
          rw [e] at l88 ⊢
          exact l88
        · have e : lhF m L x = -1 := by unfold lhF; rw [if_neg q]
          rw [if_pos (yleN (by omega) (by omega) (by omega))]
          rw [e] at l88 ⊢
          exact l88
      · by_cases hyx : y = x
        · subst hyx
          exact Or.inr ⟨rd_eq, arow⟩
        · rw [rd_nk (by omega), f3.2 (S + 1) y.toNat (fun z => by unfold pE pH at z; omega)]
          refine (ck y y1 y2).imp id (fun z => ⟨z.1, fun q => ((z.2 q).fz f3 (fun j z => by unfold pE pH at z; omega)).ne (by omega)⟩)
    have go : (slF m x = 0 ∨ (0 < slF m x ∧ 0 ≤ lfF m (m 0).toNat)) → ∃ h2, f_X6_leastHeight_L53 ha S (iN x) (iN (slF m x)) = some (h2, .inr (iN (lhF m L x))) ∧ FZ (pS T S) h h2 ∧ TM h2 T m ∧ SM h2 S m L ∧ ((bsC m L x).1 < L → AR h2 (S + 3 + x.toNat) (m 0) (bsC m L x).2) := by
      intro hok
      have s0 : 0 ≤ slF m x := by omega
      have s36 : sumF (ndF m) 0 (m 0).toNat + slF m x ≤ 36 := by unfold slF; omega
      obtain ⟨n36a, n36b⟩ := nd_36 w s0 s36
      obtain ⟨hb, fB, eb, gb, tb, Ab, bpb⟩ := g_boundRows (t := fun _ => 0) w s0 s36 la ta Ana
      have lbb := la.ly gb.1
      have cs0 : CS hb S m L x (L, fun _ => 0) := ⟨by rw [gb.2 S 11 (fun z => by unfold pH at z; omega)]; exact q11a, fun z => by dsimp only at z; omega⟩
      obtain ⟨hc, ec, gc, tc, cc⟩ := g_desc w (L := L) (a := x) (by omega) s0 (m 0).toNat 8 (by omega) hb 0 (slF m x) (fun _ => 0) fB (L, fun _ => 0) (by omega) (by omega) s0 (by omega) lbb tb (by rw [gb.2 S 10 (fun z => by unfold pH at z; omega)]; exact q10a) (by rw [gb.2 S 6 (fun z => by unfold pH at z; omega)]; exact q6a) (Ana.fz gb (fun j z => by unfold pH at z; omega)) (fun y y1 y2 => by omega) Ab bpb (fun y y1 y2 => by omega) (fun y y1 y2 => by have := n36b y y1 y2; omega) (fun t2 ht2 => ht2) cs0 hL.1 hL.2 (fun z => by omega)
      have fE : FZ (pE T S x) ha hc := (gb.mo (fun y j z => by
        rcases z with z | z
        · exact Or.inl z
        · exact Or.inr (Or.inr (Or.inr (Or.inl (by omega)))))).tr (gc.mo (fun y j z => by
        rcases z with z | z | z | z | z
        · exact Or.inl z
        · exact Or.inr (Or.inl (by omega))
        · exact Or.inr (Or.inr (Or.inl z.1))
        · exact Or.inr (Or.inr (Or.inr (Or.inl (by omega))))
        · exact Or.inr (Or.inr (Or.inr (Or.inr (Or.inl z))))))
      have eB : bsC m L x = foB (taH m) (L, fun _ => 0) (layC m (lfF m (m 0).toNat) (m 0).toNat 0 (slF m x) (fun _ => 0)) := by unfold bsC; rw [if_pos hok]
      obtain ⟨h4, e4, r4⟩ := fin hc (fa.tr fE) tc (by rw [eB]; exact cc)
      refine ⟨h4, ?_, r4⟩
      unfold f_X6_leastHeight_L53
      rw [chk_pos la.o, eb, bnd_ret, ec, bnd_ret]
      exact e4
    have nogo : ¬ (slF m x = 0 ∨ (0 < slF m x ∧ 0 ≤ lfF m (m 0).toNat)) → ∃ h2, f_X6_leastHeight_L64 ha S (iN x) = some (h2, .inr (iN (lhF m L x))) ∧ FZ (pS T S) h h2 ∧ TM h2 T m ∧ SM h2 S m L ∧ ((bsC m L x).1 < L → AR h2 (S + 3 + x.toNat) (m 0) (bsC m L x).2) := by
      intro hno
      refine fin ha fa ta ?_
      have eB : bsC m L x = (L, fun _ => 0) := by unfold bsC; rw [if_neg hno]
      rw [eB]
      exact ⟨q11a, fun z => by dsimp only at z; omega⟩
    by_cases z0 : slF m x = 0
    · rw [if_pos ((iN_eq0 (by omega) (by omega)).mpr z0)]
      exact go (Or.inl z0)
    · rw [if_neg (fun z => z0 ((iN_eq0 (by omega) (by omega)).mp z))]
      by_cases zp : slF m x ≤ 0
      · rw [if_pos ((iN_le0 (by omega) (by omega)).mpr zp)]
        exact nogo (fun z => by omega)
      · rw [if_neg (fun z => zp ((iN_le0 (by omega) (by omega)).mp z)), q6a]
        by_cases zl : lfF m (m 0).toNat < 0
        · rw [if_pos ((iN_lt0 (by omega) (by omega)).mpr zl)]
          exact nogo (fun z => by omega)
        · rw [if_neg (fun z => zl ((iN_lt0 (by omega) (by omega)).mp z))]
          exact go (Or.inr ⟨by omega, by omega⟩)
  · rw [if_neg hun]
    obtain ⟨c1, c2⟩ := (ck x hx.1 hx.2).resolve_left hun
    refine ⟨h, ?_, FZ.rf, tm, ⟨An, q5, q6, q9, ck⟩, c2⟩
    unfold f_X6_leastHeight_L89
    rw [chk_pos l.o, l.r2, chk_pos l.o1, l.w1, ck_in (by omega) (by omega) (by omega), xc, c1]
