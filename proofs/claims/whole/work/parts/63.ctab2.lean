/-! ===== STAGE B: the class's table: heights of rows and of all; who is where, where is room ===== -/
theorem nleN {a b : Int} (h : b < a) (h1 : -2147483648 ≤ b) (h2 : a < 2147483648) : ¬ iN a ≤ iN b := fun z => by have := (iN_leO (by omega) h2 h1 (by omega)).mp z; omega
theorem yleN {a b : Int} (h : a ≤ b) (h1 : -2147483648 ≤ a) (h2 : b < 2147483648) : iN a ≤ iN b := (iN_leO h1 (by omega) (by omega) h2).mpr h
theorem nltN {a b : Int} (h : b ≤ a) (h1 : -2147483648 ≤ b) (h2 : a < 2147483648) : ¬ iN a < iN b := fun z => by have := (iN_ltO (by omega) h2 h1 (by omega)).mp z; omega
theorem yltN {a b : Int} (h : a < b) (h1 : -2147483648 ≤ a) (h2 : b < 2147483648) : iN a < iN b := (iN_ltO h1 (by omega) (by omega) h2).mpr h
theorem neN {a b : Int} (h : a ≠ b) (h1 : -2147483648 ≤ a) (h2 : a < 2147483648) (h3 : -2147483648 ≤ b) (h4 : b < 2147483648) : ¬ iN a = iN b := fun z => h ((iN_eqO h1 h2 h3 h4).mp z)
theorem cA_eq {h : Hp} {T : Nat} {i : Int} (h0 : 0 ≤ i) (h1 : i < 2147483648) : qR h (T + 3) (iN i).toNatClampNeg = cA h T i := by rw [iN_cl h0 h1]; rfl
theorem TM.wd {h : Hp} {T : Nat} {m : Int → Int} (t : TM h T m) : qI h T 0 = iN (m 1) := t.2.1.1
theorem TM.gp {h : Hp} {T : Nat} {m : Int → Int} (t : TM h T m) : qI h T 1 = iN (m 2) := t.2.1.2.1
theorem TM.pd {h : Hp} {T : Nat} {m : Int → Int} (t : TM h T m) : qI h T 2 = iN (m 3) := t.2.1.2.2.1
theorem TM.cs {h : Hp} {T : Nat} {m : Int → Int} (t : TM h T m) : qI h T 3 = iN (m 0) := t.2.1.2.2.2.1
theorem TM.rs {h : Hp} {T : Nat} {m : Int → Int} (t : TM h T m) : qI h T 4 = iN (m 4) := t.2.1.2.2.2.2.1
theorem TM.ns {h : Hp} {T : Nat} {m : Int → Int} (t : TM h T m) : qI h T 5 = iN (m 5) := t.2.1.2.2.2.2.2
theorem TM.ty {h : Hp} {T : Nat} {m : Int → Int} (t : TM h T m) : AR h (T + 1) 4 (fun c => tyS (m (6 + c))) := t.2.2.1
theorem TM.va {h : Hp} {T : Nat} {m : Int → Int} (t : TM h T m) : AR h (T + 2) 4 (fun c => vaS (m (6 + c))) := t.2.2.2.1
theorem TM.cc {h : Hp} {T : Nat} {m : Int → Int} (t : TM h T m) {i : Int} (h0 : 0 ≤ i) (h1 : i < m 5) : CC h (cA h T i) (blk m i) := t.2.2.2.2 i h0 h1
theorem g_hRowL {T arr : Nat} {m W : Int → Int} {r : Int} (w : WF m) (g : GW m W) (hA : arr < T ∨ T + 148 ≤ arr) (hr : 0 ≤ r ∧ r < 100) : ∀ (d k : Nat) (h : Hp) (n : Nat), (k : Int) + d = m 5 → d < n → TM h T m → okr h arr 20 → qW h arr = 4 → AR h arr (m 0) W →
    ∃ h2, f_X7_heightOfRow_L5 n h T (iN r) arr (iN (rhN m r W k)) (iN k) = some (h2, .inr (iN (rhN m r W (m 5).toNat))) ∧ FZ (pH T) h h2 ∧ TM h2 T m := by
  have hm := w.1.2.2.2.2.2
  have h4 := w.1.2.2.2.2.1
  intro d
  induction d with
  | zero =>
    intro k h n hk hn t oa wa A
    obtain ⟨n, rfl⟩ : ∃ z, n = z + 1 := ⟨n - 1, by omega⟩
    refine ⟨h, ?_, FZ.rf, t⟩
    show f_X7_heightOfRow_B5 (f_X7_heightOfRow_L5 n) h T (iN r) arr _ (iN k) = _
    unfold f_X7_heightOfRow_B5
    rw [chk_pos t.1.o, t.ns, if_pos (yleN (by omega) (by omega) (by omega)), show (m 5).toNat = k by omega]
  | succ d ih =>
    intro k h n hk hn t oa wa A
    obtain ⟨n, rfl⟩ : ∃ z, n = z + 1 := ⟨n - 1, by omega⟩
    have hki : 0 ≤ (k : Int) ∧ (k : Int) < m 5 := by omega
    have c := t.cc hki.1 hki.2
    have co := (w.2.2.1 k hki.1 hki.2).1
    have b1 := rhN_bd w g (r := r) k (by omega)
    have b2 := (hC_bd w g hki).2.2
    unfold CO at co
    show ∃ h2, f_X7_heightOfRow_B5 (f_X7_heightOfRow_L5 n) h T (iN r) arr _ (iN k) = _ ∧ _
    unfold f_X7_heightOfRow_B5 f_X7_heightOfRow_L45
    rw [chk_pos t.1.o, t.ns, if_neg (nleN (by omega) (by omega) (by omega)), t.1.r8, chk_pos t.1.o3, t.1.w3, ck_in (by omega) (by omega) (by omega), cA_eq (by omega) (by omega), chk_pos (t.1.co (by omega)), c.1.1]
    by_cases hrow : blk m k 0 = r
    · obtain ⟨h3, e3, f3, t3⟩ := g_heightIn t w hki oa wa A g
      have A3 : AR h3 arr (m 0) W := A.fz f3 (fun j z => by unfold pH at z; omega)
      obtain ⟨h2, e2, f2, t2⟩ := ih (k + 1) h3 n (by omega) (by omega) t3 (f3.1.ok.mpr oa) (by rw [f3.1.2.2.1]; exact wa) A3
      refine ⟨h2, ?_, f3.tr f2, t2⟩
      rw [if_pos (by rw [hrow]), e3, bnd_ret, g_jmax ⟨by omega, by omega⟩ ⟨by omega, by omega⟩, iN_add]
      rw [rhN, if_pos hrow] at e2
      exact e2
    · obtain ⟨h2, e2, f2, t2⟩ := ih (k + 1) h n (by omega) (by omega) t oa wa A
      refine ⟨h2, ?_, f2, t2⟩
      rw [if_neg (neN hrow (by omega) (by omega) (by omega) (by omega)), iN_add]
      rw [rhN, if_neg hrow] at e2
      exact e2
theorem g_heightOfRow {h : Hp} {T arr : Nat} {m W : Int → Int} {r : Int} (t : TM h T m) (w : WF m) (g : GW m W) (hA : arr < T ∨ T + 148 ≤ arr) (hr : 0 ≤ r ∧ r < 100) (oa : okr h arr 20) (wa : qW h arr = 4) (A : AR h arr (m 0) W) : ∃ h2, f_X7_heightOfRow h T (iN r) arr = some (h2, .inr (iN (rhN m r W (m 5).toNat))) ∧ FZ (pH T) h h2 ∧ TM h2 T m := by
  have hm := w.1.2.2.2.2.2
  exact g_hRowL w g hA hr (m 5).toNat 0 h 2000 (by omega) (by omega) t oa wa A
theorem sumF_bd {F : Int → Int} {B : Int} : ∀ n : Nat, (∀ j, 0 ≤ j → j < n → 0 ≤ F j ∧ F j ≤ B) → 0 ≤ sumF F 0 n ∧ sumF F 0 n ≤ B * n
  | 0, _ => by rw [sumF]; simp
  | n + 1, e => by
    have h1 := sumF_bd n (fun j h1 h2 => e j h1 (by omega))
    have h2 := e n (by omega) (by omega)
    rw [sumF, show (0 : Int) + (n : Int) = n by omega, show B * ((n + 1 : Nat) : Int) = B * n + B by rw [Int.natCast_add, Int.mul_add]; simp]
    omega
theorem g_hAllL {T arr : Nat} {m W : Int → Int} (w : WF m) (g : GW m W) (hA : arr < T ∨ T + 148 ≤ arr) : ∀ (d k : Nat) (h : Hp) (n : Nat), (k : Int) + d = m 4 → d < n → TM h T m → okr h arr 20 → qW h arr = 4 → AR h arr (m 0) W →
    ∃ h2, f_X7_heightOfAll_L14 n h T arr (iN (m 2 * (m 4 + 1) + sumF (fun r => rhN m r W (m 5).toNat) 0 k)) (iN k) = some (h2, .inr (iN (taH m W))) ∧ FZ (pH T) h h2 ∧ TM h2 T m := by
  have hm := w.1.2.2.2.2.2
  have h4 := w.1.2.2.2.2.1
  intro d
  induction d with
  | zero =>
    intro k h n hk hn t oa wa A
    obtain ⟨n, rfl⟩ : ∃ z, n = z + 1 := ⟨n - 1, by omega⟩
    refine ⟨h, ?_, FZ.rf, t⟩
    show f_X7_heightOfAll_B14 (f_X7_heightOfAll_L14 n) h T arr _ (iN k) = _
    unfold f_X7_heightOfAll_B14 taH
    rw [chk_pos t.1.o, t.rs, if_pos (yleN (by omega) (by omega) (by omega)), show (m 4).toNat = k by omega]
  | succ d ih =>
    intro k h n hk hn t oa wa A
    obtain ⟨n, rfl⟩ : ∃ z, n = z + 1 := ⟨n - 1, by omega⟩
    obtain ⟨h3, e3, f3, t3⟩ := g_heightOfRow t w g hA (r := k) (by omega) oa wa A
    have A3 : AR h3 arr (m 0) W := A.fz f3 (fun j z => by unfold pH at z; omega)
    obtain ⟨h2, e2, f2, t2⟩ := ih (k + 1) h3 n (by omega) (by omega) t3 (f3.1.ok.mpr oa) (by rw [f3.1.2.2.1]; exact wa) A3
    refine ⟨h2, ?_, f3.tr f2, t2⟩
    show f_X7_heightOfAll_B14 (f_X7_heightOfAll_L14 n) h T arr _ (iN k) = _
    unfold f_X7_heightOfAll_B14
    rw [chk_pos t.1.o, t.rs, if_neg (nleN (by omega) (by omega) (by omega)), e3, bnd_ret, iN_add, iN_add, Int.add_assoc]
    rw [sumF, show (0 : Int) + (k : Int) = k by omega] at e2
    exact e2
theorem taH_bd {m W : Int → Int} (w : WF m) (g : GW m W) : 0 ≤ taH m W ∧ taH m W ≤ 182 := by
  have hm := w.1.2.2.2.2.2
  have h4 := w.1.2.2.2.2.1
  have h2 := w.1.2.2.1
  have b := sumF_bd (F := fun r => rhN m r W (m 5).toNat) (B := 28) (m 4).toNat (fun j _ _ => rhN_bd w g _ (by omega))
  have n1 : 0 ≤ m 2 * (m 4 + 1) := Int.mul_nonneg (by omega) (by omega)
  have n2 : m 2 * (m 4 + 1) ≤ 2 * (m 4 + 1) := Int.mul_le_mul_of_nonneg_right (by omega) (by omega)
  unfold taH
  omega
theorem g_heightOfAll {h : Hp} {T arr : Nat} {m W : Int → Int} (t : TM h T m) (w : WF m) (g : GW m W) (hA : arr < T ∨ T + 148 ≤ arr) (oa : okr h arr 20) (wa : qW h arr = 4) (A : AR h arr (m 0) W) : ∃ h2, f_X7_heightOfAll h T arr = some (h2, .inr (iN (taH m W))) ∧ FZ (pH T) h h2 ∧ TM h2 T m := by
  have hm := w.1.2.2.2.2.1
  obtain ⟨h2, e, f, t2⟩ := g_hAllL w g hA (m 4).toNat 0 h 2000 (by omega) (by omega) t oa wa A
  refine ⟨h2, ?_, f, t2⟩
  unfold f_X7_heightOfAll
  rw [sumF, Int.add_zero] at e
  rw [chk_pos t.1.o, t.gp, t.rs, iN_add, iN_mul]
  exact e
/-! who stands at a place -/
def atP (m : Int → Int) (r c s i : Int) : Prop := blk m i 0 = r ∧ blk m i 1 < c + s ∧ c < blk m i 1 + blk m i 2
theorem g_occL {T : Nat} {m : Int → Int} {r c : Int} (w : WF m) (hr : 0 ≤ r ∧ r < 100) (hc : 0 ≤ c ∧ c < 100) {h : Hp} (t : TM h T m) : ∀ (d k : Nat) (n : Nat), (k : Int) + d = m 5 → d < n → (∀ i : Int, 0 ≤ i → i < k → ¬ atP m r c 1 i) →
    ∃ z, f_X7_occupant_L2 n h T (iN r) (iN c) (iN k) = some (h, .inr (iN z)) ∧ ((z = -1 ∧ ∀ i, 0 ≤ i → i < m 5 → ¬ atP m r c 1 i) ∨ ((0 ≤ z ∧ z < m 5) ∧ atP m r c 1 z)) := by
  have hm := w.1.2.2.2.2.2
  have h4 := w.1.2.2.2.2.1
  have h0 := w.1.1
  intro d
  induction d with
  | zero =>
    intro k n hk hn hp
    obtain ⟨n, rfl⟩ : ∃ z, n = z + 1 := ⟨n - 1, by omega⟩
    refine ⟨-1, ?_, Or.inl ⟨rfl, fun i z1 z2 => hp i z1 (by omega)⟩⟩
    show f_X7_occupant_B2 (f_X7_occupant_L2 n) h T (iN r) (iN c) (iN k) = _
    unfold f_X7_occupant_B2
    rw [chk_pos t.1.o, t.ns, if_pos (yleN (by omega) (by omega) (by omega))]
  | succ d ih =>
    intro k n hk hn hp
    obtain ⟨n, rfl⟩ : ∃ z, n = z + 1 := ⟨n - 1, by omega⟩
    have hki : 0 ≤ (k : Int) ∧ (k : Int) < m 5 := by omega
    have cc := t.cc hki.1 hki.2
    have co := (w.2.2.1 k hki.1 hki.2).1
    unfold CO at co
    show ∃ z, f_X7_occupant_B2 (f_X7_occupant_L2 n) h T (iN r) (iN c) (iN k) = _ ∧ _
    unfold f_X7_occupant_B2 f_X7_occupant_L39
    rw [chk_pos t.1.o, t.ns, if_neg (nleN (by omega) (by omega) (by omega)), t.1.r8, chk_pos t.1.o3, t.1.w3, ck_in (by omega) (by omega) (by omega), cA_eq (by omega) (by omega), chk_pos (t.1.co (by omega)), cc.1.1]
    have nx : ¬ atP m r c 1 k → ∃ z, f_X7_occupant_L2 n h T (iN r) (iN c) (iN k + iN 1) = some (h, .inr (iN z)) ∧ ((z = -1 ∧ ∀ i, 0 ≤ i → i < m 5 → ¬ atP m r c 1 i) ∨ ((0 ≤ z ∧ z < m 5) ∧ atP m r c 1 z)) := fun hn1 => by
      rw [iN_add]
      exact ih (k + 1) n (by omega) (by omega) (fun i z1 z2 => by
        by_cases e : i = k
        · rw [e]; exact hn1
        · exact hp i z1 (by omega))
    by_cases hrow : blk m k 0 = r
    · rw [if_pos (by rw [hrow]), g_overlaps (t.1.co (by omega)) cc (by omega) (by omega) (by omega), bnd_ret]
      by_cases ho : blk m k 1 < c + 1 ∧ c < blk m k 1 + blk m k 2
      · rw [if_neg (fun z => bN0.mp z ho)]
        exact ⟨k, rfl, Or.inr ⟨hki, hrow, ho⟩⟩
      · rw [if_pos (bN0.mpr ho)]
        exact nx (fun z => ho z.2)
    · rw [if_neg (neN hrow (by omega) (by omega) (by omega) (by omega))]
      exact nx (fun z => hrow z.1)
theorem g_occupant {T : Nat} {m : Int → Int} {r c : Int} (w : WF m) (hr : 0 ≤ r ∧ r < 100) (hc : 0 ≤ c ∧ c < 100) {h : Hp} (t : TM h T m) : ∃ z, f_X7_occupant h T (iN r) (iN c) = some (h, .inr (iN z)) ∧ ((z = -1 ∧ ∀ i, 0 ≤ i → i < m 5 → ¬ atP m r c 1 i) ∨ ((0 ≤ z ∧ z < m 5) ∧ atP m r c 1 z)) := by
  have hm := w.1.2.2.2.2.2
  exact g_occL w hr hc t (m 5).toNat 0 2000 (by omega) (by omega) (fun i z1 z2 => by omega)
theorem atP_uq {m : Int → Int} {r c i j : Int} (w : WF m) (hi : 0 ≤ i ∧ i < m 5) (hj : 0 ≤ j ∧ j < m 5) (a : atP m r c 1 i) (b : atP m r c 1 j) : i = j := by
  obtain ⟨a1, a2, a3⟩ := a
  obtain ⟨b1, b2, b3⟩ := b
  rcases Int.lt_trichotomy i j with z | z | z
  · have := w.2.2.2 i j hi.1 z hj.2 (by rw [a1, b1]); omega
  · exact z
  · have := w.2.2.2 j i hj.1 z hi.2 (by rw [a1, b1]); omega
theorem g_roomL {T : Nat} {m : Int → Int} {r c s : Int} (w : WF m) (hr : 0 ≤ r ∧ r < 100) (hc : 0 ≤ c ∧ c < 100) (hs : 0 ≤ s ∧ s < 100) {h : Hp} (t : TM h T m) : ∀ (d k : Nat) (n : Nat) (f : Bool), (k : Int) + d = m 5 → d < n →
    ∃ g : Bool, f_X7_hasRoom_L19 n h T (iN r) (iN c) (iN s) (bN (f = true)) (iN k) = some (h, .inr (bN (g = true))) ∧ (g = true ↔ f = true ∧ ∀ i, (k : Int) ≤ i → i < m 5 → ¬ atP m r c s i) := by
  have hm := w.1.2.2.2.2.2
  have h4 := w.1.2.2.2.2.1
  have h0 := w.1.1
  intro d
  induction d with
  | zero =>
    intro k n f hk hn
    obtain ⟨n, rfl⟩ : ∃ z, n = z + 1 := ⟨n - 1, by omega⟩
    refine ⟨f, ?_, ⟨fun z => ⟨z, fun i z1 z2 => by omega⟩, fun z => z.1⟩⟩
    show f_X7_hasRoom_B19 (f_X7_hasRoom_L19 n) h T (iN r) (iN c) (iN s) _ (iN k) = _
    unfold f_X7_hasRoom_B19
    rw [chk_pos t.1.o, t.ns, if_pos (yleN (by omega) (by omega) (by omega)), ck_b]
  | succ d ih =>
    intro k n f hk hn
    obtain ⟨n, rfl⟩ : ∃ z, n = z + 1 := ⟨n - 1, by omega⟩
    have hki : 0 ≤ (k : Int) ∧ (k : Int) < m 5 := by omega
    have cc := t.cc hki.1 hki.2
    have co := (w.2.2.1 k hki.1 hki.2).1
    unfold CO at co
    show ∃ g, f_X7_hasRoom_B19 (f_X7_hasRoom_L19 n) h T (iN r) (iN c) (iN s) _ (iN k) = _ ∧ _
    unfold f_X7_hasRoom_B19 f_X7_hasRoom_L66 f_X7_hasRoom_L62 f_X7_hasRoom_L67
    rw [chk_pos t.1.o, t.ns, if_neg (nleN (by omega) (by omega) (by omega))]
    have nx : ∀ f2 : Bool, (f2 = true ↔ f = true ∧ ¬ atP m r c s k) → ∃ g : Bool, f_X7_hasRoom_L19 n h T (iN r) (iN c) (iN s) (bN (f2 = true)) (iN k + iN 1) = some (h, .inr (bN (g = true))) ∧ (g = true ↔ f = true ∧ ∀ i, (k : Int) ≤ i → i < m 5 → ¬ atP m r c s i) := fun f2 hf2 => by
      rw [iN_add]
      obtain ⟨g, e, hg⟩ := ih (k + 1) n f2 (by omega) (by omega)
      refine ⟨g, e, hg.trans ⟨fun z => ⟨(hf2.mp z.1).1, fun i z1 z2 => ?_⟩, fun z => ⟨hf2.mpr ⟨z.1, z.2 k (by omega) (by omega)⟩, fun i z1 z2 => z.2 i (by omega) z2⟩⟩⟩
      by_cases e : i = k
      · rw [e]; exact (hf2.mp z.1).2
      · exact z.2 i (by omega) z2
    cases f with
    | false =>
      rw [if_pos (show bN (false = true) = 0 from rfl)]
      exact nx false ⟨fun z => (by cases z), fun z => z.1⟩
    | true =>
      rw [if_neg (show ¬ bN (true = true) = 0 by decide), t.1.r8, chk_pos t.1.o3, t.1.w3, ck_in (by omega) (by omega) (by omega), cA_eq (by omega) (by omega), chk_pos (t.1.co (by omega)), cc.1.1]
      by_cases hrow : blk m k 0 = r
      · rw [if_pos (by rw [hrow]), g_overlaps (t.1.co (by omega)) cc (by omega) (by omega) (by omega), bnd_ret]
        by_cases ho : blk m k 1 < c + s ∧ c < blk m k 1 + blk m k 2
        · rw [if_neg (fun z => bN0.mp z ho)]
          exact nx false ⟨fun z => (by cases z), fun z => absurd ⟨hrow, ho⟩ z.2⟩
        · rw [if_pos (bN0.mpr ho)]
          exact nx true ⟨fun _ => ⟨rfl, fun z => ho z.2⟩, fun _ => rfl⟩
      · rw [if_neg (neN hrow (by omega) (by omega) (by omega) (by omega))]
        exact nx true ⟨fun _ => ⟨rfl, fun z => hrow z.1⟩, fun _ => rfl⟩
theorem g_hasRoom {T : Nat} {m : Int → Int} {r c s : Int} (w : WF m) (hr : 0 ≤ r ∧ r < 100) (hc : 0 ≤ c ∧ c < 100) (hs : 0 ≤ s ∧ s < 100) {h : Hp} (t : TM h T m) : ∃ g : Bool, f_X7_hasRoom h T (iN r) (iN c) (iN s) = some (h, .inr (bN (g = true))) ∧ (g = true ↔ m 5 < 16 ∧ ∀ i, 0 ≤ i → i < m 5 → ¬ atP m r c s i) := by
  have hm := w.1.2.2.2.2.2
  unfold f_X7_hasRoom f_X7_hasRoom_L14
  rw [chk_pos t.1.o, t.ns]
  by_cases h16 : 16 ≤ m 5
  · rw [if_pos (yleN (by omega) (by omega) (by omega))]
    obtain ⟨g, e, hg⟩ := g_roomL w hr hc hs t (m 5).toNat 0 2000 false (by omega) (by omega)
    exact ⟨g, e, hg.trans ⟨fun z => (by cases z.1), fun z => by omega⟩⟩
  · rw [if_neg (nleN (by omega) (by omega) (by omega))]
    obtain ⟨g, e, hg⟩ := g_roomL w hr hc hs t (m 5).toNat 0 2000 true (by omega) (by omega)
    exact ⟨g, e, hg.trans ⟨fun z => ⟨by omega, fun i z1 z2 => z.2 i z1 z2⟩, fun z => ⟨rfl, fun i z1 z2 => z.2 i z1 z2⟩⟩⟩
