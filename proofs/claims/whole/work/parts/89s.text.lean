/-! ===== STAGE B: the text of commands, pure ===== -/
def TXo (B : Int → Int) (L : Int) : Prop := (0 ≤ L ∧ L ≤ 60) ∧ ∀ k, 0 ≤ k → k < L → 33 ≤ B k ∧ B k ≤ 126
/-- the sign at p, -1 behind the text -/
def chT (B : Int → Int) (L p : Int) : Int := if p < L then B p else -1
theorem chT_bd {B : Int → Int} {L p : Int} (t : TXo B L) (hp : 0 ≤ p) : -1 ≤ chT B L p ∧ chT B L p ≤ 126 ∧ (chT B L p = -1 ↔ L ≤ p) := by
  unfold chT
  split
  · have := t.2 p hp ‹p < L›
    omega
  · omega
theorem chT_in {B : Int → Int} {L p : Int} (h : p < L) : chT B L p = B p := if_pos h
abbrev isD (c : Int) : Prop := 48 ≤ c ∧ c ≤ 57
abbrev isL (c : Int) : Prop := 97 ≤ c ∧ c ≤ 122
abbrev PR : Type := Int ⊕ (Int × Int)
def bdP {α : Type} (r : PR) (k : Int → Int → Int ⊕ α) : Int ⊕ α := match r with
  | .inl e => .inl e
  | .inr (q, v) => k q v
def dgP (B : Int → Int) (L p : Int) : PR := if isD (chT B L p) then .inr (p + 1, chT B L p - 48) else .inl p
def nuE (lo hi p q v : Int) : PR := if lo ≤ v ∧ v ≤ hi then .inr (q, v) else .inl p
def nuP (lo hi : Int) (B : Int → Int) (L p : Int) : PR := bdP (dgP B L p) fun q v => if 0 < v ∧ isD (chT B L q) then nuE lo hi p (q + 1) (10 * v + (chT B L q - 48)) else nuE lo hi p q v
def skP (c : Int) (B : Int → Int) (L p : Int) : PR := if chT B L p = c then .inr (p + 1, 0) else .inl p
def coP (K : Int) (B : Int → Int) (L p : Int) : PR := bdP (dgP B L p) fun q v => if v < K then .inr (q, v) else .inl p
def spP (K col : Int) (B : Int → Int) (L p : Int) : PR := bdP (dgP B L p) fun q v => if 1 ≤ v ∧ col + v ≤ K then .inr (q, v) else .inl p
def kdF (c : Int) : Int := if c = 112 then 0 else if c = 104 then 1 else if c = 113 then 2 else if c = 99 then 3 else -1
def mkF (c : Int) : Int := if c = 95 then 0 else if c = 47 then 1 else if c = 126 then 2 else if c = 45 then 3 else -1
def kdP (B : Int → Int) (L p : Int) : PR := if 0 ≤ kdF (chT B L p) then .inr (p + 1, kdF (chT B L p)) else .inl p
def leF (B : Int → Int) (L : Int) : Nat → Int → Int
  | 0, p => p
  | d + 1, p => if isL (chT B L p) then leF B L d (p + 1) else p
def leP (B : Int → Int) (L p : Int) : Int := leF B L (L - p).toNat p
theorem leF_ok {B : Int → Int} {L : Int} : ∀ (d : Nat) (p : Int), L - p = d → (p ≤ leF B L d p ∧ leF B L d p ≤ L) ∧ (∀ k, p ≤ k → k < leF B L d p → isL (B k)) ∧ ¬ isL (chT B L (leF B L d p))
  | 0, p, h => by
    rw [leF]
    refine ⟨by omega, fun k h1 h2 => by omega, ?_⟩
    unfold chT
    rw [if_neg (by omega)]
    decide
  | d + 1, p, h => by
    rw [leF]
    have e : chT B L p = B p := chT_in (by omega)
    by_cases z : isL (chT B L p)
    · rw [if_pos z]
      obtain ⟨h1, h2, h3⟩ := leF_ok (B := B) (L := L) d (p + 1) (by omega)
      refine ⟨by omega, fun k k1 k2 => ?_, h3⟩
      by_cases e2 : k = p
      · rw [e2, ← e]; exact z
      · exact h2 k (by omega) k2
    · rw [if_neg z]
      exact ⟨by omega, fun k k1 k2 => by omega, z⟩
theorem leP_ok {B : Int → Int} {L p : Int} (h : p ≤ L) : (p ≤ leP B L p ∧ leP B L p ≤ L) ∧ (∀ k, p ≤ k → k < leP B L p → isL (B k)) ∧ ¬ isL (chT B L (leP B L p)) := leF_ok (L - p).toNat p (by omega)
/-- what ends letters is unique -/
theorem leP_uq {B : Int → Int} {L p q : Int} (h : p ≤ q) (hq : q ≤ L) (h2 : ∀ k, p ≤ k → k < q → isL (B k)) (h3 : ¬ isL (chT B L q)) : leP B L p = q := by
  obtain ⟨⟨a1, a2⟩, a3, a4⟩ := leP_ok (B := B) (L := L) (p := p) (by omega)
  by_cases z : leP B L p < q
  · have := h2 _ a1 z
    rw [chT_in (show leP B L p < L by omega)] at a4
    exact absurd this a4
  · by_cases z2 : q < leP B L p
    · have := a3 q h z2
      rw [chT_in (show q < L by omega)] at h3
      exact absurd this h3
    · omega
def woP (B : Int → Int) (L p : Int) : PR := if min (leP B L p) (p + 12) - p ≤ 0 then .inl p else .inr (min (leP B L p) (p + 12), min (leP B L p) (p + 12) - p)
/-- the text has this word at p -/
def spB (B : Int → Int) : Int → List Int → Bool
  | _, [] => true
  | p, c :: r => decide (B p = c) && spB B (p + 1) r
def spW (B : Int → Int) (p q : Int) (l : List Int) : Bool := decide (q - p = l.length) && spB B p l
def stZ (j : Nat) : List Int := (strB.getD j []).map Int32.toInt
/-- an effect on the table; none: it can't be done -/
abbrev Eff : Type := (Int → Int) → Option (Int → Int)
abbrev CR1 : Type := Int ⊕ (Int × Eff)
def pshB (b : Int → Int) (len br : Int) : Int → Int := up (up (up b (7 + b 4) len) (19 + b 4) br) 4 (b 4 + 1)
def wB (r c sp : Int) (b : Int → Int) (k : Int) : Int := if k = 0 then r else if k = 1 then c else if k = 2 then sp else b k
def frB (m : Int → Int) (r c s : Int) : Nat → Bool
  | 0 => true
  | k + 1 => frB m r c s k && decide (¬ (blk m k 0 = r ∧ blk m k 1 < c + s ∧ c < blk m k 1 + blk m k 2))
theorem frB_iff {m : Int → Int} {r c s : Int} : ∀ k : Nat, frB m r c s k = true ↔ ∀ i : Int, 0 ≤ i → i < k → ¬ atP m r c s i
  | 0 => ⟨fun _ i h1 h2 => by omega, fun _ => rfl⟩
  | k + 1 => by
    rw [frB, Bool.and_eq_true, frB_iff k, decide_eq_true_eq]
    constructor
    · intro z i h1 h2
      by_cases e : i = k
      · rw [e]; exact z.2
      · exact z.1 i h1 (by omega)
    · intro z
      exact ⟨fun i h1 h2 => z i h1 (by omega), z k (by omega) (by omega)⟩
def puE (c sp : Int) (b : Int → Int) : Eff := fun m => if 0 < m 4 ∧ m 5 < 16 ∧ frB m (m 4 - 1) c sp (m 5).toNat = true then some (plN m (wB (m 4 - 1) c sp b)) else none
def wdP (B : Int → Int) (L : Int) : Nat → Int → (Int → Int) → Int ⊕ (Int × (Int → Int))
  | 0, p, b => bdP (woP B L p) fun q n => bdP (skP 59 B L q) fun q2 _ => .inr (q2, pshB b n 0)
  | k + 1, p, b => bdP (woP B L p) fun q n => if 0 ≤ mkF (chT B L q) then wdP B L k (q + 1) (pshB b n (mkF (chT B L q))) else bdP (skP 59 B L q) fun q2 _ => .inr (q2, pshB b n 0)
def efP (c sp : Int) (r : Int ⊕ (Int × (Int → Int))) : CR1 := match r with
  | .inl e => .inl e
  | .inr (q, b) => .inr (q, puE c sp b)
def meP (lo hi w : Int) (B : Int → Int) (L p : Int) : CR1 := bdP (skP 61 B L p) fun p1 _ => bdP (nuP lo hi B L p1) fun p2 v => bdP (skP 59 B L p2) fun p3 _ => .inr (p3, fun m => some (up m w v))
def seP (c v : Int) (B : Int → Int) (L p : Int) : CR1 := bdP (skP 59 B L p) fun p3 _ => .inr (p3, fun m => some (up m (6 + c) v))
def clP (K : Int) (B : Int → Int) (L p : Int) : CR1 := bdP (coP K B L p) fun p1 c => bdP (skP 61 B L p1) fun p2 _ => if spW B p2 (leP B L p2) (stZ 0) = true then bdP (nuP 1 36 B L (leP B L p2)) fun p3 v => seP c (100 + v) B L p3 else if spW B p2 (leP B L p2) (stZ 1) = true then bdP (nuP 1 99 B L (leP B L p2)) fun p3 v => seP c (200 + v) B L p3 else if spW B p2 (leP B L p2) (stZ 2) = true then seP c 0 B L (leP B L p2) else .inl p2
def rwP (B : Int → Int) (L p : Int) : CR1 := bdP (skP 59 B L p) fun p1 _ => .inr (p1, fun m => if m 4 < 6 then some (up m 4 (m 4 + 1)) else none)
def cePt (K : Int) (B : Int → Int) (L p : Int) : CR1 := bdP (coP K B L p) fun p1 c => bdP (spP K c B L p1) fun p2 sp => bdP (kdP B L p2) fun p3 kd => bdP (skP 61 B L p3) fun p4 _ => efP c sp (wdP B L 11 p4 (nwB 0 0 0 kd))
def piPt (K : Int) (B : Int → Int) (L p : Int) : CR1 := bdP (coP K B L p) fun p1 c => bdP (spP K c B L p1) fun p2 sp => bdP (skP 61 B L p2) fun p3 _ => bdP (nuP 1 20 B L p3) fun p4 wd => bdP (skP 120 B L p4) fun p5 _ => bdP (nuP 1 20 B L p5) fun p6 ht => bdP (skP 59 B L p6) fun p7 _ => .inr (p7, puE c sp (up (up (nwB 0 0 0 4) 5 wd) 6 ht))
def cmP (K : Int) (B : Int → Int) (L p : Int) : CR1 := if spW B p (leP B L p) (stZ 3) = true then meP 8 36 1 B L (leP B L p) else if spW B p (leP B L p) (stZ 4) = true then meP 0 2 2 B L (leP B L p) else if spW B p (leP B L p) (stZ 5) = true then meP 0 2 3 B L (leP B L p) else if spW B p (leP B L p) (stZ 6) = true then clP K B L (leP B L p) else if spW B p (leP B L p) (stZ 7) = true then rwP B L (leP B L p) else if spW B p (leP B L p) (stZ 8) = true then cePt K B L (leP B L p) else if spW B p (leP B L p) (stZ 9) = true then piPt K B L (leP B L p) else .inl p
/-! where the parsers end, and what they tell -/
theorem dgP_bd {B : Int → Int} {L p q v : Int} (h : dgP B L p = .inr (q, v)) : q = p + 1 ∧ p < L ∧ 0 ≤ v ∧ v ≤ 9 := by
  unfold dgP at h
  by_cases z : isD (chT B L p)
  · rw [if_pos z] at h
    have h2 := Sum.inr.inj h
    have h3 : p + 1 = q := congrArg Prod.fst h2
    have h4 : chT B L p - 48 = v := congrArg Prod.snd h2
    have h5 : p < L := by
      by_cases y : p < L
      · exact y
      · unfold chT at z
        rw [if_neg y] at z
        omega
    omega
  · rw [if_neg z] at h
    cases h
theorem bdP_inr {α : Type} {r : PR} {k : Int → Int → Int ⊕ α} {x : α} (h : bdP r k = .inr x) : ∃ q v, r = .inr (q, v) ∧ k q v = .inr x := by
  match r, h with
  | .inl e, h => cases h
  | .inr (q, v), h => exact ⟨q, v, rfl, h⟩
theorem skP_bd {c : Int} {B : Int → Int} {L p q v : Int} (hc : c ≠ -1) (h : skP c B L p = .inr (q, v)) : q = p + 1 ∧ p < L := by
  unfold skP at h
  by_cases z : chT B L p = c
  · rw [if_pos z] at h
    have h3 : p + 1 = q := congrArg Prod.fst (Sum.inr.inj h)
    have h5 : p < L := by
      by_cases y : p < L
      · exact y
      · unfold chT at z
        rw [if_neg y] at z
        omega
    omega
  · rw [if_neg z] at h
    cases h
theorem nuE_bd {lo hi p q v q2 v2 : Int} (h : nuE lo hi p q v = .inr (q2, v2)) : q2 = q ∧ v2 = v ∧ lo ≤ v ∧ v ≤ hi := by
  unfold nuE at h
  by_cases z : lo ≤ v ∧ v ≤ hi
  · rw [if_pos z] at h
    have h2 := Sum.inr.inj h
    have h3 : q = q2 := congrArg Prod.fst h2
    have h4 : v = v2 := congrArg Prod.snd h2
    omega
  · rw [if_neg z] at h
    cases h
theorem nuP_bd {lo hi : Int} {B : Int → Int} {L p q v : Int} (h : nuP lo hi B L p = .inr (q, v)) : (p < q ∧ q ≤ L) ∧ lo ≤ v ∧ v ≤ hi := by
  obtain ⟨q1, v1, h1, h2⟩ := bdP_inr h
  have b1 := dgP_bd h1
  by_cases z : 0 < v1 ∧ isD (chT B L q1)
  · rw [if_pos z] at h2
    have b2 := nuE_bd h2
    have h5 : q1 < L := by
      by_cases y : q1 < L
      · exact y
      · have z2 := z.2
        unfold chT at z2
        rw [if_neg y] at z2
        omega
    omega
  · rw [if_neg z] at h2
    have b2 := nuE_bd h2
    omega
theorem coP_bd {K : Int} {B : Int → Int} {L p q v : Int} (h : coP K B L p = .inr (q, v)) : (p < q ∧ q ≤ L) ∧ 0 ≤ v ∧ v < K := by
  obtain ⟨q1, v1, h1, h2⟩ := bdP_inr h
  have b1 := dgP_bd h1
  by_cases z : v1 < K
  · rw [if_pos z] at h2
    have h3 := Sum.inr.inj h2
    have h4 : q1 = q := congrArg Prod.fst h3
    have h5 : v1 = v := congrArg Prod.snd h3
    omega
  · rw [if_neg z] at h2
    cases h2
theorem spP_bd {K c : Int} {B : Int → Int} {L p q v : Int} (h : spP K c B L p = .inr (q, v)) : (p < q ∧ q ≤ L) ∧ 1 ≤ v ∧ v ≤ 9 ∧ c + v ≤ K := by
  obtain ⟨q1, v1, h1, h2⟩ := bdP_inr h
  have b1 := dgP_bd h1
  by_cases z : 1 ≤ v1 ∧ c + v1 ≤ K
  · rw [if_pos z] at h2
    have h3 := Sum.inr.inj h2
    have h4 : q1 = q := congrArg Prod.fst h3
    have h5 : v1 = v := congrArg Prod.snd h3
    omega
  · rw [if_neg z] at h2
    cases h2
theorem kdF_bd (c : Int) : -1 ≤ kdF c ∧ kdF c ≤ 3 ∧ (0 ≤ kdF c → 97 ≤ c) := by
  unfold kdF
  repeat' split
  all_goals omega
theorem mkF_bd (c : Int) : -1 ≤ mkF c ∧ mkF c ≤ 3 ∧ (0 ≤ mkF c → 45 ≤ c ∧ c ≠ 59) := by
  unfold mkF
  repeat' split
  all_goals omega
theorem kdP_bd {B : Int → Int} {L p q v : Int} (h : kdP B L p = .inr (q, v)) : q = p + 1 ∧ p < L ∧ 0 ≤ v ∧ v ≤ 3 := by
  unfold kdP at h
  by_cases z : 0 ≤ kdF (chT B L p)
  · rw [if_pos z] at h
    have h2 := Sum.inr.inj h
    have h3 : p + 1 = q := congrArg Prod.fst h2
    have h4 : kdF (chT B L p) = v := congrArg Prod.snd h2
    have b := kdF_bd (chT B L p)
    have h5 : p < L := by
      by_cases y : p < L
      · exact y
      · have b3 := b.2.2 z
        unfold chT at b3
        rw [if_neg y] at b3
        omega
    omega
  · rw [if_neg z] at h
    cases h
theorem woP_bd {B : Int → Int} {L p q v : Int} (hp : p ≤ L) (h : woP B L p = .inr (q, v)) : (p < q ∧ q ≤ L) ∧ 1 ≤ v ∧ v ≤ 12 ∧ v = q - p := by
  have b := leP_ok (B := B) hp
  unfold woP at h
  by_cases z : min (leP B L p) (p + 12) - p ≤ 0
  · rw [if_pos z] at h
    cases h
  · rw [if_neg z] at h
    have h2 := Sum.inr.inj h
    have h3 : min (leP B L p) (p + 12) = q := congrArg Prod.fst h2
    have h4 : min (leP B L p) (p + 12) - p = v := congrArg Prod.snd h2
    omega
