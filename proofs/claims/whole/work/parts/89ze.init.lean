/-! ===== STAGE B: the constructors: new cells ===== -/
theorem qN_nO {h : Hp} {t w n : Nat} : qN (newO h t w n) = qN h + 1 := rfl
theorem qN_pR {h : Hp} {a k v : Nat} : qN (putR h a k v) = qN h := rfl
theorem qN_nB {h : Hp} {t t2 n k : Nat} : qN (newB h t t2 n k) = qN h + 1 + n := rfl
/-- a heap grown by new cells; of the old ones WI's ints and WR's references may differ; ints that are 0 stay 0 outside WI -/
def EX (WI WR : Nat → Nat → Prop) (h h' : Hp) : Prop := qN h ≤ qN h' ∧ (∀ x, x ≤ qN h → qT h' x = qT h x ∧ qW h' x = qW h x) ∧ (∀ x j, x ≤ qN h → ¬ WI x j → qI h' x j = qI h x j) ∧ (∀ x j, ¬ WI x j → qI h x j = 0 → qI h' x j = 0) ∧ (∀ x j, x ≤ qN h → ¬ WR x j → qR h' x j = qR h x j)
theorem EX.rf {WI WR : Nat → Nat → Prop} {h : Hp} : EX WI WR h h := ⟨Nat.le_refl _, fun _ _ => ⟨rfl, rfl⟩, fun _ _ _ _ => rfl, fun _ _ _ z => z, fun _ _ _ _ => rfl⟩
theorem EX.tr {WI WR : Nat → Nat → Prop} {h h1 h2 : Hp} (a : EX WI WR h h1) (b : EX WI WR h1 h2) : EX WI WR h h2 := ⟨Nat.le_trans a.1 b.1, fun x z => ⟨(b.2.1 x (Nat.le_trans z a.1)).1.trans (a.2.1 x z).1, (b.2.1 x (Nat.le_trans z a.1)).2.trans (a.2.1 x z).2⟩, fun x j z y => (b.2.2.1 x j (Nat.le_trans z a.1) y).trans (a.2.2.1 x j z y), fun x j y z => b.2.2.2.1 x j y (a.2.2.2.1 x j y z), fun x j z y => (b.2.2.2.2 x j (Nat.le_trans z a.1) y).trans (a.2.2.2.2 x j z y)⟩
theorem EX.mo {WI WR VI VR : Nat → Nat → Prop} {h h1 : Hp} (a : EX WI WR h h1) (hi : ∀ x j, WI x j → VI x j) (hr : ∀ x j, x ≤ qN h → WR x j → VR x j) : EX VI VR h h1 := ⟨a.1, a.2.1, fun x j z y => a.2.2.1 x j z (fun q => y (hi x j q)), fun x j y z => a.2.2.2.1 x j (fun q => y (hi x j q)) z, fun x j z y => a.2.2.2.2 x j z (fun q => y (hr x j z q))⟩
theorem EX.nO {WI WR : Nat → Nat → Prop} {h : Hp} {t w n : Nat} : EX WI WR h (newO h t w n) := by
  refine ⟨Nat.le_succ _, fun x z => ⟨if_neg (by omega), if_neg (by omega)⟩, fun x j z _ => if_neg (by omega), fun x j _ z => ?_, fun x j z _ => if_neg (by omega)⟩
  show (if x = qN h + 1 then 0 else qI h x j) = 0
  split
  · rfl
  · exact z
theorem EX.nB {WI WR : Nat → Nat → Prop} {h : Hp} {t t2 n k : Nat} : EX WI WR h (newB h t t2 n k) := by
  refine ⟨by show qN h ≤ qN h + 1 + n; omega, fun x z => ⟨?_, ?_⟩, fun x j z _ => if_neg (by omega), fun x j _ z => ?_, fun x j z _ => ?_⟩
  · show (if x = qN h + 1 then t else if qN h + 1 < x ∧ x ≤ qN h + 1 + n then t2 else qT h x) = _
    rw [if_neg (by omega), if_neg (by omega)]
  · show (if x = qN h + 1 then n else if qN h + 1 < x ∧ x ≤ qN h + 1 + n then k else qW h x) = _
    rw [if_neg (by omega), if_neg (by omega)]
  · show (if qN h < x ∧ x ≤ qN h + 1 + n then 0 else qI h x j) = 0
    split
    · rfl
    · exact z
  · show (if x = qN h + 1 then (if j < n then qN h + 2 + j else 0) else if qN h + 1 < x ∧ x ≤ qN h + 1 + n then 0 else qR h x j) = _
    rw [if_neg (by omega), if_neg (by omega)]
theorem EX.pR {WI WR : Nat → Nat → Prop} {h : Hp} {a k v : Nat} (w : WR a k) : EX WI WR h (putR h a k v) := ⟨Nat.le_refl _, fun _ _ => ⟨rfl, rfl⟩, fun _ _ _ _ => rfl, fun _ _ _ z => z, fun x j _ y => if_neg (fun q => y (by rw [q.1, q.2]; exact w))⟩
theorem EX.pI {WI WR : Nat → Nat → Prop} {h : Hp} {a k : Nat} {v : Int32} (w : WI a k) : EX WI WR h (putI h a k v) := ⟨Nat.le_refl _, fun _ _ => ⟨rfl, rfl⟩, fun x j _ y => if_neg (fun q => y (by rw [q.1, q.2]; exact w)), fun x j y z => (if_neg (fun q => y (by rw [q.1, q.2]; exact w))).trans z, fun _ _ _ _ => rfl⟩
theorem okr_ex {WI WR : Nat → Nat → Prop} {h h' : Hp} {x t : Nat} (e : EX WI WR h h') (o : okr h x t) : okr h' x t := ⟨⟨o.1.1, Nat.le_trans o.1.2 e.1⟩, (e.2.1 x o.1.2).1.trans o.2⟩
/-- a new array, its address in field k of a -/
def aF (h : Hp) (a k t w : Nat) : Hp := putR (newO h t w w) a k (qN h + 1)
def bF (h : Hp) (a k t t2 n w : Nat) : Hp := putR (newB h t t2 n w) a k (qN h + 1)
theorem aF_is {h h1 : Hp} {a k t w : Nat} (e : h1 = aF h a k t w) : putR (newO h t w w) a k (qN h + 1) = h1 := e.symm
theorem bF_is {h h1 : Hp} {a k t t2 n w : Nat} (e : h1 = bF h a k t t2 n w) : putR (newB h t t2 n w) a k (qN h + 1) = h1 := e.symm
theorem EX.aF {WI WR : Nat → Nat → Prop} {h : Hp} {a k t w : Nat} (q : WR a k) : EX WI WR h (aF h a k t w) := EX.nO.tr (EX.pR q)
theorem EX.bF {WI WR : Nat → Nat → Prop} {h : Hp} {a k t t2 n w : Nat} (q : WR a k) : EX WI WR h (bF h a k t t2 n w) := EX.nB.tr (EX.pR q)
/-- fields of a with the places, tags and lengths behind it -/
def FD (h : Hp) (a : Nat) (L : List (Nat × Nat × Nat × Nat)) : Prop := ∀ f ∈ L, qR h a f.1 = a + f.2.1 ∧ okr h (a + f.2.1) f.2.2.1 ∧ qW h (a + f.2.1) = f.2.2.2
theorem FD.nil {h : Hp} {a : Nat} : FD h a [] := fun f hf => by cases hf
theorem FD.ex {WI WR : Nat → Nat → Prop} {h h' : Hp} {a : Nat} {L : List (Nat × Nat × Nat × Nat)} (d : FD h a L) (e : EX WI WR h h') (ha : a ≤ qN h) (hw : ∀ f ∈ L, ¬ WR a f.1) : FD h' a L := fun f hf => by
  obtain ⟨d1, d2, d3⟩ := d f hf
  exact ⟨(e.2.2.2.2 a f.1 ha (hw f hf)).trans d1, okr_ex e d2, (e.2.1 _ d2.1.2).2.trans d3⟩
theorem FD.aF {h : Hp} {a k t w z : Nat} {L : List (Nat × Nat × Nat × Nat)} (d : FD h a L) (ha : a ≤ qN h) (hd : qN h + 1 = a + z) (hk : ∀ f ∈ L, f.1 ≠ k) : FD (aF h a k t w) a ((k, z, t, w) :: L) := by
  intro f hf
  rcases List.mem_cons.mp hf with rfl | hf
  · refine ⟨?_, ⟨⟨by show 1 ≤ a + z; omega, ?_⟩, ?_⟩, ?_⟩
    · show (if a = a ∧ k = k then qN h + 1 else qR (newO h t w w) a k) = a + z
      rw [if_pos ⟨rfl, rfl⟩, hd]
    · show a + z ≤ qN h + 1
      omega
    · show (if a + z = qN h + 1 then t else qT h (a + z)) = t
      rw [if_pos (by omega)]
    · show (if a + z = qN h + 1 then w else qW h (a + z)) = w
      rw [if_pos (by omega)]
  · exact d.ex (EX.aF (WI := fun _ _ => False) (WR := fun x j => x = a ∧ j = k) ⟨rfl, rfl⟩) ha (fun f hf q => hk f hf q.2) f hf
theorem FD.bF {h : Hp} {a k t t2 n w z : Nat} {L : List (Nat × Nat × Nat × Nat)} (d : FD h a L) (ha : a ≤ qN h) (hd : qN h + 1 = a + z) (hk : ∀ f ∈ L, f.1 ≠ k) : FD (bF h a k t t2 n w) a ((k, z, t, n) :: L) := by
  intro f hf
  rcases List.mem_cons.mp hf with rfl | hf
  · refine ⟨?_, ⟨⟨by show 1 ≤ a + z; omega, ?_⟩, ?_⟩, ?_⟩
    · show (if a = a ∧ k = k then qN h + 1 else qR (newB h t t2 n w) a k) = a + z
      rw [if_pos ⟨rfl, rfl⟩, hd]
    · show a + z ≤ qN h + 1 + n
      omega
    · show (if a + z = qN h + 1 then t else if qN h + 1 < a + z ∧ a + z ≤ qN h + 1 + n then t2 else qT h (a + z)) = t
      rw [if_pos (by omega)]
    · show (if a + z = qN h + 1 then n else if qN h + 1 < a + z ∧ a + z ≤ qN h + 1 + n then w else qW h (a + z)) = n
      rw [if_pos (by omega)]
  · exact d.ex (EX.bF (WI := fun _ _ => False) (WR := fun x j => x = a ∧ j = k) ⟨rfl, rfl⟩) ha (fun f hf q => hk f hf q.2) f hf
/-- the arrays of an array of arrays -/
def IA (h : Hp) (b c n t2 w : Nat) : Prop := okr h b 24 ∧ ∀ g, g < n → qR h b g = c + g ∧ okr h (c + g) t2 ∧ qW h (c + g) = w
theorem IA.ex {WI WR : Nat → Nat → Prop} {h h' : Hp} {b c n t2 w : Nat} (d : IA h b c n t2 w) (e : EX WI WR h h') (hw : ∀ j, ¬ WR b j) : IA h' b c n t2 w := ⟨okr_ex e d.1, fun g hg => by
  obtain ⟨d1, d2, d3⟩ := d.2 g hg
  exact ⟨(e.2.2.2.2 b g d.1.1.2 (hw g)).trans d1, okr_ex e d2, (e.2.1 _ d2.1.2).2.trans d3⟩⟩
theorem IA.bF {h : Hp} {a k t2 n w b c : Nat} (hb : qN h + 1 = b) (hc : b + 1 = c) (ha : a ≤ qN h) : IA (bF h a k 24 t2 n w) b c n t2 w := by
  refine ⟨⟨⟨by omega, by show b ≤ qN h + 1 + n; omega⟩, ?_⟩, fun g hg => ⟨?_, ⟨⟨by omega, by show c + g ≤ qN h + 1 + n; omega⟩, ?_⟩, ?_⟩⟩
  · show (if b = qN h + 1 then 24 else if qN h + 1 < b ∧ b ≤ qN h + 1 + n then t2 else qT h b) = 24
    rw [if_pos hb.symm]
  · show (if b = a ∧ g = k then qN h + 1 else if b = qN h + 1 then (if g < n then qN h + 2 + g else 0) else if qN h + 1 < b ∧ b ≤ qN h + 1 + n then 0 else qR h b g) = c + g
    rw [if_neg (by omega), if_pos hb.symm, if_pos hg]
    omega
  · show (if c + g = qN h + 1 then 24 else if qN h + 1 < c + g ∧ c + g ≤ qN h + 1 + n then t2 else qT h (c + g)) = t2
    rw [if_neg (by omega), if_pos (by omega)]
  · show (if c + g = qN h + 1 then n else if qN h + 1 < c + g ∧ c + g ≤ qN h + 1 + n then w else qW h (c + g)) = w
    rw [if_neg (by omega), if_pos (by omega)]
theorem LC.ex {WI WR : Nat → Nat → Prop} {h h' : Hp} {q : Nat} (l : LC h q) (e : EX WI WR h h') (hw : ∀ j, ¬ WR q j) : LC h' q := by
  obtain ⟨o, ⟨r5, r6, r8, r9, r10, r11, r12⟩, ⟨o1, o2, o3, o4, o5, o6, o7⟩, ⟨w1, w2, w3, w4, w5, w6, w7⟩⟩ := l
  have r : ∀ j, qR h' q j = qR h q j := fun j => e.2.2.2.2 q j o.1.2 (hw j)
  exact ⟨okr_ex e o, ⟨(r _).trans r5, (r _).trans r6, (r _).trans r8, (r _).trans r9, (r _).trans r10, (r _).trans r11, (r _).trans r12⟩, ⟨okr_ex e o1, okr_ex e o2, okr_ex e o3, okr_ex e o4, okr_ex e o5, okr_ex e o6, okr_ex e o7⟩, ⟨(e.2.1 _ o1.1.2).2.trans w1, (e.2.1 _ o2.1.2).2.trans w2, (e.2.1 _ o3.1.2).2.trans w3, (e.2.1 _ o4.1.2).2.trans w4, (e.2.1 _ o5.1.2).2.trans w5, (e.2.1 _ o6.1.2).2.trans w6, (e.2.1 _ o7.1.2).2.trans w7⟩⟩
theorem qlt {x a k : Nat} (n : x = a + k) (hb : a < 900000) (hk : k < 9999) : x + 1 < 1000000 := by omega
theorem qlt2 {x a k m : Nat} (n : x = a + k) (hb : a < 900000) (hk : k + m < 9999) : x + 1 + m < 1000000 := by omega
theorem lt9 {a : Nat} (hb : a < 700000) : a < 900000 := by omega
/-- a content is made -/
theorem g_init4 {h : Hp} {a : Nat} (hn : qN h = a) (ha : 1 ≤ a) (hb : a < 900000) (hT : qT h a = 4) : ∃ h2, f_X4_init h a = some (h2, .inr ()) ∧ qN h2 = a + 7 ∧ EX (fun _ _ => False) (fun x _ => x = a) h h2 ∧ LC h2 a ∧ qC h2 = qC h + 7 ∧ qS h2 = qS h + 109 := by
  have o : okr (newO h 20 12 12) a 4 := ⟨⟨ha, by show a ≤ qN h + 1; omega⟩, by show (if a = qN h + 1 then 20 else qT h a) = 4; rw [if_neg (by omega)]; exact hT⟩
  obtain ⟨h1, e1⟩ : ∃ z, z = aF h a 5 20 12 := ⟨_, rfl⟩
  have n1 : qN h1 = a + 1 := by rw [e1]; exact (congrArg (fun z => z + 1) hn)
  have k1 : qC h1 = qC h + 1 ∧ qS h1 = qS h + 12 := by rw [e1]; exact ⟨rfl, rfl⟩
  have d1 : FD h1 a [(5, 1, 20, 12)] := by rw [e1]; exact FD.nil.aF (Nat.le_of_eq hn.symm) (congrArg (fun z => z + 1) hn) (by decide)
  have x1 : EX (fun _ _ => False) (fun x _ => x = a) h h1 := (show EX (fun _ _ => False) (fun x _ => x = a) h h1 by rw [e1]; exact EX.aF rfl)
  obtain ⟨h2, e2⟩ : ∃ z, z = aF h1 a 6 20 12 := ⟨_, rfl⟩
  have n2 : qN h2 = a + 2 := by rw [e2]; exact (congrArg (fun z => z + 1) n1)
  have k2 : qC h2 = qC h1 + 1 ∧ qS h2 = qS h1 + 12 := by rw [e2]; exact ⟨rfl, rfl⟩
  have d2 : FD h2 a [(6, 2, 20, 12), (5, 1, 20, 12)] := by rw [e2]; exact d1.aF (Nat.le.intro n1.symm) (congrArg (fun z => z + 1) n1) (by decide)
  have x2 : EX (fun _ _ => False) (fun x _ => x = a) h h2 := x1.tr (show EX (fun _ _ => False) (fun x _ => x = a) h1 h2 by rw [e2]; exact EX.aF rfl)
  obtain ⟨h3, e3⟩ : ∃ z, z = aF h2 a 8 20 12 := ⟨_, rfl⟩
  have n3 : qN h3 = a + 3 := by rw [e3]; exact (congrArg (fun z => z + 1) n2)
  have k3 : qC h3 = qC h2 + 1 ∧ qS h3 = qS h2 + 12 := by rw [e3]; exact ⟨rfl, rfl⟩
  have d3 : FD h3 a [(8, 3, 20, 12), (6, 2, 20, 12), (5, 1, 20, 12)] := by rw [e3]; exact d2.aF (Nat.le.intro n2.symm) (congrArg (fun z => z + 1) n2) (by decide)
  have x3 : EX (fun _ _ => False) (fun x _ => x = a) h h3 := x2.tr (show EX (fun _ _ => False) (fun x _ => x = a) h2 h3 by rw [e3]; exact EX.aF rfl)
  obtain ⟨h4, e4⟩ : ∃ z, z = aF h3 a 9 20 12 := ⟨_, rfl⟩
  have n4 : qN h4 = a + 4 := by rw [e4]; exact (congrArg (fun z => z + 1) n3)
  have k4 : qC h4 = qC h3 + 1 ∧ qS h4 = qS h3 + 12 := by rw [e4]; exact ⟨rfl, rfl⟩
  have d4 : FD h4 a [(9, 4, 20, 12), (8, 3, 20, 12), (6, 2, 20, 12), (5, 1, 20, 12)] := by rw [e4]; exact d3.aF (Nat.le.intro n3.symm) (congrArg (fun z => z + 1) n3) (by decide)
  have x4 : EX (fun _ _ => False) (fun x _ => x = a) h h4 := x3.tr (show EX (fun _ _ => False) (fun x _ => x = a) h3 h4 by rw [e4]; exact EX.aF rfl)
  obtain ⟨h5, e5⟩ : ∃ z, z = aF h4 a 10 22 12 := ⟨_, rfl⟩
  have n5 : qN h5 = a + 5 := by rw [e5]; exact (congrArg (fun z => z + 1) n4)
  have k5 : qC h5 = qC h4 + 1 ∧ qS h5 = qS h4 + 12 := by rw [e5]; exact ⟨rfl, rfl⟩
  have d5 : FD h5 a [(10, 5, 22, 12), (9, 4, 20, 12), (8, 3, 20, 12), (6, 2, 20, 12), (5, 1, 20, 12)] := by rw [e5]; exact d4.aF (Nat.le.intro n4.symm) (congrArg (fun z => z + 1) n4) (by decide)
  have x5 : EX (fun _ _ => False) (fun x _ => x = a) h h5 := x4.tr (show EX (fun _ _ => False) (fun x _ => x = a) h4 h5 by rw [e5]; exact EX.aF rfl)
  obtain ⟨h6, e6⟩ : ∃ z, z = aF h5 a 11 20 12 := ⟨_, rfl⟩
  have n6 : qN h6 = a + 6 := by rw [e6]; exact (congrArg (fun z => z + 1) n5)
  have k6 : qC h6 = qC h5 + 1 ∧ qS h6 = qS h5 + 12 := by rw [e6]; exact ⟨rfl, rfl⟩
  have d6 : FD h6 a [(11, 6, 20, 12), (10, 5, 22, 12), (9, 4, 20, 12), (8, 3, 20, 12), (6, 2, 20, 12), (5, 1, 20, 12)] := by rw [e6]; exact d5.aF (Nat.le.intro n5.symm) (congrArg (fun z => z + 1) n5) (by decide)
  have x6 : EX (fun _ _ => False) (fun x _ => x = a) h h6 := x5.tr (show EX (fun _ _ => False) (fun x _ => x = a) h5 h6 by rw [e6]; exact EX.aF rfl)
  obtain ⟨h7, e7⟩ : ∃ z, z = aF h6 a 12 20 37 := ⟨_, rfl⟩
  have n7 : qN h7 = a + 7 := by rw [e7]; exact (congrArg (fun z => z + 1) n6)
  have k7 : qC h7 = qC h6 + 1 ∧ qS h7 = qS h6 + 37 := by rw [e7]; exact ⟨rfl, rfl⟩
  have d7 : FD h7 a [(12, 7, 20, 37), (11, 6, 20, 12), (10, 5, 22, 12), (9, 4, 20, 12), (8, 3, 20, 12), (6, 2, 20, 12), (5, 1, 20, 12)] := by rw [e7]; exact d6.aF (Nat.le.intro n6.symm) (congrArg (fun z => z + 1) n6) (by decide)
  have x7 : EX (fun _ _ => False) (fun x _ => x = a) h h7 := x6.tr (show EX (fun _ _ => False) (fun x _ => x = a) h6 h7 by rw [e7]; exact EX.aF rfl)
  have cc : qC h7 = qC h + 7 ∧ qS h7 = qS h + 109 := by rw [e7, e6, e5, e4, e3, e2, e1]; exact ⟨rfl, rfl⟩
  refine ⟨h7, ?_, n7, x7, ?_, cc⟩
  · unfold f_X4_init
    rw [chk_pos (show qN h + 1 < 1000000 by omega), lt_is, chk_pos o, lt_is, aF_is e1, chk_pos (qlt n1 hb (by decide)), lt_is, lt_is, aF_is e2, chk_pos (qlt n2 hb (by decide)), lt_is, lt_is, aF_is e3, chk_pos (qlt n3 hb (by decide)), lt_is, lt_is, aF_is e4, chk_pos (qlt n4 hb (by decide)), lt_is, lt_is, aF_is e5, chk_pos (qlt n5 hb (by decide)), lt_is, lt_is, aF_is e6, chk_pos (qlt n6 hb (by decide)), lt_is, lt_is, aF_is e7]
  · have f5 := d7 (5, 1, 20, 12) (by decide)
    have f6 := d7 (6, 2, 20, 12) (by decide)
    have f8 := d7 (8, 3, 20, 12) (by decide)
    have f9 := d7 (9, 4, 20, 12) (by decide)
    have f10 := d7 (10, 5, 22, 12) (by decide)
    have f11 := d7 (11, 6, 20, 12) (by decide)
    have f12 := d7 (12, 7, 20, 37) (by decide)
    exact ⟨okr_ex x7 ⟨⟨ha, by omega⟩, hT⟩, ⟨f5.1, f6.1, f8.1, f9.1, f10.1, f11.1, f12.1⟩, ⟨f5.2.1, f6.2.1, f8.2.1, f9.2.1, f10.2.1, f11.2.1, f12.2.1⟩, ⟨f5.2.2, f6.2.2, f8.2.2, f9.2.2, f10.2.2, f11.2.2, f12.2.2⟩⟩
/-- a cell with its content -/
def CL (h : Hp) (c : Nat) : Prop := okr h c 1 ∧ qR h c 3 = c + 1 ∧ LC h (c + 1)
theorem CL.ex {WI WR : Nat → Nat → Prop} {h h' : Hp} {c : Nat} (l : CL h c) (e : EX WI WR h h') (hw : ∀ x j, c ≤ x → x ≤ c + 1 → ¬ WR x j) : CL h' c := ⟨okr_ex e l.1, (e.2.2.2.2 c 3 l.1.1.2 (hw c 3 (by omega) (by omega))).trans l.2.1, l.2.2.ex e (fun j => hw _ j (by omega) (by omega))⟩
theorem g_init1 {h : Hp} {a : Nat} (hn : qN h = a) (ha : 1 ≤ a) (hb : a < 800000) (hT : qT h a = 1) : ∃ h2, f_X1_init h a = some (h2, .inr ()) ∧ qN h2 = a + 8 ∧ EX (fun _ _ => False) (fun x _ => x = a) h h2 ∧ CL h2 a ∧ qC h2 = qC h + 8 ∧ qS h2 = qS h + 122 := by
  obtain ⟨h3, e3, n3, x3, l3, c3, s3⟩ := g_init4 (h := newO h 4 0 13) (a := a + 1) (by show qN h + 1 = a + 1; omega) (by omega) (by omega) (by show (if a + 1 = qN h + 1 then 4 else qT h (a + 1)) = 4; rw [if_pos (by omega)])
  have x4 : EX (fun _ _ => False) (fun x _ => x = a + 1) h h3 := EX.nO.tr x3
  have x5 : EX (fun _ _ => False) (fun x _ => x = a) h h3 := x4.mo (fun _ _ z => z) (fun x j z1 z2 => by omega)
  have o : okr h a 1 := ⟨⟨ha, by omega⟩, hT⟩
  have o3 := okr_ex x5 o
  have p : EX (fun _ _ => False) (fun x j => x = a ∧ j = 3) h3 (putR h3 a 3 (a + 1)) := EX.pR ⟨rfl, rfl⟩
  refine ⟨putR h3 a 3 (a + 1), ?_, n3.trans (by omega), x5.tr (EX.pR rfl), ⟨okr_ex p o3, if_pos ⟨rfl, rfl⟩, l3.ex p (fun j z => by omega)⟩, by show qC h3 = _; rw [c3]; show qC h + 1 + 7 = _; omega, by show qS h3 = _; rw [s3]; show qS h + 13 + 109 = _; omega⟩
  unfold f_X1_init
  rw [hn, chk_pos (by omega), lt_is, e3, bnd_ret, chk_pos o3, chk_pos l3.1, lt_is]
/-- the cells of a table are made -/
theorem g_init7L {T : Nat} (hT1 : 1 ≤ T) (hT2 : T < 700000) : ∀ (d k n : Nat) (h : Hp), k + d = 16 → d < n → qN h = T + 3 + 9 * k → okr h T 7 → qR h T 8 = T + 3 → okr h (T + 3) 25 → qW h (T + 3) = 16 → (∀ i, i < k → CL h (T + 4 + 9 * i) ∧ qR h (T + 3) i = T + 4 + 9 * i) →
    ∃ h2, f_X7_init_L45 n h T (iN k) = some (h2, .inr ()) ∧ qN h2 = T + 147 ∧ EX (fun _ _ => False) (fun x _ => x = T + 3) h h2 ∧ (∀ i, i < 16 → CL h2 (T + 4 + 9 * i) ∧ qR h2 (T + 3) i = T + 4 + 9 * i) ∧ qC h2 = qC h + 9 * d ∧ qS h2 = qS h + 126 * d := by
  intro d
  induction d with
  | zero =>
    intro k n h hk hn hN o1 o2 o3 o4 hc
    obtain ⟨n, rfl⟩ : ∃ z, n = z + 1 := ⟨n - 1, by omega⟩
    refine ⟨h, ?_, by omega, EX.rf, fun i hi => hc i (by omega), rfl, rfl⟩
    show f_X7_init_B45 (f_X7_init_L45 n) h T (iN k) = _
    unfold f_X7_init_B45
    rw [if_pos (yleN (by omega) (by omega) (by omega))]
  | succ d ih =>
    intro k n h hk hn hN o1 o2 o3 o4 hc
    obtain ⟨n, rfl⟩ : ∃ z, n = z + 1 := ⟨n - 1, by omega⟩
    have hN1 : qN h + 1 = T + 4 + 9 * k := by omega
    obtain ⟨h3, e3, n3, x3, l3, c3, s3⟩ := g_init1 (h := newO h 1 0 4) (a := T + 4 + 9 * k) hN1 (by omega) (by omega) (by show (if T + 4 + 9 * k = qN h + 1 then 1 else qT h (T + 4 + 9 * k)) = 1; rw [if_pos (by omega)])
    have x4 : EX (fun _ _ => False) (fun x _ => x = T + 4 + 9 * k) h h3 := EX.nO.tr x3
    have x5 : EX (fun _ _ => False) (fun x _ => x = T + 3) h h3 := x4.mo (fun _ _ z => z) (fun x j z1 z2 => by omega)
    have x6 : EX (fun _ _ => False) (fun x j => x = T + 3 ∧ j = k) h h3 := x4.mo (fun _ _ z => z) (fun x j z1 z2 => by omega)
    have p : EX (fun _ _ => False) (fun x j => x = T + 3 ∧ j = k) h3 (putR h3 (T + 3) k (T + 4 + 9 * k)) := EX.pR ⟨rfl, rfl⟩
    have x7 := x6.tr p
    obtain ⟨h9, e9, n9, x9, l9, c9, s9⟩ := ih (k + 1) n (putR h3 (T + 3) k (T + 4 + 9 * k)) (by omega) (by omega) (n3.trans (by omega)) (okr_ex x7 o1) ((x7.2.2.2.2 T 8 o1.1.2 (fun z => by omega)).trans o2) (okr_ex x7 o3) ((x7.2.1 _ o3.1.2).2.trans o4) (fun i hi => by
      by_cases q : i = k
      · subst q
        exact ⟨l3.ex p (fun x j z1 z2 z3 => by omega), if_pos ⟨rfl, rfl⟩⟩
      · obtain ⟨h1, h2⟩ := hc i (by omega)
        exact ⟨h1.ex x7 (fun x j z1 z2 z3 => by omega), (x7.2.2.2.2 (T + 3) i o3.1.2 (fun z => by omega)).trans h2⟩)
    refine ⟨h9, ?_, n9, (x5.tr (EX.pR rfl)).tr x9, l9, ?_, ?_⟩
    · show f_X7_init_B45 (f_X7_init_L45 n) h T (iN k) = _
      unfold f_X7_init_B45
      rw [if_neg (nleN (by omega) (by omega) (by omega)), chk_pos o1, o2, chk_pos o3, hN1, chk_pos (by omega), lt_is, e3, bnd_ret, chk_pos (okr_ex x5 o3), (x5.2.1 _ o3.1.2).2.trans o4, ck_in (by omega) (by omega) (by omega), chk_pos l3.1, lt_is, iN_clN (by omega), iN_add]
      exact e9
    · rw [c9]
      show qC h3 + 9 * d = _
      rw [c3]
      show qC h + 1 + 8 + 9 * d = _
      omega
    · rw [s9]
      show qS h3 + 126 * d = _
      rw [s3]
      show qS h + 4 + 122 + 126 * d = _
      omega
/-- a table is made -/
theorem g_init7 {h0 : Hp} {T : Nat} (hn : qN h0 = T) (ha : 1 ≤ T) (hb : T < 700000) (hT : qT h0 T = 7) : ∃ h2, f_X7_init h0 T = some (h2, .inr ()) ∧ qN h2 = T + 147 ∧ EX (fun x j => x = T ∧ (j = 0 ∨ j = 1 ∨ j = 3)) (fun x _ => x = T) h0 h2 ∧ LTb h2 T ∧ (qI h2 T 0 = iN 30 ∧ qI h2 T 1 = iN 1 ∧ qI h2 T 3 = iN 3) ∧ qC h2 = qC h0 + 147 ∧ qS h2 = qS h0 + 2040 := by
  obtain ⟨h, e0⟩ : ∃ z, z = putI (putI (putI h0 T 0 (iN 30)) T 1 (iN 1)) T 3 (iN 3) := ⟨_, rfl⟩
  have n0 : qN h = T := by rw [e0]; exact hn
  have o : okr h T 7 := by rw [e0]; exact ⟨⟨ha, Nat.le_of_eq hn.symm⟩, hT⟩
  have z0 : EX (fun x j => x = T ∧ (j = 0 ∨ j = 1 ∨ j = 3)) (fun x _ => x = T) h0 h := by rw [e0]; exact ((EX.pI ⟨rfl, Or.inl rfl⟩).tr (EX.pI ⟨rfl, Or.inr (Or.inl rfl)⟩)).tr (EX.pI ⟨rfl, Or.inr (Or.inr rfl)⟩)
  have i0 : qI h T 0 = iN 30 ∧ qI h T 1 = iN 1 ∧ qI h T 3 = iN 3 := by
    rw [e0]
    refine ⟨?_, ?_, ?_⟩
    · rw [qI_pI, if_neg (by omega), qI_pI, if_neg (by omega), rd_eq]
    · rw [qI_pI, if_neg (by omega), rd_eq]
    · rw [rd_eq]
  obtain ⟨h1, e1⟩ : ∃ z, z = aF h T 6 20 4 := ⟨_, rfl⟩
  have n1 : qN h1 = T + 1 := by rw [e1]; exact (congrArg (fun z => z + 1) n0)
  have k1 : qC h1 = qC h + 1 ∧ qS h1 = qS h + 4 := by rw [e1]; exact ⟨rfl, rfl⟩
  have d1 : FD h1 T [(6, 1, 20, 4)] := by rw [e1]; exact FD.nil.aF (Nat.le_of_eq n0.symm) (congrArg (fun z => z + 1) n0) (by decide)
  have x1 : EX (fun _ _ => False) (fun x _ => x = T) h h1 := (show EX (fun _ _ => False) (fun x _ => x = T) h h1 by rw [e1]; exact EX.aF rfl)
  obtain ⟨h2, e2⟩ : ∃ z, z = aF h1 T 7 20 4 := ⟨_, rfl⟩
  have n2 : qN h2 = T + 2 := by rw [e2]; exact (congrArg (fun z => z + 1) n1)
  have k2 : qC h2 = qC h1 + 1 ∧ qS h2 = qS h1 + 4 := by rw [e2]; exact ⟨rfl, rfl⟩
  have d2 : FD h2 T [(7, 2, 20, 4), (6, 1, 20, 4)] := by rw [e2]; exact d1.aF (Nat.le.intro n1.symm) (congrArg (fun z => z + 1) n1) (by decide)
  have x2 : EX (fun _ _ => False) (fun x _ => x = T) h h2 := x1.tr (show EX (fun _ _ => False) (fun x _ => x = T) h1 h2 by rw [e2]; exact EX.aF rfl)
  obtain ⟨h3, e3⟩ : ∃ z, z = aF h2 T 8 25 16 := ⟨_, rfl⟩
  have n3 : qN h3 = T + 3 := by rw [e3]; exact (congrArg (fun z => z + 1) n2)
  have k3 : qC h3 = qC h2 + 1 ∧ qS h3 = qS h2 + 16 := by rw [e3]; exact ⟨rfl, rfl⟩
  have d3 : FD h3 T [(8, 3, 25, 16), (7, 2, 20, 4), (6, 1, 20, 4)] := by rw [e3]; exact d2.aF (Nat.le.intro n2.symm) (congrArg (fun z => z + 1) n2) (by decide)
  have x3 : EX (fun _ _ => False) (fun x _ => x = T) h h3 := x2.tr (show EX (fun _ _ => False) (fun x _ => x = T) h2 h3 by rw [e3]; exact EX.aF rfl)
  have f6 := d3 (6, 1, 20, 4) (by decide)
  have f7 := d3 (7, 2, 20, 4) (by decide)
  have f8 := d3 (8, 3, 25, 16) (by decide)
  have o3 := okr_ex x3 o
  have cc : qC h3 = qC h0 + 3 ∧ qS h3 = qS h0 + 24 := by rw [e3, e2, e1, e0]; exact ⟨rfl, rfl⟩
  obtain ⟨h9, e9, n9, x9, l9, c9, s9⟩ := g_init7L ha hb 16 0 2000 h3 (by omega) (by omega) (by omega) o3 f8.1 f8.2.1 f8.2.2 (fun i hi => by omega)
  have xa : EX (fun _ _ => False) (fun x _ => x = T ∨ x = T + 3) h h9 := (x3.mo (fun _ _ z => z) (fun x j _ z => Or.inl z)).tr (x9.mo (fun _ _ z => z) (fun x j _ z => Or.inr z))
  have xx : EX (fun _ _ => False) (fun x _ => x = T) h h9 := xa.mo (fun _ _ z => z) (fun x j z1 z2 => by omega)
  have rr : ∀ j, qR h9 T j = qR h3 T j := fun j => x9.2.2.2.2 T j o3.1.2 (fun z => by omega)
  refine ⟨h9, ?_, n9, z0.tr (xx.mo (fun _ _ z => z.elim) (fun _ _ _ z => z)), ⟨⟨okr_ex x9 o3, (rr 6).trans f6.1, (rr 7).trans f7.1, (rr 8).trans f8.1⟩, ⟨okr_ex x9 f6.2.1, okr_ex x9 f7.2.1, okr_ex x9 f8.2.1⟩, ⟨(x9.2.1 _ f6.2.1.1.2).2.trans f6.2.2, (x9.2.1 _ f7.2.1.1.2).2.trans f7.2.2, (x9.2.1 _ f8.2.1.1.2).2.trans f8.2.2⟩, fun k hk => (l9 k hk).1, fun i hi => ⟨i, hi, (l9 i hi).2⟩, fun i j hi hj e => by rw [(l9 i hi).2, (l9 j hj).2] at e; omega⟩, ⟨(xx.2.2.1 T 0 (Nat.le_of_eq n0.symm) id).trans i0.1, (xx.2.2.1 T 1 (Nat.le_of_eq n0.symm) id).trans i0.2.1, (xx.2.2.1 T 3 (Nat.le_of_eq n0.symm) id).trans i0.2.2⟩, by rw [c9, cc.1], by rw [s9, cc.2]⟩
  unfold f_X7_init
  rw [chk_pos (show okr h0 T 7 from ⟨⟨ha, Nat.le_of_eq hn.symm⟩, hT⟩), lt_is, lt_is, lt_is, ← e0, chk_pos (qlt (k := 0) n0 (lt9 hb) (by decide)), lt_is, lt_is, aF_is e1, chk_pos (qlt n1 (lt9 hb) (by decide)), lt_is, lt_is, aF_is e2, chk_pos (qlt n2 (lt9 hb) (by decide)), lt_is, lt_is, aF_is e3]
  exact e9
/-- columns are made -/
theorem g_init3 {h0 : Hp} {C T : Nat} (hn : qN h0 = C) (hb : C < 700000) (hC : qT h0 C = 3) (oT : okr h0 T 7) (ct : C = T + 148) : ∃ h2, f_X3_init h0 C T = some (h2, .inr ()) ∧ qN h2 = C + 11 ∧ EX (fun _ _ => False) (fun x _ => x = C) h0 h2 ∧ LK h2 C T ∧ qC h2 = qC h0 + 11 ∧ qS h2 = qS h0 + 44 := by
  obtain ⟨h, e0⟩ : ∃ z, z = putR h0 C 0 T := ⟨_, rfl⟩
  have n0 : qN h = C := by rw [e0]; exact hn
  have oC : okr h0 C 3 := ⟨⟨by omega, Nat.le_of_eq hn.symm⟩, hC⟩
  have o : okr h C 3 := by rw [e0]; exact oC
  have z0 : EX (fun _ _ => False) (fun x _ => x = C) h0 h := by rw [e0]; exact EX.pR rfl
  have i0 : qR h C 0 = T := by rw [e0]; exact if_pos ⟨rfl, rfl⟩
  obtain ⟨h1, e1⟩ : ∃ z, z = aF h C 1 20 4 := ⟨_, rfl⟩
  have n1 : qN h1 = C + 1 := by rw [e1]; exact (congrArg (fun z => z + 1) n0)
  have k1 : qC h1 = qC h + 1 ∧ qS h1 = qS h + 4 := by rw [e1]; exact ⟨rfl, rfl⟩
  have d1 : FD h1 C [(1, 1, 20, 4)] := by rw [e1]; exact FD.nil.aF (Nat.le_of_eq n0.symm) (congrArg (fun z => z + 1) n0) (by decide)
  have x1 : EX (fun _ _ => False) (fun x j => x = C ∧ j ≠ 0) h h1 := (show EX (fun _ _ => False) (fun x j => x = C ∧ j ≠ 0) h h1 by rw [e1]; exact EX.aF ⟨rfl, by decide⟩)
  obtain ⟨h2, e2⟩ : ∃ z, z = aF h1 C 2 20 4 := ⟨_, rfl⟩
  have n2 : qN h2 = C + 2 := by rw [e2]; exact (congrArg (fun z => z + 1) n1)
  have k2 : qC h2 = qC h1 + 1 ∧ qS h2 = qS h1 + 4 := by rw [e2]; exact ⟨rfl, rfl⟩
  have d2 : FD h2 C [(2, 2, 20, 4), (1, 1, 20, 4)] := by rw [e2]; exact d1.aF (Nat.le.intro n1.symm) (congrArg (fun z => z + 1) n1) (by decide)
  have x2 : EX (fun _ _ => False) (fun x j => x = C ∧ j ≠ 0) h h2 := x1.tr (show EX (fun _ _ => False) (fun x j => x = C ∧ j ≠ 0) h1 h2 by rw [e2]; exact EX.aF ⟨rfl, by decide⟩)
  obtain ⟨h3, e3⟩ : ∃ z, z = aF h2 C 3 20 4 := ⟨_, rfl⟩
  have n3 : qN h3 = C + 3 := by rw [e3]; exact (congrArg (fun z => z + 1) n2)
  have k3 : qC h3 = qC h2 + 1 ∧ qS h3 = qS h2 + 4 := by rw [e3]; exact ⟨rfl, rfl⟩
  have d3 : FD h3 C [(3, 3, 20, 4), (2, 2, 20, 4), (1, 1, 20, 4)] := by rw [e3]; exact d2.aF (Nat.le.intro n2.symm) (congrArg (fun z => z + 1) n2) (by decide)
  have x3 : EX (fun _ _ => False) (fun x j => x = C ∧ j ≠ 0) h h3 := x2.tr (show EX (fun _ _ => False) (fun x j => x = C ∧ j ≠ 0) h2 h3 by rw [e3]; exact EX.aF ⟨rfl, by decide⟩)
  obtain ⟨h4, e4⟩ : ∃ z, z = bF h3 C 4 24 20 4 4 := ⟨_, rfl⟩
  have n4 : qN h4 = C + 8 := by rw [e4]; exact (congrArg (fun z => z + 1 + 4) n3)
  have k4 : qC h4 = qC h3 + 1 + 4 ∧ qS h4 = qS h3 + 4 + 4 * 4 := by rw [e4]; exact ⟨rfl, rfl⟩
  have d4 : FD h4 C [(4, 4, 24, 4), (3, 3, 20, 4), (2, 2, 20, 4), (1, 1, 20, 4)] := by rw [e4]; exact d3.bF (Nat.le.intro n3.symm) (congrArg (fun z => z + 1) n3) (by decide)
  have x4 : EX (fun _ _ => False) (fun x j => x = C ∧ j ≠ 0) h h4 := x3.tr (show EX (fun _ _ => False) (fun x j => x = C ∧ j ≠ 0) h3 h4 by rw [e4]; exact EX.bF ⟨rfl, by decide⟩)
  have y4 : IA h4 (C + 4) (C + 5) 4 20 4 := by rw [e4]; exact IA.bF (congrArg (fun z => z + 1) n3) rfl (Nat.le.intro n3.symm)
  obtain ⟨h5, e5⟩ : ∃ z, z = aF h4 C 5 20 4 := ⟨_, rfl⟩
  have n5 : qN h5 = C + 9 := by rw [e5]; exact (congrArg (fun z => z + 1) n4)
  have k5 : qC h5 = qC h4 + 1 ∧ qS h5 = qS h4 + 4 := by rw [e5]; exact ⟨rfl, rfl⟩
  have d5 : FD h5 C [(5, 9, 20, 4), (4, 4, 24, 4), (3, 3, 20, 4), (2, 2, 20, 4), (1, 1, 20, 4)] := by rw [e5]; exact d4.aF (Nat.le.intro n4.symm) (congrArg (fun z => z + 1) n4) (by decide)
  have x5 : EX (fun _ _ => False) (fun x j => x = C ∧ j ≠ 0) h h5 := x4.tr (show EX (fun _ _ => False) (fun x j => x = C ∧ j ≠ 0) h4 h5 by rw [e5]; exact EX.aF ⟨rfl, by decide⟩)
  have y4 : IA h5 (C + 4) (C + 5) 4 20 4 := y4.ex (show EX (fun _ _ => False) (fun x j => x = C ∧ j ≠ 0) h4 h5 by rw [e5]; exact EX.aF ⟨rfl, by decide⟩) (fun j z => Nat.ne_of_gt (Nat.lt_add_of_pos_right (by decide)) z.1)
  obtain ⟨h6, e6⟩ : ∃ z, z = aF h5 C 6 20 4 := ⟨_, rfl⟩
  have n6 : qN h6 = C + 10 := by rw [e6]; exact (congrArg (fun z => z + 1) n5)
  have k6 : qC h6 = qC h5 + 1 ∧ qS h6 = qS h5 + 4 := by rw [e6]; exact ⟨rfl, rfl⟩
  have d6 : FD h6 C [(6, 10, 20, 4), (5, 9, 20, 4), (4, 4, 24, 4), (3, 3, 20, 4), (2, 2, 20, 4), (1, 1, 20, 4)] := by rw [e6]; exact d5.aF (Nat.le.intro n5.symm) (congrArg (fun z => z + 1) n5) (by decide)
  have x6 : EX (fun _ _ => False) (fun x j => x = C ∧ j ≠ 0) h h6 := x5.tr (show EX (fun _ _ => False) (fun x j => x = C ∧ j ≠ 0) h5 h6 by rw [e6]; exact EX.aF ⟨rfl, by decide⟩)
  have y4 : IA h6 (C + 4) (C + 5) 4 20 4 := y4.ex (show EX (fun _ _ => False) (fun x j => x = C ∧ j ≠ 0) h5 h6 by rw [e6]; exact EX.aF ⟨rfl, by decide⟩) (fun j z => Nat.ne_of_gt (Nat.lt_add_of_pos_right (by decide)) z.1)
  obtain ⟨h7, e7⟩ : ∃ z, z = aF h6 C 8 20 4 := ⟨_, rfl⟩
  have n7 : qN h7 = C + 11 := by rw [e7]; exact (congrArg (fun z => z + 1) n6)
  have k7 : qC h7 = qC h6 + 1 ∧ qS h7 = qS h6 + 4 := by rw [e7]; exact ⟨rfl, rfl⟩
  have d7 : FD h7 C [(8, 11, 20, 4), (6, 10, 20, 4), (5, 9, 20, 4), (4, 4, 24, 4), (3, 3, 20, 4), (2, 2, 20, 4), (1, 1, 20, 4)] := by rw [e7]; exact d6.aF (Nat.le.intro n6.symm) (congrArg (fun z => z + 1) n6) (by decide)
  have x7 : EX (fun _ _ => False) (fun x j => x = C ∧ j ≠ 0) h h7 := x6.tr (show EX (fun _ _ => False) (fun x j => x = C ∧ j ≠ 0) h6 h7 by rw [e7]; exact EX.aF ⟨rfl, by decide⟩)
  have y4 : IA h7 (C + 4) (C + 5) 4 20 4 := y4.ex (show EX (fun _ _ => False) (fun x j => x = C ∧ j ≠ 0) h6 h7 by rw [e7]; exact EX.aF ⟨rfl, by decide⟩) (fun j z => Nat.ne_of_gt (Nat.lt_add_of_pos_right (by decide)) z.1)
  have f1 := d7 (1, 1, 20, 4) (by decide)
  have f2 := d7 (2, 2, 20, 4) (by decide)
  have f3 := d7 (3, 3, 20, 4) (by decide)
  have f4 := d7 (4, 4, 24, 4) (by decide)
  have f5 := d7 (5, 9, 20, 4) (by decide)
  have f6 := d7 (6, 10, 20, 4) (by decide)
  have f8 := d7 (8, 11, 20, 4) (by decide)
  have k0 : qC h = qC h0 ∧ qS h = qS h0 := by rw [e0]; exact ⟨rfl, rfl⟩
  have cc : qC h7 = qC h0 + 11 ∧ qS h7 = qS h0 + 44 := by omega
  refine ⟨h7, ?_, n7, z0.tr (x7.mo (fun _ _ z => z) (fun x j _ z => z.1)), ⟨ct, ⟨okr_ex x7 o, (x7.2.2.2.2 C 0 (Nat.le_of_eq n0.symm) (fun z => z.2 rfl)).trans i0, f1.1, f2.1, f3.1, f4.1, f5.1, f6.1, f8.1⟩, ⟨f1.2.1, f2.2.1, f3.2.1, f4.2.1, f5.2.1, f6.2.1, f8.2.1⟩, ⟨f1.2.2, f2.2.2, f3.2.2, f4.2.2, f5.2.2, f6.2.2, f8.2.2⟩, fun g hg => y4.2 g hg⟩, cc⟩
  unfold f_X3_init
  rw [chk_pos oC, chk_pos oT, lt_is, ← e0, chk_pos (qlt (k := 0) n0 (lt9 hb) (by decide)), lt_is, lt_is, aF_is e1, chk_pos (qlt n1 (lt9 hb) (by decide)), lt_is, lt_is, aF_is e2, chk_pos (qlt n2 (lt9 hb) (by decide)), lt_is, lt_is, aF_is e3, chk_pos (qlt2 n3 (lt9 hb) (show _ + 4 < 9999 by decide)), lt_is, lt_is, bF_is e4, chk_pos (qlt n4 (lt9 hb) (by decide)), lt_is, lt_is, aF_is e5, chk_pos (qlt n5 (lt9 hb) (by decide)), lt_is, lt_is, aF_is e6, chk_pos (qlt n6 (lt9 hb) (by decide)), lt_is, lt_is, aF_is e7]
/-- a search is made -/
theorem g_init6 {h0 : Hp} {S C T : Nat} (hn : qN h0 = S) (hb : S < 700000) (hS : qT h0 S = 6) (oT : okr h0 T 7) (oC : okr h0 C 3) (ct : S = T + 160) : ∃ h2, f_X6_init h0 S T C = some (h2, .inr ()) ∧ qN h2 = S + 47 ∧ EX (fun _ _ => False) (fun x _ => x = S) h0 h2 ∧ LU h2 S C T ∧ qC h2 = qC h0 + 47 ∧ qS h2 = qS h0 + 265 := by
  obtain ⟨h, e0⟩ : ∃ z, z = putR (putR h0 S 0 T) S 1 C := ⟨_, rfl⟩
  have n0 : qN h = S := by rw [e0]; exact hn
  have oS : okr h0 S 6 := ⟨⟨by omega, Nat.le_of_eq hn.symm⟩, hS⟩
  have o : okr h S 6 := by rw [e0]; exact oS
  have z0 : EX (fun _ _ => False) (fun x _ => x = S) h0 h := by rw [e0]; exact (EX.pR (WR := fun x _ => x = S) rfl).tr (EX.pR rfl)
  have i0 : qR h S 0 = T ∧ qR h S 1 = C := by
    rw [e0, qR_pR, if_neg (by omega), qR_pR, if_pos ⟨rfl, rfl⟩, qR_pR, if_pos ⟨rfl, rfl⟩]
    exact ⟨rfl, rfl⟩
  obtain ⟨h1, e1⟩ : ∃ z, z = aF h S 2 20 37 := ⟨_, rfl⟩
  have n1 : qN h1 = S + 1 := by rw [e1]; exact (congrArg (fun z => z + 1) n0)
  have k1 : qC h1 = qC h + 1 ∧ qS h1 = qS h + 37 := by rw [e1]; exact ⟨rfl, rfl⟩
  have d1 : FD h1 S [(2, 1, 20, 37)] := by rw [e1]; exact FD.nil.aF (Nat.le_of_eq n0.symm) (congrArg (fun z => z + 1) n0) (by decide)
  have x1 : EX (fun _ _ => False) (fun x j => x = S ∧ j ≠ 0 ∧ j ≠ 1) h h1 := (show EX (fun _ _ => False) (fun x j => x = S ∧ j ≠ 0 ∧ j ≠ 1) h h1 by rw [e1]; exact EX.aF ⟨rfl, by decide⟩)
  obtain ⟨h2, e2⟩ : ∃ z, z = bF h1 S 3 24 20 37 4 := ⟨_, rfl⟩
  have n2 : qN h2 = S + 39 := by rw [e2]; exact (congrArg (fun z => z + 1 + 37) n1)
  have k2 : qC h2 = qC h1 + 1 + 37 ∧ qS h2 = qS h1 + 37 + 37 * 4 := by rw [e2]; exact ⟨rfl, rfl⟩
  have d2 : FD h2 S [(3, 2, 24, 37), (2, 1, 20, 37)] := by rw [e2]; exact d1.bF (Nat.le.intro n1.symm) (congrArg (fun z => z + 1) n1) (by decide)
  have x2 : EX (fun _ _ => False) (fun x j => x = S ∧ j ≠ 0 ∧ j ≠ 1) h h2 := x1.tr (show EX (fun _ _ => False) (fun x j => x = S ∧ j ≠ 0 ∧ j ≠ 1) h1 h2 by rw [e2]; exact EX.bF ⟨rfl, by decide⟩)
  have y2 : IA h2 (S + 2) (S + 3) 37 20 4 := by rw [e2]; exact IA.bF (congrArg (fun z => z + 1) n1) rfl (Nat.le.intro n1.symm)
  obtain ⟨h3, e3⟩ : ∃ z, z = aF h2 S 4 20 4 := ⟨_, rfl⟩
  have n3 : qN h3 = S + 40 := by rw [e3]; exact (congrArg (fun z => z + 1) n2)
  have k3 : qC h3 = qC h2 + 1 ∧ qS h3 = qS h2 + 4 := by rw [e3]; exact ⟨rfl, rfl⟩
  have d3 : FD h3 S [(4, 40, 20, 4), (3, 2, 24, 37), (2, 1, 20, 37)] := by rw [e3]; exact d2.aF (Nat.le.intro n2.symm) (congrArg (fun z => z + 1) n2) (by decide)
  have x3 : EX (fun _ _ => False) (fun x j => x = S ∧ j ≠ 0 ∧ j ≠ 1) h h3 := x2.tr (show EX (fun _ _ => False) (fun x j => x = S ∧ j ≠ 0 ∧ j ≠ 1) h2 h3 by rw [e3]; exact EX.aF ⟨rfl, by decide⟩)
  have y2 : IA h3 (S + 2) (S + 3) 37 20 4 := y2.ex (show EX (fun _ _ => False) (fun x j => x = S ∧ j ≠ 0 ∧ j ≠ 1) h2 h3 by rw [e3]; exact EX.aF ⟨rfl, by decide⟩) (fun j z => Nat.ne_of_gt (Nat.lt_add_of_pos_right (by decide)) z.1)
  obtain ⟨h4, e4⟩ : ∃ z, z = bF h3 S 7 24 20 5 6 := ⟨_, rfl⟩
  have n4 : qN h4 = S + 46 := by rw [e4]; exact (congrArg (fun z => z + 1 + 5) n3)
  have k4 : qC h4 = qC h3 + 1 + 5 ∧ qS h4 = qS h3 + 5 + 5 * 6 := by rw [e4]; exact ⟨rfl, rfl⟩
  have d4 : FD h4 S [(7, 41, 24, 5), (4, 40, 20, 4), (3, 2, 24, 37), (2, 1, 20, 37)] := by rw [e4]; exact d3.bF (Nat.le.intro n3.symm) (congrArg (fun z => z + 1) n3) (by decide)
  have x4 : EX (fun _ _ => False) (fun x j => x = S ∧ j ≠ 0 ∧ j ≠ 1) h h4 := x3.tr (show EX (fun _ _ => False) (fun x j => x = S ∧ j ≠ 0 ∧ j ≠ 1) h3 h4 by rw [e4]; exact EX.bF ⟨rfl, by decide⟩)
  have y2 : IA h4 (S + 2) (S + 3) 37 20 4 := y2.ex (show EX (fun _ _ => False) (fun x j => x = S ∧ j ≠ 0 ∧ j ≠ 1) h3 h4 by rw [e4]; exact EX.bF ⟨rfl, by decide⟩) (fun j z => Nat.ne_of_gt (Nat.lt_add_of_pos_right (by decide)) z.1)
  have y4 : IA h4 (S + 41) (S + 42) 5 20 6 := by rw [e4]; exact IA.bF (congrArg (fun z => z + 1) n3) rfl (Nat.le.intro n3.symm)
  obtain ⟨h5, e5⟩ : ∃ z, z = aF h4 S 8 20 4 := ⟨_, rfl⟩
  have n5 : qN h5 = S + 47 := by rw [e5]; exact (congrArg (fun z => z + 1) n4)
  have k5 : qC h5 = qC h4 + 1 ∧ qS h5 = qS h4 + 4 := by rw [e5]; exact ⟨rfl, rfl⟩
  have d5 : FD h5 S [(8, 47, 20, 4), (7, 41, 24, 5), (4, 40, 20, 4), (3, 2, 24, 37), (2, 1, 20, 37)] := by rw [e5]; exact d4.aF (Nat.le.intro n4.symm) (congrArg (fun z => z + 1) n4) (by decide)
  have x5 : EX (fun _ _ => False) (fun x j => x = S ∧ j ≠ 0 ∧ j ≠ 1) h h5 := x4.tr (show EX (fun _ _ => False) (fun x j => x = S ∧ j ≠ 0 ∧ j ≠ 1) h4 h5 by rw [e5]; exact EX.aF ⟨rfl, by decide⟩)
  have y2 : IA h5 (S + 2) (S + 3) 37 20 4 := y2.ex (show EX (fun _ _ => False) (fun x j => x = S ∧ j ≠ 0 ∧ j ≠ 1) h4 h5 by rw [e5]; exact EX.aF ⟨rfl, by decide⟩) (fun j z => Nat.ne_of_gt (Nat.lt_add_of_pos_right (by decide)) z.1)
  have y4 : IA h5 (S + 41) (S + 42) 5 20 6 := y4.ex (show EX (fun _ _ => False) (fun x j => x = S ∧ j ≠ 0 ∧ j ≠ 1) h4 h5 by rw [e5]; exact EX.aF ⟨rfl, by decide⟩) (fun j z => Nat.ne_of_gt (Nat.lt_add_of_pos_right (by decide)) z.1)
  have f2 := d5 (2, 1, 20, 37) (by decide)
  have f3 := d5 (3, 2, 24, 37) (by decide)
  have f4 := d5 (4, 40, 20, 4) (by decide)
  have f7 := d5 (7, 41, 24, 5) (by decide)
  have f8 := d5 (8, 47, 20, 4) (by decide)
  have k0 : qC h = qC h0 ∧ qS h = qS h0 := by rw [e0]; exact ⟨rfl, rfl⟩
  have cc : qC h5 = qC h0 + 47 ∧ qS h5 = qS h0 + 265 := by omega
  refine ⟨h5, ?_, n5, z0.tr (x5.mo (fun _ _ z => z) (fun x j _ z => z.1)), ⟨ct, ⟨okr_ex x5 o, (x5.2.2.2.2 S 0 (Nat.le_of_eq n0.symm) (fun z => z.2.1 rfl)).trans i0.1, (x5.2.2.2.2 S 1 (Nat.le_of_eq n0.symm) (fun z => z.2.2 rfl)).trans i0.2, f2.1, f3.1, f4.1, f7.1, f8.1⟩, ⟨f2.2.1, f3.2.1, f4.2.1, f7.2.1, f8.2.1⟩, ⟨f2.2.2, f3.2.2, f4.2.2, f7.2.2, f8.2.2⟩, fun g hg => y2.2 g hg, fun g hg => y4.2 g hg⟩, cc⟩
  unfold f_X6_init
  rw [chk_pos oS, chk_pos oT, lt_is, chk_pos (show okr (putR h0 S 0 T) C 3 from oC), lt_is, ← e0, chk_pos (qlt (k := 0) n0 (lt9 hb) (by decide)), lt_is, lt_is, aF_is e1, chk_pos (qlt2 n1 (lt9 hb) (show _ + 37 < 9999 by decide)), lt_is, lt_is, bF_is e2, chk_pos (qlt n2 (lt9 hb) (by decide)), lt_is, lt_is, aF_is e3, chk_pos (qlt2 n3 (lt9 hb) (show _ + 5 < 9999 by decide)), lt_is, lt_is, bF_is e4, chk_pos (qlt n4 (lt9 hb) (by decide)), lt_is, lt_is, aF_is e5]
/-- a script's reader is made -/
def LX (h : Hp) (a : Nat) : Prop := okr h a 5 ∧ qR h a 0 = a + 1 ∧ qR h a 7 = a + 2 ∧ okr h (a + 1) 23 ∧ qW h (a + 1) = 60 ∧ LC h (a + 2)
theorem LX.ex {WI WR : Nat → Nat → Prop} {h h' : Hp} {a : Nat} (l : LX h a) (e : EX WI WR h h') (hw : ∀ x j, a ≤ x → x ≤ a + 2 → ¬ WR x j) : LX h' a := ⟨okr_ex e l.1, (e.2.2.2.2 a 0 l.1.1.2 (hw a 0 (by omega) (by omega))).trans l.2.1, (e.2.2.2.2 a 7 l.1.1.2 (hw a 7 (by omega) (by omega))).trans l.2.2.1, okr_ex e l.2.2.2.1, (e.2.1 _ l.2.2.2.1.1.2).2.trans l.2.2.2.2.1, l.2.2.2.2.2.ex e (fun j => hw _ j (by omega) (by omega))⟩
theorem g_init5 {h : Hp} {a : Nat} (hn : qN h = a) (ha : 1 ≤ a) (hb : a < 700000) (hT : qT h a = 5) : ∃ h2, f_X5_init h a = some (h2, .inr ()) ∧ qN h2 = a + 9 ∧ EX (fun x j => x = a ∧ j = 4) (fun x _ => x = a) h h2 ∧ LX h2 a ∧ qI h2 a 4 = iN (-1) ∧ qC h2 = qC h + 9 ∧ qS h2 = qS h + 182 := by
  have oA : okr h a 5 := ⟨⟨ha, Nat.le_of_eq hn.symm⟩, hT⟩
  obtain ⟨h1, e1⟩ : ∃ z, z = aF h a 0 23 60 := ⟨_, rfl⟩
  have n1 : qN h1 = a + 1 := by rw [e1]; show qN h + 1 = _; omega
  have d1 : FD h1 a [(0, 1, 23, 60)] := by rw [e1]; exact FD.nil.aF (by omega) (by omega) (by decide)
  have x1 : EX (fun x j => x = a ∧ j = 4) (fun x _ => x = a) h h1 := by rw [e1]; exact EX.aF rfl
  obtain ⟨h2, e2⟩ : ∃ z, z = putI h1 a 4 (iN (-1)) := ⟨_, rfl⟩
  have n2 : qN h2 = a + 1 := by rw [e2]; exact n1
  have d2 : FD h2 a [(0, 1, 23, 60)] := by rw [e2]; exact d1
  have x2 : EX (fun x j => x = a ∧ j = 4) (fun x _ => x = a) h h2 := by rw [e2]; exact x1.tr (EX.pI ⟨rfl, rfl⟩)
  have i2 : qI h2 a 4 = iN (-1) := by rw [e2, rd_eq]
  obtain ⟨h3, e3, n3, x3, l3, c3, s3⟩ := g_init4 (h := newO h2 4 0 13) (a := a + 2) (by show qN h2 + 1 = _; omega) (by omega) (by omega) (by show (if a + 2 = qN h2 + 1 then 4 else qT h2 (a + 2)) = 4; rw [if_pos (by omega)])
  have x4 : EX (fun _ _ => False) (fun x _ => x = a + 2) h2 h3 := EX.nO.tr x3
  have x5 : EX (fun _ _ => False) (fun x j => x = a ∧ j = 7) h2 h3 := x4.mo (fun _ _ z => z) (fun x j z1 z2 => by omega)
  have p : EX (fun _ _ => False) (fun x j => x = a ∧ j = 7) h3 (putR h3 a 7 (a + 2)) := EX.pR ⟨rfl, rfl⟩
  have x6 := x5.tr p
  have o2 := okr_ex x2 oA
  have f0 := d2 (0, 1, 23, 60) (by decide)
  refine ⟨putR h3 a 7 (a + 2), ?_, n3, x2.tr (x6.mo (fun _ _ z => z.elim) (fun _ _ _ z => z.1)), ⟨okr_ex x6 o2, (x6.2.2.2.2 a 0 o2.1.2 (fun z => by omega)).trans f0.1, if_pos ⟨rfl, rfl⟩, okr_ex x6 f0.2.1, (x6.2.1 _ f0.2.1.1.2).2.trans f0.2.2, l3.ex p (fun j z => by omega)⟩, (x6.2.2.1 a 4 o2.1.2 id).trans i2, ?_, ?_⟩
  · unfold f_X5_init
    rw [chk_pos (show qN h + 1 < 1000000 by omega), lt_is, chk_pos (okr_ex (EX.nO (WI := fun _ _ => False) (WR := fun _ _ => False)) oA), lt_is, aF_is e1, lt_is, ← e2, chk_pos (show qN h2 + 1 < 1000000 by omega), lt_is, show qN h2 + 1 = a + 2 by omega, e3, bnd_ret, chk_pos (okr_ex x5 o2), chk_pos l3.1, lt_is]
  · show qC h3 = _
    rw [c3]
    show qC h2 + 1 + 7 = _
    rw [e2, e1]
    rfl
  · show qS h3 = _
    rw [s3]
    show qS h2 + 13 + 109 = _
    rw [e2, e1]
    rfl
/-- a clip is made -/
theorem g_init2L {a : Nat} (ha1 : 1 ≤ a) (ha2 : a < 700000) : ∀ (d k n : Nat) (h : Hp), k + d = 3 → d < n → qN h = a + 2 + 8 * k → okr h a 2 → qR h a 4 = a + 2 → okr h (a + 2) 27 → qW h (a + 2) = 3 → (∀ i, i < k → qR h (a + 2) i = a + 3 + 8 * i ∧ LC h (a + 3 + 8 * i)) →
    ∃ h2, f_X2_init_L21 n h a (iN k) = some (h2, .inr ()) ∧ qN h2 = a + 26 ∧ EX (fun _ _ => False) (fun x _ => x = a + 2) h h2 ∧ (∀ i, i < 3 → qR h2 (a + 2) i = a + 3 + 8 * i ∧ LC h2 (a + 3 + 8 * i)) ∧ qC h2 = qC h + 8 * d ∧ qS h2 = qS h + 122 * d := by
  intro d
  induction d with
  | zero =>
    intro k n h hk hn hN o1 o2 o3 o4 hc
    obtain ⟨n, rfl⟩ : ∃ z, n = z + 1 := ⟨n - 1, by omega⟩
    refine ⟨h, ?_, by omega, EX.rf, fun i hi => hc i (by omega), rfl, rfl⟩
    show f_X2_init_B21 (f_X2_init_L21 n) h a (iN k) = _
    unfold f_X2_init_B21
    rw [if_pos (yleN (by omega) (by omega) (by omega))]
  | succ d ih =>
    intro k n h hk hn hN o1 o2 o3 o4 hc
    obtain ⟨n, rfl⟩ : ∃ z, n = z + 1 := ⟨n - 1, by omega⟩
    have hN1 : qN h + 1 = a + 3 + 8 * k := by omega
    obtain ⟨h3, e3, n3, x3, l3, c3, s3⟩ := g_init4 (h := newO h 4 0 13) (a := a + 3 + 8 * k) hN1 (by omega) (by omega) (by show (if a + 3 + 8 * k = qN h + 1 then 4 else qT h (a + 3 + 8 * k)) = 4; rw [if_pos (by omega)])
    have x4 : EX (fun _ _ => False) (fun x _ => x = a + 3 + 8 * k) h h3 := EX.nO.tr x3
    have x5 : EX (fun _ _ => False) (fun x _ => x = a + 2) h h3 := x4.mo (fun _ _ z => z) (fun x j z1 z2 => by omega)
    have x6 : EX (fun _ _ => False) (fun x j => x = a + 2 ∧ j = k) h h3 := x4.mo (fun _ _ z => z) (fun x j z1 z2 => by omega)
    have p : EX (fun _ _ => False) (fun x j => x = a + 2 ∧ j = k) h3 (putR h3 (a + 2) k (a + 3 + 8 * k)) := EX.pR ⟨rfl, rfl⟩
    have x7 := x6.tr p
    obtain ⟨h9, e9, n9, x9, l9, c9, s9⟩ := ih (k + 1) n (putR h3 (a + 2) k (a + 3 + 8 * k)) (by omega) (by omega) (n3.trans (by omega)) (okr_ex x7 o1) ((x7.2.2.2.2 a 4 o1.1.2 (fun z => by omega)).trans o2) (okr_ex x7 o3) ((x7.2.1 _ o3.1.2).2.trans o4) (fun i hi => by
      by_cases q : i = k
      · subst q
        exact ⟨if_pos ⟨rfl, rfl⟩, l3.ex p (fun j z3 => by omega)⟩
      · obtain ⟨h1, h2⟩ := hc i (by omega)
        exact ⟨(x7.2.2.2.2 (a + 2) i o3.1.2 (fun z => by omega)).trans h1, h2.ex x7 (fun j z3 => by omega)⟩)
    refine ⟨h9, ?_, n9, (x5.tr (EX.pR rfl)).tr x9, l9, ?_, ?_⟩
    · show f_X2_init_B21 (f_X2_init_L21 n) h a (iN k) = _
      unfold f_X2_init_B21
      rw [if_neg (nleN (by omega) (by omega) (by omega)), chk_pos o1, o2, chk_pos o3, hN1, chk_pos (by omega), lt_is, e3, bnd_ret, chk_pos (okr_ex x5 o3), (x5.2.1 _ o3.1.2).2.trans o4, ck_in (by omega) (by omega) (by omega), chk_pos l3.1, lt_is, iN_clN (by omega), iN_add]
      exact e9
    · rw [c9]
      show qC h3 + 8 * d = _
      rw [c3]
      show qC h + 1 + 7 + 8 * d = _
      omega
    · rw [s9]
      show qS h3 + 122 * d = _
      rw [s3]
      show qS h + 13 + 109 + 122 * d = _
      omega
def Lcp (h : Hp) (a : Nat) : Prop := okr h a 2 ∧ qR h a 3 = a + 1 ∧ qR h a 4 = a + 2 ∧ okr h (a + 1) 22 ∧ qW h (a + 1) = 3 ∧ okr h (a + 2) 27 ∧ qW h (a + 2) = 3 ∧ ∀ p : Nat, p < 3 → qR h (a + 2) p = a + 3 + 8 * p ∧ LC h (a + 3 + 8 * p)
theorem Lcp.ex {WI WR : Nat → Nat → Prop} {h h' : Hp} {a : Nat} (l : Lcp h a) (e : EX WI WR h h') (hw : ∀ x j, a ≤ x → x ≤ a + 26 → ¬ WR x j) : Lcp h' a := by
  obtain ⟨o, r3, r4, o1, w1, o2, w2, q⟩ := l
  exact ⟨okr_ex e o, (e.2.2.2.2 a 3 o.1.2 (hw a 3 (by omega) (by omega))).trans r3, (e.2.2.2.2 a 4 o.1.2 (hw a 4 (by omega) (by omega))).trans r4, okr_ex e o1, (e.2.1 _ o1.1.2).2.trans w1, okr_ex e o2, (e.2.1 _ o2.1.2).2.trans w2, fun p hp => ⟨(e.2.2.2.2 _ p o2.1.2 (hw _ p (by omega) (by omega))).trans (q p hp).1, (q p hp).2.ex e (fun j => hw _ j (by omega) (by omega))⟩⟩
theorem g_init2 {h : Hp} {a : Nat} (hn : qN h = a) (ha : 1 ≤ a) (hb : a < 700000) (hT : qT h a = 2) : ∃ h2, f_X2_init h a = some (h2, .inr ()) ∧ qN h2 = a + 26 ∧ EX (fun _ _ => False) (fun x _ => x = a) h h2 ∧ Lcp h2 a ∧ qC h2 = qC h + 26 ∧ qS h2 = qS h + 372 := by
  have o : okr h a 2 := ⟨⟨ha, Nat.le_of_eq hn.symm⟩, hT⟩
  obtain ⟨h1, e1⟩ : ∃ z, z = aF h a 3 22 3 := ⟨_, rfl⟩
  have n1 : qN h1 = a + 1 := by rw [e1]; exact (congrArg (fun z => z + 1) hn)
  have k1 : qC h1 = qC h + 1 ∧ qS h1 = qS h + 3 := by rw [e1]; exact ⟨rfl, rfl⟩
  have d1 : FD h1 a [(3, 1, 22, 3)] := by rw [e1]; exact FD.nil.aF (Nat.le_of_eq hn.symm) (congrArg (fun z => z + 1) hn) (by decide)
  have x1 : EX (fun _ _ => False) (fun x _ => x = a) h h1 := (show EX (fun _ _ => False) (fun x _ => x = a) h h1 by rw [e1]; exact EX.aF rfl)
  obtain ⟨h2, e2⟩ : ∃ z, z = aF h1 a 4 27 3 := ⟨_, rfl⟩
  have n2 : qN h2 = a + 2 := by rw [e2]; exact (congrArg (fun z => z + 1) n1)
  have k2 : qC h2 = qC h1 + 1 ∧ qS h2 = qS h1 + 3 := by rw [e2]; exact ⟨rfl, rfl⟩
  have d2 : FD h2 a [(4, 2, 27, 3), (3, 1, 22, 3)] := by rw [e2]; exact d1.aF (Nat.le.intro n1.symm) (congrArg (fun z => z + 1) n1) (by decide)
  have x2 : EX (fun _ _ => False) (fun x _ => x = a) h h2 := x1.tr (show EX (fun _ _ => False) (fun x _ => x = a) h1 h2 by rw [e2]; exact EX.aF rfl)
  have f3 := d2 (3, 1, 22, 3) (by decide)
  have f4 := d2 (4, 2, 27, 3) (by decide)
  have o2 := okr_ex x2 o
  have cc : qC h2 = qC h + 2 ∧ qS h2 = qS h + 6 := by rw [e2, e1]; exact ⟨rfl, rfl⟩
  obtain ⟨h9, e9, n9, x9, l9, c9, s9⟩ := g_init2L ha hb 3 0 2000 h2 (by omega) (by omega) (by omega) o2 f4.1 f4.2.1 f4.2.2 (fun i hi => by omega)
  have xa : EX (fun _ _ => False) (fun x _ => x = a ∨ x = a + 2) h h9 := (x2.mo (fun _ _ z => z) (fun x j _ z => Or.inl z)).tr (x9.mo (fun _ _ z => z) (fun x j _ z => Or.inr z))
  have rr : ∀ j, qR h9 a j = qR h2 a j := fun j => x9.2.2.2.2 a j o2.1.2 (fun z => by omega)
  refine ⟨h9, ?_, n9, xa.mo (fun _ _ z => z) (fun x j z1 z2 => by omega), ⟨okr_ex x9 o2, (rr 3).trans f3.1, (rr 4).trans f4.1, okr_ex x9 f3.2.1, (x9.2.1 _ f3.2.1.1.2).2.trans f3.2.2, okr_ex x9 f4.2.1, (x9.2.1 _ f4.2.1.1.2).2.trans f4.2.2, l9⟩, by rw [c9, cc.1], by rw [s9, cc.2]⟩
  unfold f_X2_init
  rw [chk_pos (show qN h + 1 < 1000000 by omega), lt_is, chk_pos (okr_ex (EX.nO (WI := fun _ _ => False) (WR := fun _ _ => False)) o), lt_is, aF_is e1, chk_pos (show qN h1 + 1 < 1000000 by omega), lt_is, lt_is, aF_is e2]
  exact e9
