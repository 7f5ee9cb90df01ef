/-! ===== STAGE B: the reference is made ===== -/
/-- a new array of two ints, both v, its address in field k of a -/
def cF (h : Hp) (a k : Nat) (v : Int32) : Hp := putI (putI (aF h a k 20 2) (qN h + 1) 0 v) (qN h + 1) 1 v
theorem cF_is {h h1 : Hp} {a k : Nat} {v : Int32} (e : h1 = cF h a k v) {β : Type} {K : Hp → Option (Rs β)} : (lt (newO h 20 2 2) fun h16 => chk (vp_in (iN 0) (qW h16 (qN h + 1))) <| lt (putI h16 (qN h + 1) (Int32.toNatClampNeg (iN 0)) v) fun h18 => chk (vp_in (iN 1) (qW h18 (qN h + 1))) <| lt (putI h18 (qN h + 1) (Int32.toNatClampNeg (iN 1)) v) fun h20 => lt (putR h20 a k (qN h + 1)) K) = K h1 := by
  have w0 : qW (newO h 20 2 2) (qN h + 1) = 2 := if_pos rfl
  have v0 : vp_in (iN 0) (qW (newO h 20 2 2) (qN h + 1)) := by rw [w0]; exact vp_inN (by omega) (by omega) (by omega)
  have v1 : vp_in (iN 1) (qW (putI (newO h 20 2 2) (qN h + 1) (Int32.toNatClampNeg (iN 0)) v) (qN h + 1)) := by rw [qW_pI, w0]; exact vp_inN (by omega) (by omega) (by omega)
  have t0 : (iN 0).toNatClampNeg = 0 := by rw [iN_cl (by omega) (by omega)]; rfl
  have t1 : (iN 1).toNatClampNeg = 1 := by rw [iN_cl (by omega) (by omega)]; rfl
  rw [lt_is, chk_pos v0, lt_is, chk_pos v1, lt_is, lt_is, t0, t1, e]
  rfl
theorem EX.cF {WI WR : Nat → Nat → Prop} {h : Hp} {a k : Nat} {v : Int32} (q : WR a k) (q0 : WI (qN h + 1) 0) (q1 : WI (qN h + 1) 1) : EX WI WR h (cF h a k v) := (EX.aF q).tr ((EX.pI q0).tr (EX.pI q1))
theorem FD.cF {h : Hp} {a k z : Nat} {v : Int32} {L : List (Nat × Nat × Nat × Nat)} (d : FD h a L) (ha : a ≤ qN h) (hd : qN h + 1 = a + z) (hk : ∀ f ∈ L, f.1 ≠ k) : FD (cF h a k v) a ((k, z, 20, 2) :: L) := d.aF ha hd hk
theorem cF_i {h : Hp} {a k : Nat} {v : Int32} : qI (cF h a k v) (qN h + 1) 0 = v ∧ qI (cF h a k v) (qN h + 1) 1 = v := by
  unfold cF
  rw [qI_pI, if_neg (by omega), rd_eq, rd_eq]
  exact ⟨rfl, rfl⟩
/-- the reference is made -/
theorem g_init9 {h : Hp} {M : Nat} (hn : qN h = M) (ha : 1 ≤ M) (hb : M < 700000) (hT : qT h M = 9) : ∃ h2, f_X9_init h M = some (h2, .inr ()) ∧ qN h2 = M + 23 ∧ EX (fun x j => (x = M ∧ j = 7) ∨ (x = M + 1 ∧ j ≤ 2) ∨ x = M + 5 ∨ x = M + 6) (fun x _ => x = M) h h2 ∧ LM h2 M ∧ qI h2 M 7 = iN (-1) ∧ (qI h2 (M + 5) 0 = iN (-1) ∧ qI h2 (M + 5) 1 = iN (-1)) ∧ (qI h2 (M + 6) 0 = iN 0 ∧ qI h2 (M + 6) 1 = iN 0) ∧ (qI h2 (M + 1) 0 = iN 3 ∧ qI h2 (M + 1) 1 = iN 30 ∧ qI h2 (M + 1) 2 = iN 1) ∧ qC h2 = qC h + 23 ∧ qS h2 = qS h + 3468 := by
  have oM : okr h M 9 := ⟨⟨ha, Nat.le_of_eq hn.symm⟩, hT⟩
  obtain ⟨h1, e1⟩ : ∃ z, z = aF h M 1 20 506 := ⟨_, rfl⟩
  have n1 : qN h1 = M + 1 := by rw [e1]; exact (congrArg (fun z => z + 1) hn)
  have d1 : FD h1 M [(1, 1, 20, 506)] := by rw [e1]; exact FD.nil.aF (Nat.le_of_eq hn.symm) (congrArg (fun z => z + 1) hn) (by decide)
  have x1 : EX (fun _ _ => False) (fun x _ => x = M) h h1 := (show EX (fun _ _ => False) (fun x _ => x = M) h h1 by rw [e1]; exact EX.aF rfl)
  obtain ⟨h2, e2⟩ : ∃ z, z = aF h1 M 2 20 506 := ⟨_, rfl⟩
  have n2 : qN h2 = M + 2 := by rw [e2]; exact (congrArg (fun z => z + 1) n1)
  have d2 : FD h2 M [(2, 2, 20, 506), (1, 1, 20, 506)] := by rw [e2]; exact d1.aF (Nat.le.intro n1.symm) (congrArg (fun z => z + 1) n1) (by decide)
  have x2 : EX (fun _ _ => False) (fun x _ => x = M) h h2 := x1.tr (show EX (fun _ _ => False) (fun x _ => x = M) h1 h2 by rw [e2]; exact EX.aF rfl)
  obtain ⟨h3, e3⟩ : ∃ z, z = aF h2 M 3 20 506 := ⟨_, rfl⟩
  have n3 : qN h3 = M + 3 := by rw [e3]; exact (congrArg (fun z => z + 1) n2)
  have d3 : FD h3 M [(3, 3, 20, 506), (2, 2, 20, 506), (1, 1, 20, 506)] := by rw [e3]; exact d2.aF (Nat.le.intro n2.symm) (congrArg (fun z => z + 1) n2) (by decide)
  have x3 : EX (fun _ _ => False) (fun x _ => x = M) h h3 := x2.tr (show EX (fun _ _ => False) (fun x _ => x = M) h2 h3 by rw [e3]; exact EX.aF rfl)
  obtain ⟨h4, e4⟩ : ∃ z, z = aF h3 M 5 20 60 := ⟨_, rfl⟩
  have n4 : qN h4 = M + 4 := by rw [e4]; exact (congrArg (fun z => z + 1) n3)
  have d4 : FD h4 M [(5, 4, 20, 60), (3, 3, 20, 506), (2, 2, 20, 506), (1, 1, 20, 506)] := by rw [e4]; exact d3.aF (Nat.le.intro n3.symm) (congrArg (fun z => z + 1) n3) (by decide)
  have x4 : EX (fun _ _ => False) (fun x _ => x = M) h h4 := x3.tr (show EX (fun _ _ => False) (fun x _ => x = M) h3 h4 by rw [e4]; exact EX.aF rfl)
  obtain ⟨g1, eg1⟩ : ∃ z, z = putI h4 M 7 (iN (-1)) := ⟨_, rfl⟩
  have ng1 : qN g1 = M + 4 := by rw [eg1]; exact n4
  have dg1 : FD g1 M [(5, 4, 20, 60), (3, 3, 20, 506), (2, 2, 20, 506), (1, 1, 20, 506)] := by rw [eg1]; exact d4
  have xA : EX (fun x j => (x = M ∧ j = 7) ∨ (x = M + 1 ∧ j ≤ 2) ∨ x = M + 5 ∨ x = M + 6) (fun x _ => x = M) h g1 := (x4.mo (fun _ _ z => z.elim) (fun _ _ _ z => z)).tr (by rw [eg1]; exact EX.pI (Or.inl ⟨rfl, rfl⟩))
  have iA : qI g1 M 7 = iN (-1) := by rw [eg1, rd_eq]
  obtain ⟨g2, eg2⟩ : ∃ z, z = cF g1 M 8 (iN (-1)) := ⟨_, rfl⟩
  have ng2 : qN g2 = M + 5 := by rw [eg2]; exact congrArg (fun z => z + 1) ng1
  have dg2 : FD g2 M [(8, 5, 20, 2), (5, 4, 20, 60), (3, 3, 20, 506), (2, 2, 20, 506), (1, 1, 20, 506)] := by rw [eg2]; exact dg1.cF (Nat.le.intro ng1.symm) (congrArg (fun z => z + 1) ng1) (by decide)
  have xB : EX (fun x _ => x = M + 5) (fun x _ => x = M) g1 g2 := by rw [eg2]; exact EX.cF rfl (congrArg (fun z => z + 1) ng1) (congrArg (fun z => z + 1) ng1)
  have iB : qI g2 (M + 5) 0 = iN (-1) ∧ qI g2 (M + 5) 1 = iN (-1) := by rw [eg2, show M + 5 = qN g1 + 1 from (congrArg (fun z => z + 1) ng1).symm]; exact cF_i
  obtain ⟨g3, eg3⟩ : ∃ z, z = cF g2 M 9 (iN 0) := ⟨_, rfl⟩
  have ng3 : qN g3 = M + 6 := by rw [eg3]; exact congrArg (fun z => z + 1) ng2
  have dg3 : FD g3 M [(9, 6, 20, 2), (8, 5, 20, 2), (5, 4, 20, 60), (3, 3, 20, 506), (2, 2, 20, 506), (1, 1, 20, 506)] := by rw [eg3]; exact dg2.cF (Nat.le.intro ng2.symm) (congrArg (fun z => z + 1) ng2) (by decide)
  have xC : EX (fun x _ => x = M + 6) (fun x _ => x = M) g2 g3 := by rw [eg3]; exact EX.cF rfl (congrArg (fun z => z + 1) ng2) (congrArg (fun z => z + 1) ng2)
  have iC : qI g3 (M + 6) 0 = iN 0 ∧ qI g3 (M + 6) 1 = iN 0 := by rw [eg3, show M + 6 = qN g2 + 1 from (congrArg (fun z => z + 1) ng2).symm]; exact cF_i
  obtain ⟨h7, e7⟩ : ∃ z, z = aF g3 M 10 20 186 := ⟨_, rfl⟩
  have n7 : qN h7 = M + 7 := by rw [e7]; exact (congrArg (fun z => z + 1) ng3)
  have d7 : FD h7 M [(10, 7, 20, 186), (9, 6, 20, 2), (8, 5, 20, 2), (5, 4, 20, 60), (3, 3, 20, 506), (2, 2, 20, 506), (1, 1, 20, 506)] := by rw [e7]; exact dg3.aF (Nat.le.intro ng3.symm) (congrArg (fun z => z + 1) ng3) (by decide)
  have x7 : EX (fun _ _ => False) (fun x _ => x = M) g3 h7 := (show EX (fun _ _ => False) (fun x _ => x = M) g3 h7 by rw [e7]; exact EX.aF rfl)
  obtain ⟨h8, e8⟩ : ∃ z, z = aF h7 M 11 22 6 := ⟨_, rfl⟩
  have n8 : qN h8 = M + 8 := by rw [e8]; exact (congrArg (fun z => z + 1) n7)
  have d8 : FD h8 M [(11, 8, 22, 6), (10, 7, 20, 186), (9, 6, 20, 2), (8, 5, 20, 2), (5, 4, 20, 60), (3, 3, 20, 506), (2, 2, 20, 506), (1, 1, 20, 506)] := by rw [e8]; exact d7.aF (Nat.le.intro n7.symm) (congrArg (fun z => z + 1) n7) (by decide)
  have x8 : EX (fun _ _ => False) (fun x _ => x = M) g3 h8 := x7.tr (show EX (fun _ _ => False) (fun x _ => x = M) h7 h8 by rw [e8]; exact EX.aF rfl)
  obtain ⟨h9, e9⟩ : ∃ z, z = aF h8 M 16 20 12 := ⟨_, rfl⟩
  have n9 : qN h9 = M + 9 := by rw [e9]; exact (congrArg (fun z => z + 1) n8)
  have d9 : FD h9 M [(16, 9, 20, 12), (11, 8, 22, 6), (10, 7, 20, 186), (9, 6, 20, 2), (8, 5, 20, 2), (5, 4, 20, 60), (3, 3, 20, 506), (2, 2, 20, 506), (1, 1, 20, 506)] := by rw [e9]; exact d8.aF (Nat.le.intro n8.symm) (congrArg (fun z => z + 1) n8) (by decide)
  have x9 : EX (fun _ _ => False) (fun x _ => x = M) g3 h9 := x8.tr (show EX (fun _ _ => False) (fun x _ => x = M) h8 h9 by rw [e9]; exact EX.aF rfl)
  obtain ⟨h10, e10⟩ : ∃ z, z = aF h9 M 17 20 12 := ⟨_, rfl⟩
  have n10 : qN h10 = M + 10 := by rw [e10]; exact (congrArg (fun z => z + 1) n9)
  have d10 : FD h10 M [(17, 10, 20, 12), (16, 9, 20, 12), (11, 8, 22, 6), (10, 7, 20, 186), (9, 6, 20, 2), (8, 5, 20, 2), (5, 4, 20, 60), (3, 3, 20, 506), (2, 2, 20, 506), (1, 1, 20, 506)] := by rw [e10]; exact d9.aF (Nat.le.intro n9.symm) (congrArg (fun z => z + 1) n9) (by decide)
  have x10 : EX (fun _ _ => False) (fun x _ => x = M) g3 h10 := x9.tr (show EX (fun _ _ => False) (fun x _ => x = M) h9 h10 by rw [e10]; exact EX.aF rfl)
  obtain ⟨h11, e11⟩ : ∃ z, z = aF h10 M 19 20 12 := ⟨_, rfl⟩
  have n11 : qN h11 = M + 11 := by rw [e11]; exact (congrArg (fun z => z + 1) n10)
  have d11 : FD h11 M [(19, 11, 20, 12), (17, 10, 20, 12), (16, 9, 20, 12), (11, 8, 22, 6), (10, 7, 20, 186), (9, 6, 20, 2), (8, 5, 20, 2), (5, 4, 20, 60), (3, 3, 20, 506), (2, 2, 20, 506), (1, 1, 20, 506)] := by rw [e11]; exact d10.aF (Nat.le.intro n10.symm) (congrArg (fun z => z + 1) n10) (by decide)
  have x11 : EX (fun _ _ => False) (fun x _ => x = M) g3 h11 := x10.tr (show EX (fun _ _ => False) (fun x _ => x = M) h10 h11 by rw [e11]; exact EX.aF rfl)
  obtain ⟨h12, e12⟩ : ∃ z, z = aF h11 M 21 20 4 := ⟨_, rfl⟩
  have n12 : qN h12 = M + 12 := by rw [e12]; exact (congrArg (fun z => z + 1) n11)
  have d12 : FD h12 M [(21, 12, 20, 4), (19, 11, 20, 12), (17, 10, 20, 12), (16, 9, 20, 12), (11, 8, 22, 6), (10, 7, 20, 186), (9, 6, 20, 2), (8, 5, 20, 2), (5, 4, 20, 60), (3, 3, 20, 506), (2, 2, 20, 506), (1, 1, 20, 506)] := by rw [e12]; exact d11.aF (Nat.le.intro n11.symm) (congrArg (fun z => z + 1) n11) (by decide)
  have x12 : EX (fun _ _ => False) (fun x _ => x = M) g3 h12 := x11.tr (show EX (fun _ _ => False) (fun x _ => x = M) h11 h12 by rw [e12]; exact EX.aF rfl)
  obtain ⟨h13, e13⟩ : ∃ z, z = aF h12 M 22 20 4 := ⟨_, rfl⟩
  have n13 : qN h13 = M + 13 := by rw [e13]; exact (congrArg (fun z => z + 1) n12)
  have d13 : FD h13 M [(22, 13, 20, 4), (21, 12, 20, 4), (19, 11, 20, 12), (17, 10, 20, 12), (16, 9, 20, 12), (11, 8, 22, 6), (10, 7, 20, 186), (9, 6, 20, 2), (8, 5, 20, 2), (5, 4, 20, 60), (3, 3, 20, 506), (2, 2, 20, 506), (1, 1, 20, 506)] := by rw [e13]; exact d12.aF (Nat.le.intro n12.symm) (congrArg (fun z => z + 1) n12) (by decide)
  have x13 : EX (fun _ _ => False) (fun x _ => x = M) g3 h13 := x12.tr (show EX (fun _ _ => False) (fun x _ => x = M) h12 h13 by rw [e13]; exact EX.aF rfl)
  obtain ⟨h14, e14⟩ : ∃ z, z = aF h13 M 23 20 4 := ⟨_, rfl⟩
  have n14 : qN h14 = M + 14 := by rw [e14]; exact (congrArg (fun z => z + 1) n13)
  have d14 : FD h14 M [(23, 14, 20, 4), (22, 13, 20, 4), (21, 12, 20, 4), (19, 11, 20, 12), (17, 10, 20, 12), (16, 9, 20, 12), (11, 8, 22, 6), (10, 7, 20, 186), (9, 6, 20, 2), (8, 5, 20, 2), (5, 4, 20, 60), (3, 3, 20, 506), (2, 2, 20, 506), (1, 1, 20, 506)] := by rw [e14]; exact d13.aF (Nat.le.intro n13.symm) (congrArg (fun z => z + 1) n13) (by decide)
  have x14 : EX (fun _ _ => False) (fun x _ => x = M) g3 h14 := x13.tr (show EX (fun _ _ => False) (fun x _ => x = M) h13 h14 by rw [e14]; exact EX.aF rfl)
  obtain ⟨h15, e15⟩ : ∃ z, z = aF h14 M 24 20 4 := ⟨_, rfl⟩
  have n15 : qN h15 = M + 15 := by rw [e15]; exact (congrArg (fun z => z + 1) n14)
  have d15 : FD h15 M [(24, 15, 20, 4), (23, 14, 20, 4), (22, 13, 20, 4), (21, 12, 20, 4), (19, 11, 20, 12), (17, 10, 20, 12), (16, 9, 20, 12), (11, 8, 22, 6), (10, 7, 20, 186), (9, 6, 20, 2), (8, 5, 20, 2), (5, 4, 20, 60), (3, 3, 20, 506), (2, 2, 20, 506), (1, 1, 20, 506)] := by rw [e15]; exact d14.aF (Nat.le.intro n14.symm) (congrArg (fun z => z + 1) n14) (by decide)
  have x15 : EX (fun _ _ => False) (fun x _ => x = M) g3 h15 := x14.tr (show EX (fun _ _ => False) (fun x _ => x = M) h14 h15 by rw [e15]; exact EX.aF rfl)
  obtain ⟨h16, e16⟩ : ∃ z, z = aF h15 M 25 20 4 := ⟨_, rfl⟩
  have n16 : qN h16 = M + 16 := by rw [e16]; exact (congrArg (fun z => z + 1) n15)
  have d16 : FD h16 M [(25, 16, 20, 4), (24, 15, 20, 4), (23, 14, 20, 4), (22, 13, 20, 4), (21, 12, 20, 4), (19, 11, 20, 12), (17, 10, 20, 12), (16, 9, 20, 12), (11, 8, 22, 6), (10, 7, 20, 186), (9, 6, 20, 2), (8, 5, 20, 2), (5, 4, 20, 60), (3, 3, 20, 506), (2, 2, 20, 506), (1, 1, 20, 506)] := by rw [e16]; exact d15.aF (Nat.le.intro n15.symm) (congrArg (fun z => z + 1) n15) (by decide)
  have x16 : EX (fun _ _ => False) (fun x _ => x = M) g3 h16 := x15.tr (show EX (fun _ _ => False) (fun x _ => x = M) h15 h16 by rw [e16]; exact EX.aF rfl)
  obtain ⟨h17, e17⟩ : ∃ z, z = aF h16 M 26 20 16 := ⟨_, rfl⟩
  have n17 : qN h17 = M + 17 := by rw [e17]; exact (congrArg (fun z => z + 1) n16)
  have d17 : FD h17 M [(26, 17, 20, 16), (25, 16, 20, 4), (24, 15, 20, 4), (23, 14, 20, 4), (22, 13, 20, 4), (21, 12, 20, 4), (19, 11, 20, 12), (17, 10, 20, 12), (16, 9, 20, 12), (11, 8, 22, 6), (10, 7, 20, 186), (9, 6, 20, 2), (8, 5, 20, 2), (5, 4, 20, 60), (3, 3, 20, 506), (2, 2, 20, 506), (1, 1, 20, 506)] := by rw [e17]; exact d16.aF (Nat.le.intro n16.symm) (congrArg (fun z => z + 1) n16) (by decide)
  have x17 : EX (fun _ _ => False) (fun x _ => x = M) g3 h17 := x16.tr (show EX (fun _ _ => False) (fun x _ => x = M) h16 h17 by rw [e17]; exact EX.aF rfl)
  obtain ⟨h18, e18⟩ : ∃ z, z = aF h17 M 27 20 4 := ⟨_, rfl⟩
  have n18 : qN h18 = M + 18 := by rw [e18]; exact (congrArg (fun z => z + 1) n17)
  have d18 : FD h18 M [(27, 18, 20, 4), (26, 17, 20, 16), (25, 16, 20, 4), (24, 15, 20, 4), (23, 14, 20, 4), (22, 13, 20, 4), (21, 12, 20, 4), (19, 11, 20, 12), (17, 10, 20, 12), (16, 9, 20, 12), (11, 8, 22, 6), (10, 7, 20, 186), (9, 6, 20, 2), (8, 5, 20, 2), (5, 4, 20, 60), (3, 3, 20, 506), (2, 2, 20, 506), (1, 1, 20, 506)] := by rw [e18]; exact d17.aF (Nat.le.intro n17.symm) (congrArg (fun z => z + 1) n17) (by decide)
  have x18 : EX (fun _ _ => False) (fun x _ => x = M) g3 h18 := x17.tr (show EX (fun _ _ => False) (fun x _ => x = M) h17 h18 by rw [e18]; exact EX.aF rfl)
  obtain ⟨h19, e19⟩ : ∃ z, z = aF h18 M 28 20 1600 := ⟨_, rfl⟩
  have n19 : qN h19 = M + 19 := by rw [e19]; exact (congrArg (fun z => z + 1) n18)
  have d19 : FD h19 M [(28, 19, 20, 1600), (27, 18, 20, 4), (26, 17, 20, 16), (25, 16, 20, 4), (24, 15, 20, 4), (23, 14, 20, 4), (22, 13, 20, 4), (21, 12, 20, 4), (19, 11, 20, 12), (17, 10, 20, 12), (16, 9, 20, 12), (11, 8, 22, 6), (10, 7, 20, 186), (9, 6, 20, 2), (8, 5, 20, 2), (5, 4, 20, 60), (3, 3, 20, 506), (2, 2, 20, 506), (1, 1, 20, 506)] := by rw [e19]; exact d18.aF (Nat.le.intro n18.symm) (congrArg (fun z => z + 1) n18) (by decide)
  have x19 : EX (fun _ _ => False) (fun x _ => x = M) g3 h19 := x18.tr (show EX (fun _ _ => False) (fun x _ => x = M) h18 h19 by rw [e19]; exact EX.aF rfl)
  obtain ⟨h20, e20⟩ : ∃ z, z = aF h19 M 29 20 6 := ⟨_, rfl⟩
  have n20 : qN h20 = M + 20 := by rw [e20]; exact (congrArg (fun z => z + 1) n19)
  have d20 : FD h20 M [(29, 20, 20, 6), (28, 19, 20, 1600), (27, 18, 20, 4), (26, 17, 20, 16), (25, 16, 20, 4), (24, 15, 20, 4), (23, 14, 20, 4), (22, 13, 20, 4), (21, 12, 20, 4), (19, 11, 20, 12), (17, 10, 20, 12), (16, 9, 20, 12), (11, 8, 22, 6), (10, 7, 20, 186), (9, 6, 20, 2), (8, 5, 20, 2), (5, 4, 20, 60), (3, 3, 20, 506), (2, 2, 20, 506), (1, 1, 20, 506)] := by rw [e20]; exact d19.aF (Nat.le.intro n19.symm) (congrArg (fun z => z + 1) n19) (by decide)
  have x20 : EX (fun _ _ => False) (fun x _ => x = M) g3 h20 := x19.tr (show EX (fun _ _ => False) (fun x _ => x = M) h19 h20 by rw [e20]; exact EX.aF rfl)
  obtain ⟨h21, e21⟩ : ∃ z, z = aF h20 M 30 20 4 := ⟨_, rfl⟩
  have n21 : qN h21 = M + 21 := by rw [e21]; exact (congrArg (fun z => z + 1) n20)
  have d21 : FD h21 M [(30, 21, 20, 4), (29, 20, 20, 6), (28, 19, 20, 1600), (27, 18, 20, 4), (26, 17, 20, 16), (25, 16, 20, 4), (24, 15, 20, 4), (23, 14, 20, 4), (22, 13, 20, 4), (21, 12, 20, 4), (19, 11, 20, 12), (17, 10, 20, 12), (16, 9, 20, 12), (11, 8, 22, 6), (10, 7, 20, 186), (9, 6, 20, 2), (8, 5, 20, 2), (5, 4, 20, 60), (3, 3, 20, 506), (2, 2, 20, 506), (1, 1, 20, 506)] := by rw [e21]; exact d20.aF (Nat.le.intro n20.symm) (congrArg (fun z => z + 1) n20) (by decide)
  have x21 : EX (fun _ _ => False) (fun x _ => x = M) g3 h21 := x20.tr (show EX (fun _ _ => False) (fun x _ => x = M) h20 h21 by rw [e21]; exact EX.aF rfl)
  obtain ⟨h22, e22⟩ : ∃ z, z = aF h21 M 31 20 4 := ⟨_, rfl⟩
  have n22 : qN h22 = M + 22 := by rw [e22]; exact (congrArg (fun z => z + 1) n21)
  have d22 : FD h22 M [(31, 22, 20, 4), (30, 21, 20, 4), (29, 20, 20, 6), (28, 19, 20, 1600), (27, 18, 20, 4), (26, 17, 20, 16), (25, 16, 20, 4), (24, 15, 20, 4), (23, 14, 20, 4), (22, 13, 20, 4), (21, 12, 20, 4), (19, 11, 20, 12), (17, 10, 20, 12), (16, 9, 20, 12), (11, 8, 22, 6), (10, 7, 20, 186), (9, 6, 20, 2), (8, 5, 20, 2), (5, 4, 20, 60), (3, 3, 20, 506), (2, 2, 20, 506), (1, 1, 20, 506)] := by rw [e22]; exact d21.aF (Nat.le.intro n21.symm) (congrArg (fun z => z + 1) n21) (by decide)
  have x22 : EX (fun _ _ => False) (fun x _ => x = M) g3 h22 := x21.tr (show EX (fun _ _ => False) (fun x _ => x = M) h21 h22 by rw [e22]; exact EX.aF rfl)
  obtain ⟨h23, e23⟩ : ∃ z, z = aF h22 M 33 20 4 := ⟨_, rfl⟩
  have n23 : qN h23 = M + 23 := by rw [e23]; exact (congrArg (fun z => z + 1) n22)
  have d23 : FD h23 M [(33, 23, 20, 4), (31, 22, 20, 4), (30, 21, 20, 4), (29, 20, 20, 6), (28, 19, 20, 1600), (27, 18, 20, 4), (26, 17, 20, 16), (25, 16, 20, 4), (24, 15, 20, 4), (23, 14, 20, 4), (22, 13, 20, 4), (21, 12, 20, 4), (19, 11, 20, 12), (17, 10, 20, 12), (16, 9, 20, 12), (11, 8, 22, 6), (10, 7, 20, 186), (9, 6, 20, 2), (8, 5, 20, 2), (5, 4, 20, 60), (3, 3, 20, 506), (2, 2, 20, 506), (1, 1, 20, 506)] := by rw [e23]; exact d22.aF (Nat.le.intro n22.symm) (congrArg (fun z => z + 1) n22) (by decide)
  have x23 : EX (fun _ _ => False) (fun x _ => x = M) g3 h23 := x22.tr (show EX (fun _ _ => False) (fun x _ => x = M) h22 h23 by rw [e23]; exact EX.aF rfl)
  have f1 := d23 (1, 1, 20, 506) (by decide)
  obtain ⟨g4, eg4⟩ : ∃ z, z = putI (putI (putI h23 (M + 1) 0 (iN 3)) (M + 1) 1 (iN 30)) (M + 1) 2 (iN 1) := ⟨_, rfl⟩
  have xE : EX (fun x j => x = M + 1 ∧ j ≤ 2) (fun x _ => x = M) h23 g4 := by rw [eg4]; exact ((EX.pI (WI := fun x j => x = M + 1 ∧ j ≤ 2) ⟨rfl, by decide⟩).tr (EX.pI ⟨rfl, by decide⟩)).tr (EX.pI ⟨rfl, by decide⟩)
  have yD : EX (fun x j => x = M + 1 ∧ j ≤ 2) (fun x _ => x = M) g3 g4 := (x23.mo (fun _ _ z => z.elim) (fun _ _ _ z => z)).tr xE
  have yC : EX (fun x j => (x = M + 1 ∧ j ≤ 2) ∨ x = M + 6) (fun x _ => x = M) g2 g4 := (xC.mo (fun _ _ z => Or.inr z) (fun _ _ _ z => z)).tr (yD.mo (fun _ _ z => Or.inl z) (fun _ _ _ z => z))
  have yB : EX (fun x j => (x = M + 1 ∧ j ≤ 2) ∨ x = M + 5 ∨ x = M + 6) (fun x _ => x = M) g1 g4 := (xB.mo (fun _ _ z => Or.inr (Or.inl z)) (fun _ _ _ z => z)).tr (yC.mo (fun _ _ z => z.imp id Or.inr) (fun _ _ _ z => z))
  have yA : EX (fun x j => (x = M ∧ j = 7) ∨ (x = M + 1 ∧ j ≤ 2) ∨ x = M + 5 ∨ x = M + 6) (fun x _ => x = M) h g4 := xA.tr (yB.mo (fun _ _ z => Or.inr z) (fun _ _ _ z => z))
  have t0 : (iN 0).toNatClampNeg = 0 := by rw [iN_cl (by omega) (by omega)]; rfl
  have t1 : (iN 1).toNatClampNeg = 1 := by rw [iN_cl (by omega) (by omega)]; rfl
  have t2 : (iN 2).toNatClampNeg = 2 := by rw [iN_cl (by omega) (by omega)]; rfl
  have cc : qC g4 = qC h + 23 ∧ qS g4 = qS h + 3468 := by
    have a4 : qC g1 = qC h + 4 ∧ qS g1 = qS h + 1578 := by rw [eg1, e4, e3, e2, e1]; exact ⟨rfl, rfl⟩
    have a6 : qC g3 = qC g1 + 2 ∧ qS g3 = qS g1 + 4 := by rw [eg3, eg2]; exact ⟨rfl, rfl⟩
    have b : qC h14 = qC g3 + 8 ∧ qS h14 = qS g3 + 240 := by rw [e14, e13, e12, e11, e10, e9, e8, e7]; exact ⟨rfl, rfl⟩
    have c : qC h23 = qC h14 + 9 ∧ qS h23 = qS h14 + 1646 := by rw [e23, e22, e21, e20, e19, e18, e17, e16, e15]; exact ⟨rfl, rfl⟩
    have d : qC g4 = qC h23 ∧ qS g4 = qS h23 := by rw [eg4]; exact ⟨rfl, rfl⟩
    clear xE yD yC yB yA t0 t1 t2 f1
    exact ⟨by rw [d.1, c.1, b.1, a6.1, a4.1], by rw [d.2, c.2, b.2, a6.2, a4.2]⟩
  have M1 : ∀ k : Nat, 0 < k → M + k ≠ M := fun k hk => Nat.ne_of_gt (Nat.lt_add_of_pos_right hk)
  have M5 : ∀ a b : Nat, a ≠ b → M + a ≠ M + b := fun a b hk z => hk (Nat.add_left_cancel z)
  refine ⟨g4, ?_, by rw [eg4]; exact n23, yA, ⟨okr_ex yA oM, fun f hf => ?_⟩, (yB.2.2.1 M 7 (Nat.le.intro ng1.symm) (fun z => z.elim (fun z => M1 1 (by decide) z.1.symm) (fun z => z.elim (fun z => M1 5 (by decide) z.symm) (fun z => M1 6 (by decide) z.symm)))).trans iA, ⟨(yC.2.2.1 (M + 5) 0 (Nat.le_of_eq ng2.symm) (fun z => z.elim (fun z => M5 5 1 (by decide) z.1) (fun z => M5 5 6 (by decide) z))).trans iB.1, (yC.2.2.1 (M + 5) 1 (Nat.le_of_eq ng2.symm) (fun z => z.elim (fun z => M5 5 1 (by decide) z.1) (fun z => M5 5 6 (by decide) z))).trans iB.2⟩, ⟨(yD.2.2.1 (M + 6) 0 (Nat.le_of_eq ng3.symm) (fun z => M5 6 1 (by decide) z.1)).trans iC.1, (yD.2.2.1 (M + 6) 1 (Nat.le_of_eq ng3.symm) (fun z => M5 6 1 (by decide) z.1)).trans iC.2⟩, ?_, cc⟩
  · unfold f_X9_init f_X9_init_L91 f_X9_init_L165
    rw [chk_pos (qlt (k := 0) hn (lt9 hb) (by decide)), lt_is, chk_pos (okr_ex (EX.nO (WI := fun _ _ => False) (WR := fun _ _ => False)) oM), lt_is, aF_is e1]
    rw [chk_pos (qlt n1 (lt9 hb) (by decide)), lt_is, lt_is, aF_is e2, chk_pos (qlt n2 (lt9 hb) (by decide)), lt_is, lt_is, aF_is e3, chk_pos (qlt n3 (lt9 hb) (by decide)), lt_is, lt_is, aF_is e4, lt_is, ← eg1, chk_pos (qlt ng1 (lt9 hb) (by decide)), cF_is eg2, chk_pos (qlt ng2 (lt9 hb) (by decide)), cF_is eg3]
    rw [chk_pos (qlt ng3 (lt9 hb) (by decide)), lt_is, lt_is, aF_is e7, chk_pos (qlt n7 (lt9 hb) (by decide)), lt_is, lt_is, aF_is e8]
    rw [chk_pos (qlt n8 (lt9 hb) (by decide)), lt_is, chk_pos (okr_ex (EX.nO (WI := fun _ _ => False) (WR := fun _ _ => False)) (okr_ex (show EX (fun _ _ => True) (fun x _ => x = M) h h8 from (xA.mo (fun _ _ _ => trivial) (fun _ _ _ z => z)).tr ((xB.mo (fun _ _ _ => trivial) (fun _ _ _ z => z)).tr ((xC.mo (fun _ _ _ => trivial) (fun _ _ _ z => z)).tr (x8.mo (fun _ _ _ => trivial) (fun _ _ _ z => z))))) oM)), lt_is, aF_is e9]
    rw [chk_pos (qlt n9 (lt9 hb) (by decide)), lt_is, lt_is, aF_is e10, chk_pos (qlt n10 (lt9 hb) (by decide)), lt_is, lt_is, aF_is e11, chk_pos (qlt n11 (lt9 hb) (by decide)), lt_is, lt_is, aF_is e12, chk_pos (qlt n12 (lt9 hb) (by decide)), lt_is, lt_is, aF_is e13, chk_pos (qlt n13 (lt9 hb) (by decide)), lt_is, lt_is, aF_is e14, chk_pos (qlt n14 (lt9 hb) (by decide)), lt_is, lt_is, aF_is e15, chk_pos (qlt n15 (lt9 hb) (by decide)), lt_is, lt_is, aF_is e16, chk_pos (qlt n16 (lt9 hb) (by decide)), lt_is, lt_is, aF_is e17, chk_pos (qlt n17 (lt9 hb) (by decide)), lt_is, lt_is, aF_is e18]
    rw [chk_pos (qlt n18 (lt9 hb) (by decide)), lt_is, chk_pos (okr_ex (EX.nO (WI := fun _ _ => False) (WR := fun _ _ => False)) (okr_ex (show EX (fun _ _ => True) (fun x _ => x = M) h h18 from (xA.mo (fun _ _ _ => trivial) (fun _ _ _ z => z)).tr ((xB.mo (fun _ _ _ => trivial) (fun _ _ _ z => z)).tr ((xC.mo (fun _ _ _ => trivial) (fun _ _ _ z => z)).tr (x18.mo (fun _ _ _ => trivial) (fun _ _ _ z => z))))) oM)), lt_is, aF_is e19]
    rw [chk_pos (qlt n19 (lt9 hb) (by decide)), lt_is, lt_is, aF_is e20, chk_pos (qlt n20 (lt9 hb) (by decide)), lt_is, lt_is, aF_is e21, chk_pos (qlt n21 (lt9 hb) (by decide)), lt_is, lt_is, aF_is e22, chk_pos (qlt n22 (lt9 hb) (by decide)), lt_is, lt_is, aF_is e23]
    rw [f1.1, chk_pos f1.2.1, f1.2.2, ck_in (by decide) (by decide) (by decide), lt_is, t0, qR_pI, f1.1, chk_pos (show okr (putI h23 (M + 1) 0 (iN 3)) (M + 1) 20 from f1.2.1), qW_pI, f1.2.2, ck_in (by decide) (by decide) (by decide), lt_is, t1, qR_pI, qR_pI, f1.1, chk_pos (show okr (putI (putI h23 (M + 1) 0 (iN 3)) (M + 1) 1 (iN 30)) (M + 1) 20 from f1.2.1), qW_pI, qW_pI, f1.2.2, ck_in (by decide) (by decide) (by decide), lt_is, t2, ← eg4]
  · have q : FD g4 M tblM := fun f hf => by rw [eg4]; exact d23 f ((show ∀ f ∈ tblM, f ∈ [(33, 23, 20, 4), (31, 22, 20, 4), (30, 21, 20, 4), (29, 20, 20, 6), (28, 19, 20, 1600), (27, 18, 20, 4), (26, 17, 20, 16), (25, 16, 20, 4), (24, 15, 20, 4), (23, 14, 20, 4), (22, 13, 20, 4), (21, 12, 20, 4), (19, 11, 20, 12), (17, 10, 20, 12), (16, 9, 20, 12), (11, 8, 22, 6), (10, 7, 20, 186), (9, 6, 20, 2), (8, 5, 20, 2), (5, 4, 20, 60), (3, 3, 20, 506), (2, 2, 20, 506), (1, 1, 20, 506)] by decide) f hf)
    exact q f hf
  · rw [eg4, qI_pI, if_neg (fun z => absurd z.2 (by decide)), qI_pI, if_neg (fun z => absurd z.2 (by decide)), rd_eq, qI_pI, if_neg (fun z => absurd z.2 (by decide)), rd_eq, rd_eq]
    exact ⟨rfl, rfl, rfl⟩
