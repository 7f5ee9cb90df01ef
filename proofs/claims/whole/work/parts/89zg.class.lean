/-! ===== STAGE B: the class is made ===== -/
theorem LTb.ex {WI WR : Nat → Nat → Prop} {h h' : Hp} {T : Nat} (l : LTb h T) (e : EX WI WR h h') (hw : ∀ x j, T ≤ x → x ≤ T + 147 → ¬ WR x j) : LTb h' T := by
  obtain ⟨⟨o, r6, r7, r8⟩, ⟨o1, o2, o3⟩, ⟨w1, w2, w3⟩, hc, hp, hi⟩ := l
  have r : ∀ j, qR h' T j = qR h T j := fun j => e.2.2.2.2 T j o.1.2 (hw T j (by omega) (by omega))
  have r3 : ∀ j, qR h' (T + 3) j = qR h (T + 3) j := fun j => e.2.2.2.2 (T + 3) j o3.1.2 (hw _ j (by omega) (by omega))
  refine ⟨⟨okr_ex e o, (r 6).trans r6, (r 7).trans r7, (r 8).trans r8⟩, ⟨okr_ex e o1, okr_ex e o2, okr_ex e o3⟩, ⟨(e.2.1 _ o1.1.2).2.trans w1, (e.2.1 _ o2.1.2).2.trans w2, (e.2.1 _ o3.1.2).2.trans w3⟩, fun k hk => ?_, fun i hi2 => ?_, fun i j hi2 hj q => ?_⟩
  · exact CL.ex (hc k hk) e (fun x j z1 z2 => hw x j (by omega) (by omega))
  · obtain ⟨k, hk, ek⟩ := hp i hi2
    exact ⟨k, hk, (r3 i).trans ek⟩
  · rw [r3, r3] at q
    exact hi i j hi2 hj q
theorem LK.ex {WI WR : Nat → Nat → Prop} {h h' : Hp} {C T : Nat} (l : LK h C T) (e : EX WI WR h h') (hw : ∀ x j, C ≤ x → x ≤ C + 11 → ¬ WR x j) : LK h' C T := by
  obtain ⟨ct, ⟨o, r0, r1, r2, r3, r4, r5, r6, r8⟩, ⟨o1, o2, o3, o4, o9, o10, o11⟩, ⟨w1, w2, w3, w4, w9, w10, w11⟩, q⟩ := l
  have r : ∀ j, qR h' C j = qR h C j := fun j => e.2.2.2.2 C j o.1.2 (hw C j (by omega) (by omega))
  have w : ∀ {x t}, okr h x t → qW h' x = qW h x := fun z => (e.2.1 _ z.1.2).2
  exact ⟨ct, ⟨okr_ex e o, (r _).trans r0, (r _).trans r1, (r _).trans r2, (r _).trans r3, (r _).trans r4, (r _).trans r5, (r _).trans r6, (r _).trans r8⟩, ⟨okr_ex e o1, okr_ex e o2, okr_ex e o3, okr_ex e o4, okr_ex e o9, okr_ex e o10, okr_ex e o11⟩, ⟨(w o1).trans w1, (w o2).trans w2, (w o3).trans w3, (w o4).trans w4, (w o9).trans w9, (w o10).trans w10, (w o11).trans w11⟩, fun g hg => ⟨(e.2.2.2.2 _ g o4.1.2 (hw _ g (by omega) (by omega))).trans (q g hg).1, okr_ex e (q g hg).2.1, (w (q g hg).2.1).trans (q g hg).2.2⟩⟩
theorem LU.ex {WI WR : Nat → Nat → Prop} {h h' : Hp} {S C T : Nat} (l : LU h S C T) (e : EX WI WR h h') (hw : ∀ x j, S ≤ x → x ≤ S + 47 → ¬ WR x j) : LU h' S C T := by
  obtain ⟨ct, ⟨o, r0, r1, r2, r3, r4, r7, r8⟩, ⟨o1, o2, o4, o7, o8⟩, ⟨w1, w2, w4, w7, w8⟩, q, p⟩ := l
  have r : ∀ j, qR h' S j = qR h S j := fun j => e.2.2.2.2 S j o.1.2 (hw S j (by omega) (by omega))
  have w : ∀ {x t}, okr h x t → qW h' x = qW h x := fun z => (e.2.1 _ z.1.2).2
  exact ⟨ct, ⟨okr_ex e o, (r _).trans r0, (r _).trans r1, (r _).trans r2, (r _).trans r3, (r _).trans r4, (r _).trans r7, (r _).trans r8⟩, ⟨okr_ex e o1, okr_ex e o2, okr_ex e o4, okr_ex e o7, okr_ex e o8⟩, ⟨(w o1).trans w1, (w o2).trans w2, (w o4).trans w4, (w o7).trans w7, (w o8).trans w8⟩, fun g hg => ⟨(e.2.2.2.2 _ g o2.1.2 (hw _ g (by omega) (by omega))).trans (q g hg).1, okr_ex e (q g hg).2.1, (w (q g hg).2.1).trans (q g hg).2.2⟩, fun g hg => ⟨(e.2.2.2.2 _ g o7.1.2 (hw _ g (by omega) (by omega))).trans (p g hg).1, okr_ex e (p g hg).2.1, (w (p g hg).2.1).trans (p g hg).2.2⟩⟩
/-- fields of the class's object -/
def FR (h : Hp) (L : List (Nat × Nat)) : Prop := okr h 1 8 ∧ ∀ f ∈ L, qR h 1 f.1 = f.2
theorem FR.ex {WI WR : Nat → Nat → Prop} {h h' : Hp} {L : List (Nat × Nat)} (d : FR h L) (e : EX WI WR h h') (hw : ∀ j, ¬ WR 1 j) : FR h' L := ⟨okr_ex e d.1, fun f hf => (e.2.2.2.2 1 f.1 d.1.1.2 (hw _)).trans (d.2 f hf)⟩
theorem FR.put {h : Hp} {L : List (Nat × Nat)} {k v : Nat} (d : FR h L) (hk : ∀ f ∈ L, f.1 ≠ k) : FR (putR h 1 k v) ((k, v) :: L) := ⟨d.1, fun f hf => by
  rcases List.mem_cons.mp hf with rfl | hf
  · exact if_pos ⟨rfl, rfl⟩
  · exact (if_neg (fun z => hk f hf z.2)).trans (d.2 f hf)⟩
theorem nO_t {h : Hp} {t w n a : Nat} (e : qN h + 1 = a) : qT (newO h t w n) a = t := if_pos e.symm
theorem nO_o {h : Hp} {t w n a s : Nat} (o : okr h a s) : okr (newO h t w n) a s := okr_ex (EX.nO (WI := fun _ _ => False) (WR := fun _ _ => False)) o
/-- the parts, their cell new -/
theorem st7 {h : Hp} {T : Nat} (hn : qN h + 1 = T) (hb : T < 700000) : ∃ h2, f_X7_init (newO h 7 0 9) T = some (h2, .inr ()) ∧ qN h2 = T + 147 ∧ EX (fun x j => x = T ∧ (j = 0 ∨ j = 1 ∨ j = 3)) (fun _ _ => False) h h2 ∧ LTb h2 T ∧ (qI h2 T 0 = iN 30 ∧ qI h2 T 1 = iN 1 ∧ qI h2 T 3 = iN 3) ∧ qC h2 = qC h + 148 ∧ qS h2 = qS h + 2049 := by
  obtain ⟨h2, e, n, x, l, i, c, s⟩ := g_init7 (h0 := newO h 7 0 9) (T := T) hn (by omega) hb (nO_t hn)
  have z := EX.nO.tr x
  exact ⟨h2, e, n, z.mo (fun _ _ y => y) (fun x j z1 z2 => by omega), l, i, by rw [c]; show qC h + 1 + 147 = _; omega, by rw [s]; show qS h + 9 + 2040 = _; omega⟩
theorem st3 {h : Hp} {C T : Nat} (hn : qN h + 1 = C) (hb : C < 700000) (oT : okr h T 7) (ct : C = T + 148) : ∃ h2, f_X3_init (newO h 3 0 9) C T = some (h2, .inr ()) ∧ qN h2 = C + 11 ∧ EX (fun _ _ => False) (fun _ _ => False) h h2 ∧ LK h2 C T ∧ qC h2 = qC h + 12 ∧ qS h2 = qS h + 53 := by
  obtain ⟨h2, e, n, x, l, c, s⟩ := g_init3 (h0 := newO h 3 0 9) (C := C) (T := T) hn hb (nO_t hn) (nO_o oT) ct
  have z := EX.nO.tr x
  exact ⟨h2, e, n, z.mo (fun _ _ y => y) (fun x j z1 z2 => by omega), l, by rw [c]; show qC h + 1 + 11 = _; omega, by rw [s]; show qS h + 9 + 44 = _; omega⟩
theorem st6 {h : Hp} {S C T : Nat} (hn : qN h + 1 = S) (hb : S < 700000) (oT : okr h T 7) (oC : okr h C 3) (ct : S = T + 160) : ∃ h2, f_X6_init (newO h 6 0 12) S T C = some (h2, .inr ()) ∧ qN h2 = S + 47 ∧ EX (fun _ _ => False) (fun _ _ => False) h h2 ∧ LU h2 S C T ∧ qC h2 = qC h + 48 ∧ qS h2 = qS h + 277 := by
  obtain ⟨h2, e, n, x, l, c, s⟩ := g_init6 (h0 := newO h 6 0 12) (S := S) (C := C) (T := T) hn hb (nO_t hn) (nO_o oT) (nO_o oC) ct
  have z := EX.nO.tr x
  exact ⟨h2, e, n, z.mo (fun _ _ y => y) (fun x j z1 z2 => by omega), l, by rw [c]; show qC h + 1 + 47 = _; omega, by rw [s]; show qS h + 12 + 265 = _; omega⟩
theorem st5 {h : Hp} {a : Nat} (hn : qN h + 1 = a) (hb : a < 700000) : ∃ h2, f_X5_init (newO h 5 0 8) a = some (h2, .inr ()) ∧ qN h2 = a + 9 ∧ EX (fun x j => x = a ∧ j = 4) (fun _ _ => False) h h2 ∧ LX h2 a ∧ qI h2 a 4 = iN (-1) ∧ qC h2 = qC h + 10 ∧ qS h2 = qS h + 190 := by
  obtain ⟨h2, e, n, x, l, i, c, s⟩ := g_init5 (h := newO h 5 0 8) (a := a) hn (by omega) hb (nO_t hn)
  have z := EX.nO.tr x
  exact ⟨h2, e, n, z.mo (fun _ _ y => y) (fun x j z1 z2 => by omega), l, i, by rw [c]; show qC h + 1 + 9 = _; omega, by rw [s]; show qS h + 8 + 182 = _; omega⟩
theorem st2 {h : Hp} {a : Nat} (hn : qN h + 1 = a) (hb : a < 700000) : ∃ h2, f_X2_init (newO h 2 0 5) a = some (h2, .inr ()) ∧ qN h2 = a + 26 ∧ EX (fun _ _ => False) (fun _ _ => False) h h2 ∧ Lcp h2 a ∧ qC h2 = qC h + 27 ∧ qS h2 = qS h + 377 := by
  obtain ⟨h2, e, n, x, l, c, s⟩ := g_init2 (h := newO h 2 0 5) (a := a) hn (by omega) hb (nO_t hn)
  have z := EX.nO.tr x
  exact ⟨h2, e, n, z.mo (fun _ _ y => y) (fun x j z1 z2 => by omega), l, by rw [c]; show qC h + 1 + 26 = _; omega, by rw [s]; show qS h + 5 + 372 = _; omega⟩
/-- the first table -/
def m00 : Int → Int := fun k => if k = 0 then 3 else if k = 1 then 30 else if k = 2 then 1 else 0
theorem m00_0 {k : Int} (h : 3 ≤ k) : m00 k = 0 := by
  unfold m00
  rw [if_neg (by omega), if_neg (by omega), if_neg (by omega)]
theorem WF_00 : WF m00 := by
  have h0 : m00 0 = 3 := rfl
  have h1 : m00 1 = 30 := rfl
  have h2 : m00 2 = 1 := rfl
  have h3 := m00_0 (k := 3) (by omega)
  have h4 := m00_0 (k := 4) (by omega)
  have h5 := m00_0 (k := 5) (by omega)
  refine ⟨by omega, fun c c0 c1 => ?_, fun i i0 i1 => by omega, fun i j i0 i1 i2 => by omega⟩
  rw [m00_0 (by omega)]
  exact Or.inl rfl
theorem TM_00 {h : Hp} {T : Nat} (l : LTb h T) (i : qI h T 0 = iN 30 ∧ qI h T 1 = iN 1 ∧ qI h T 3 = iN 3) (z : qI h T 2 = 0 ∧ qI h T 4 = 0 ∧ qI h T 5 = 0) (z1 : ∀ j, qI h (T + 1) j = 0) (z2 : ∀ j, qI h (T + 2) j = 0) : TM h T m00 := by
  have h5 := m00_0 (k := 5) (by omega)
  refine ⟨l, ⟨i.1, i.2.1, ?_, i.2.2, ?_, ?_⟩, fun k k0 k1 => ?_, fun k k0 k1 => ?_, fun j j0 j1 => by omega⟩
  · rw [z.1, m00_0 (by omega)]; rfl
  · rw [z.2.1, m00_0 (by omega)]; rfl
  · rw [z.2.2, m00_0 (by omega)]; rfl
  · rw [z1]; show 0 = iN (tyS (m00 (6 + k))); rw [m00_0 (by omega)]; rfl
  · rw [z2]; show 0 = iN (vaS (m00 (6 + k))); rw [m00_0 (by omega)]; rfl
theorem FZ.ex {P : Nat → Nat → Prop} {h h' : Hp} (f : FZ P h h') : EX P (fun _ _ => False) h h' := ⟨Nat.le_of_eq f.1.1.symm, fun x _ => ⟨by rw [f.1.2.1], by rw [f.1.2.2.1]⟩, fun x j _ z => f.2 x j z, fun x j z1 z2 => (f.2 x j z1).trans z2, fun x j _ _ => by rw [f.1.2.2.2.1]⟩
/-- the class's part of the layout -/
def SLa (h : Hp) : Prop := (okr h 1 8 ∧ qR h 1 0 = 2 ∧ qR h 1 1 = 150 ∧ qR h 1 2 = 162 ∧ qR h 1 3 = 210 ∧ qR h 1 4 = 358 ∧ qR h 1 5 = 370 ∧ qR h 1 6 = 418 ∧ qR h 1 8 = 566 ∧ qR h 1 9 = 576 ∧ qR h 1 10 = 631) ∧ (LTb h 2 ∧ LTb h 210 ∧ LTb h 418) ∧ (LK h 150 2 ∧ LK h 358 210) ∧ (LU h 162 150 2 ∧ LU h 370 358 210) ∧ LX h 566 ∧ (okr h 576 26 ∧ qW h 576 = 2 ∧ qR h 576 0 = 577 ∧ qR h 576 1 = 604 ∧ Lcp h 577 ∧ Lcp h 604) ∧ (okr h 631 20 ∧ qW h 631 = 4)
theorem SLa.ex {WI WR : Nat → Nat → Prop} {h h' : Hp} (l : SLa h) (e : EX WI WR h h') (hw : ∀ x j, x ≤ 631 → ¬ WR x j) : SLa h' := by
  obtain ⟨⟨o, r0, r1, r2, r3, r4, r5, r6, r8, r9, r10⟩, ⟨t1, t2, t3⟩, ⟨k1, k2⟩, ⟨u1, u2⟩, lx, ⟨c1, c2, c3, c4, c5, c6⟩, ⟨g1, g2⟩⟩ := l
  have r : ∀ j, qR h' 1 j = qR h 1 j := fun j => e.2.2.2.2 1 j o.1.2 (hw _ _ (by omega))
  have r9' : ∀ j, qR h' 576 j = qR h 576 j := fun j => e.2.2.2.2 576 j c1.1.2 (hw _ _ (by omega))
  exact ⟨⟨okr_ex e o, (r _).trans r0, (r _).trans r1, (r _).trans r2, (r _).trans r3, (r _).trans r4, (r _).trans r5, (r _).trans r6, (r _).trans r8, (r _).trans r9, (r _).trans r10⟩, ⟨t1.ex e (fun x j _ _ => hw x j (by omega)), t2.ex e (fun x j _ _ => hw x j (by omega)), t3.ex e (fun x j _ _ => hw x j (by omega))⟩, ⟨k1.ex e (fun x j _ _ => hw x j (by omega)), k2.ex e (fun x j _ _ => hw x j (by omega))⟩, ⟨u1.ex e (fun x j _ _ => hw x j (by omega)), u2.ex e (fun x j _ _ => hw x j (by omega))⟩, lx.ex e (fun x j _ _ => hw x j (by omega)), ⟨okr_ex e c1, (e.2.1 _ c1.1.2).2.trans c2, (r9' _).trans c3, (r9' _).trans c4, c5.ex e (fun x j _ _ => hw x j (by omega)), c6.ex e (fun x j _ _ => hw x j (by omega))⟩, ⟨okr_ex e g1, (e.2.1 _ g1.1.2).2.trans g2⟩⟩
/-- the class is made -/
theorem g_init8 {h : Hp} (hn : qN h = 1) (hT : qT h 1 = 8) (hz : ∀ x j, qI h x j = 0) : ∃ h2, f_X8_init h 1 = some (h2, .inr ()) ∧ qN h2 = 631 ∧ SLa h2 ∧ CM h2 m00 ∧ (∀ x j, (x < 2 ∨ 566 ≤ x) → ¬ (x = 566 ∧ j = 4) → qI h2 x j = 0) ∧ qI h2 566 4 = iN (-1) ∧ qC h2 ≤ qC h + 700 ∧ qS h2 ≤ qS h + 9000 := by
  have o : okr h 1 8 := ⟨⟨by omega, by omega⟩, hT⟩
  have r0 : FR h [] := ⟨o, fun f hf => by cases hf⟩
  obtain ⟨a1, e1, n1, x1, l1, i1, c1, s1⟩ := st7 (h := h) (T := 2) (by omega) (by omega)
  have u1 : okr a1 1 8 := okr_ex x1 r0.1
  obtain ⟨p1, q1⟩ : ∃ z, z = putR a1 1 0 2 := ⟨_, rfl⟩
  have m1 : qN p1 = 149 := by rw [q1]; exact n1
  have r1 : FR p1 [(0, 2)] := by rw [q1]; exact (r0.ex x1 (fun _ z => z)).put (by decide)
  have y1 : EX (fun x _ => 1 < x) (fun x _ => x = 1 ∨ x = 576) h p1 := (x1.mo (fun x j z => by omega) (fun _ _ _ z => z.elim)).tr (by rw [q1]; exact EX.pR (Or.inl rfl))
  have v1 : EX (fun _ _ => False) (fun x _ => x = 1 ∨ x = 576) a1 p1 := by rw [q1]; exact EX.pR (Or.inl rfl)
  replace l1 := l1.ex v1 (fun x j z1 z2 => by omega)
  have oo1 : okr a1 2 7 := by have := l1.1.1; rw [q1] at this; exact this
  obtain ⟨a2, e2, n2, x2, l2, c2, s2⟩ := st3 (h := p1) (C := 150) (T := 2) (by omega) (by omega) l1.1.1 rfl
  have u2 : okr a2 1 8 := okr_ex x2 r1.1
  obtain ⟨p2, q2⟩ : ∃ z, z = putR a2 1 1 150 := ⟨_, rfl⟩
  have m2 : qN p2 = 161 := by rw [q2]; exact n2
  have r2 : FR p2 [(1, 150), (0, 2)] := by rw [q2]; exact (r1.ex x2 (fun _ z => z)).put (by decide)
  have y2 : EX (fun x _ => 149 < x) (fun x _ => x = 1 ∨ x = 576) p1 p2 := (x2.mo (fun _ _ z => z.elim) (fun _ _ _ z => z.elim)).tr (by rw [q2]; exact EX.pR (Or.inl rfl))
  have v2 : EX (fun _ _ => False) (fun x _ => x = 1 ∨ x = 576) a2 p2 := by rw [q2]; exact EX.pR (Or.inl rfl)
  replace l2 := l2.ex v2 (fun x j z1 z2 => by omega)
  have t2 := l1.ex y2 (fun x j z1 z2 => by omega)
  have w2 : qR (newO p1 3 0 9) 1 0 = 2 := (r1.ex (EX.nO (WI := fun _ _ => False) (WR := fun _ _ => False)) (fun _ z => z)).2 (0, 2) (by decide)
  have oo2 : okr a2 150 3 := by have := l2.2.1.1; rw [q2] at this; exact this
  obtain ⟨a3, e3, n3, x3, l3, c3, s3⟩ := st6 (h := p2) (S := 162) (C := 150) (T := 2) (by omega) (by omega) t2.1.1 l2.2.1.1 rfl
  have u3 : okr a3 1 8 := okr_ex x3 r2.1
  obtain ⟨p3, q3⟩ : ∃ z, z = putR a3 1 2 162 := ⟨_, rfl⟩
  have m3 : qN p3 = 209 := by rw [q3]; exact n3
  have r3 : FR p3 [(2, 162), (1, 150), (0, 2)] := by rw [q3]; exact (r2.ex x3 (fun _ z => z)).put (by decide)
  have y3 : EX (fun x _ => 161 < x) (fun x _ => x = 1 ∨ x = 576) p2 p3 := (x3.mo (fun _ _ z => z.elim) (fun _ _ _ z => z.elim)).tr (by rw [q3]; exact EX.pR (Or.inl rfl))
  have v3 : EX (fun _ _ => False) (fun x _ => x = 1 ∨ x = 576) a3 p3 := by rw [q3]; exact EX.pR (Or.inl rfl)
  replace l3 := l3.ex v3 (fun x j z1 z2 => by omega)
  have w3 : qR (newO p2 6 0 12) 1 0 = 2 := (r2.ex (EX.nO (WI := fun _ _ => False) (WR := fun _ _ => False)) (fun _ z => z)).2 (0, 2) (by decide)
  have w3b : qR (newO p2 6 0 12) 1 1 = 150 := (r2.ex (EX.nO (WI := fun _ _ => False) (WR := fun _ _ => False)) (fun _ z => z)).2 (1, 150) (by decide)
  have oo3 : okr a3 162 6 := by have := l3.2.1.1; rw [q3] at this; exact this
  obtain ⟨a4, e4, n4, x4, l4, i4, c4, s4⟩ := st7 (h := p3) (T := 210) (by omega) (by omega)
  have u4 : okr a4 1 8 := okr_ex x4 r3.1
  obtain ⟨p4, q4⟩ : ∃ z, z = putR a4 1 3 210 := ⟨_, rfl⟩
  have m4 : qN p4 = 357 := by rw [q4]; exact n4
  have r4 : FR p4 [(3, 210), (2, 162), (1, 150), (0, 2)] := by rw [q4]; exact (r3.ex x4 (fun _ z => z)).put (by decide)
  have y4 : EX (fun x _ => 209 < x) (fun x _ => x = 1 ∨ x = 576) p3 p4 := (x4.mo (fun x j z => by omega) (fun _ _ _ z => z.elim)).tr (by rw [q4]; exact EX.pR (Or.inl rfl))
  have v4 : EX (fun _ _ => False) (fun x _ => x = 1 ∨ x = 576) a4 p4 := by rw [q4]; exact EX.pR (Or.inl rfl)
  replace l4 := l4.ex v4 (fun x j z1 z2 => by omega)
  have oo4 : okr a4 210 7 := by have := l4.1.1; rw [q4] at this; exact this
  obtain ⟨a5, e5, n5, x5, l5, c5, s5⟩ := st3 (h := p4) (C := 358) (T := 210) (by omega) (by omega) l4.1.1 rfl
  have u5 : okr a5 1 8 := okr_ex x5 r4.1
  obtain ⟨p5, q5⟩ : ∃ z, z = putR a5 1 4 358 := ⟨_, rfl⟩
  have m5 : qN p5 = 369 := by rw [q5]; exact n5
  have r5 : FR p5 [(4, 358), (3, 210), (2, 162), (1, 150), (0, 2)] := by rw [q5]; exact (r4.ex x5 (fun _ z => z)).put (by decide)
  have y5 : EX (fun x _ => 357 < x) (fun x _ => x = 1 ∨ x = 576) p4 p5 := (x5.mo (fun _ _ z => z.elim) (fun _ _ _ z => z.elim)).tr (by rw [q5]; exact EX.pR (Or.inl rfl))
  have v5 : EX (fun _ _ => False) (fun x _ => x = 1 ∨ x = 576) a5 p5 := by rw [q5]; exact EX.pR (Or.inl rfl)
  replace l5 := l5.ex v5 (fun x j z1 z2 => by omega)
  have t5 := l4.ex y5 (fun x j z1 z2 => by omega)
  have w5 : qR (newO p4 3 0 9) 1 3 = 210 := (r4.ex (EX.nO (WI := fun _ _ => False) (WR := fun _ _ => False)) (fun _ z => z)).2 (3, 210) (by decide)
  have oo5 : okr a5 358 3 := by have := l5.2.1.1; rw [q5] at this; exact this
  obtain ⟨a6, e6, n6, x6, l6, c6, s6⟩ := st6 (h := p5) (S := 370) (C := 358) (T := 210) (by omega) (by omega) t5.1.1 l5.2.1.1 rfl
  have u6 : okr a6 1 8 := okr_ex x6 r5.1
  obtain ⟨p6, q6⟩ : ∃ z, z = putR a6 1 5 370 := ⟨_, rfl⟩
  have m6 : qN p6 = 417 := by rw [q6]; exact n6
  have r6 : FR p6 [(5, 370), (4, 358), (3, 210), (2, 162), (1, 150), (0, 2)] := by rw [q6]; exact (r5.ex x6 (fun _ z => z)).put (by decide)
  have y6 : EX (fun x _ => 369 < x) (fun x _ => x = 1 ∨ x = 576) p5 p6 := (x6.mo (fun _ _ z => z.elim) (fun _ _ _ z => z.elim)).tr (by rw [q6]; exact EX.pR (Or.inl rfl))
  have v6 : EX (fun _ _ => False) (fun x _ => x = 1 ∨ x = 576) a6 p6 := by rw [q6]; exact EX.pR (Or.inl rfl)
  replace l6 := l6.ex v6 (fun x j z1 z2 => by omega)
  have w6 : qR (newO p5 6 0 12) 1 3 = 210 := (r5.ex (EX.nO (WI := fun _ _ => False) (WR := fun _ _ => False)) (fun _ z => z)).2 (3, 210) (by decide)
  have w6b : qR (newO p5 6 0 12) 1 4 = 358 := (r5.ex (EX.nO (WI := fun _ _ => False) (WR := fun _ _ => False)) (fun _ z => z)).2 (4, 358) (by decide)
  have oo6 : okr a6 370 6 := by have := l6.2.1.1; rw [q6] at this; exact this
  obtain ⟨a7, e7, n7, x7, l7, i7, c7, s7⟩ := st7 (h := p6) (T := 418) (by omega) (by omega)
  have u7 : okr a7 1 8 := okr_ex x7 r6.1
  obtain ⟨p7, q7⟩ : ∃ z, z = putR a7 1 6 418 := ⟨_, rfl⟩
  have m7 : qN p7 = 565 := by rw [q7]; exact n7
  have r7 : FR p7 [(6, 418), (5, 370), (4, 358), (3, 210), (2, 162), (1, 150), (0, 2)] := by rw [q7]; exact (r6.ex x7 (fun _ z => z)).put (by decide)
  have y7 : EX (fun x _ => 417 < x) (fun x _ => x = 1 ∨ x = 576) p6 p7 := (x7.mo (fun x j z => by omega) (fun _ _ _ z => z.elim)).tr (by rw [q7]; exact EX.pR (Or.inl rfl))
  have v7 : EX (fun _ _ => False) (fun x _ => x = 1 ∨ x = 576) a7 p7 := by rw [q7]; exact EX.pR (Or.inl rfl)
  replace l7 := l7.ex v7 (fun x j z1 z2 => by omega)
  have oo7 : okr a7 418 7 := by have := l7.1.1; rw [q7] at this; exact this
  obtain ⟨a8, e8, n8, x8, l8, i8, c8, s8⟩ := st5 (h := p7) (a := 566) (by omega) (by omega)
  have u8 : okr a8 1 8 := okr_ex x8 r7.1
  obtain ⟨p8, q8⟩ : ∃ z, z = putR a8 1 8 566 := ⟨_, rfl⟩
  have m8 : qN p8 = 575 := by rw [q8]; exact n8
  have r8 : FR p8 [(8, 566), (6, 418), (5, 370), (4, 358), (3, 210), (2, 162), (1, 150), (0, 2)] := by rw [q8]; exact (r7.ex x8 (fun _ z => z)).put (by decide)
  have y8 : EX (fun x _ => 565 < x) (fun x _ => x = 1 ∨ x = 576) p7 p8 := (x8.mo (fun x j z => by omega) (fun _ _ _ z => z.elim)).tr (by rw [q8]; exact EX.pR (Or.inl rfl))
  have v8 : EX (fun _ _ => False) (fun x _ => x = 1 ∨ x = 576) a8 p8 := by rw [q8]; exact EX.pR (Or.inl rfl)
  replace l8 := l8.ex v8 (fun x j z1 z2 => by omega)
  have oo8 : okr a8 566 5 := by have := l8.1; rw [q8] at this; exact this
  obtain ⟨p9, q9⟩ : ∃ z, z = aF p8 1 9 26 2 := ⟨_, rfl⟩
  have m9 : qN p9 = 576 := by rw [q9]; show qN p8 + 1 = _; omega
  have r9 : FR p9 [(9, 576), (8, 566), (6, 418), (5, 370), (4, 358), (3, 210), (2, 162), (1, 150), (0, 2)] := by rw [q9, show aF p8 1 9 26 2 = putR (newO p8 26 2 2) 1 9 (qN p8 + 1) from rfl, show qN p8 + 1 = 576 by omega]; exact (r8.ex (EX.nO (WI := fun _ _ => False) (WR := fun _ _ => False)) (fun _ z => z)).put (by decide)
  have y9 : EX (fun x _ => 575 < x) (fun x _ => x = 1 ∨ x = 576) p8 p9 := by rw [q9]; exact EX.aF (Or.inl rfl)
  have o9 : okr p9 576 26 := ⟨⟨by omega, by omega⟩, by rw [q9]; show (if 576 = qN p8 + 1 then 26 else qT p8 576) = 26; rw [if_pos (by omega)]⟩
  have w9 : qW p9 576 = 2 := by rw [q9]; show (if 576 = qN p8 + 1 then 2 else qW p8 576) = 2; rw [if_pos (by omega)]
  obtain ⟨a10, e10, n10, x10, l10, c10, s10⟩ := st2 (h := p9) (a := 577) (by omega) (by omega)
  obtain ⟨p10, q10⟩ : ∃ z, z = putR a10 576 0 577 := ⟨_, rfl⟩
  have m10 : qN p10 = 603 := by rw [q10]; exact n10
  have v10 : EX (fun _ _ => False) (fun x j => x = 576 ∧ j = 0) a10 p10 := by rw [q10]; exact EX.pR ⟨rfl, rfl⟩
  have y10 : EX (fun _ _ => False) (fun x j => x = 576 ∧ j = 0) p9 p10 := (x10.mo (fun _ _ z => z) (fun _ _ _ z => z.elim)).tr v10
  have r10 : FR p10 [(9, 576), (8, 566), (6, 418), (5, 370), (4, 358), (3, 210), (2, 162), (1, 150), (0, 2)] := r9.ex y10 (fun j z => by omega)
  have oa10 : okr a10 576 26 ∧ qW a10 576 = 2 := ⟨okr_ex x10 o9, (x10.2.1 _ o9.1.2).2.trans w9⟩
  have o10 : okr p10 576 26 := okr_ex y10 o9
  have w10 : qW p10 576 = 2 := (y10.2.1 _ o9.1.2).2.trans w9
  have f10 : qR p10 576 0 = 577 := by rw [q10, qR_pR, if_pos ⟨rfl, rfl⟩]
  have oo10 : okr a10 577 2 := l10.1
  replace l10 := l10.ex v10 (fun x j z1 z2 z3 => by omega)
  obtain ⟨a11, e11, n11, x11, l11, c11, s11⟩ := st2 (h := p10) (a := 604) (by omega) (by omega)
  obtain ⟨p11, q11⟩ : ∃ z, z = putR a11 576 1 604 := ⟨_, rfl⟩
  have m11 : qN p11 = 630 := by rw [q11]; exact n11
  have v11 : EX (fun _ _ => False) (fun x j => x = 576 ∧ j = 1) a11 p11 := by rw [q11]; exact EX.pR ⟨rfl, rfl⟩
  have y11 : EX (fun _ _ => False) (fun x j => x = 576 ∧ j = 1) p10 p11 := (x11.mo (fun _ _ z => z) (fun _ _ _ z => z.elim)).tr v11
  have r11 : FR p11 [(9, 576), (8, 566), (6, 418), (5, 370), (4, 358), (3, 210), (2, 162), (1, 150), (0, 2)] := r10.ex y11 (fun j z => by omega)
  have oa11 : okr a11 576 26 ∧ qW a11 576 = 2 := ⟨okr_ex x11 o10, (x11.2.1 _ o10.1.2).2.trans w10⟩
  have o11 : okr p11 576 26 := okr_ex y11 o10
  have w11 : qW p11 576 = 2 := (y11.2.1 _ o10.1.2).2.trans w10
  have f11 : qR p11 576 1 = 604 := by rw [q11, qR_pR, if_pos ⟨rfl, rfl⟩]
  have oo11 : okr a11 604 2 := l11.1
  replace l11 := l11.ex v11 (fun x j z1 z2 z3 => by omega)
  have f10b : qR p11 576 0 = 577 := (y11.2.2.2.2 576 0 o10.1.2 (fun z => by omega)).trans f10
  obtain ⟨p12, q12⟩ : ∃ z, z = aF p11 1 10 20 4 := ⟨_, rfl⟩
  have m12 : qN p12 = 631 := by rw [q12]; show qN p11 + 1 = _; omega
  have r12 : FR p12 [(10, 631), (9, 576), (8, 566), (6, 418), (5, 370), (4, 358), (3, 210), (2, 162), (1, 150), (0, 2)] := by rw [q12, show aF p11 1 10 20 4 = putR (newO p11 20 4 4) 1 10 (qN p11 + 1) from rfl, show qN p11 + 1 = 631 by omega]; exact (r11.ex (EX.nO (WI := fun _ _ => False) (WR := fun _ _ => False)) (fun _ z => z)).put (by decide)
  have y12 : EX (fun x _ => 630 < x) (fun x _ => x = 1 ∨ x = 576) p11 p12 := by rw [q12]; exact EX.aF (Or.inl rfl)
  have o12 : okr p12 631 20 := ⟨⟨by omega, by omega⟩, by rw [q12]; show (if 631 = qN p11 + 1 then 20 else qT p11 631) = 20; rw [if_pos (by omega)]⟩
  have w12 : qW p12 631 = 4 := by rw [q12]; show (if 631 = qN p11 + 1 then 4 else qW p11 631) = 4; rw [if_pos (by omega)]
  have k12 : EX (fun x _ => 631 < x) (fun x _ => x = 1 ∨ x = 576) p12 p12 := EX.rf
  have k11 : EX (fun x _ => 630 < x) (fun x _ => x = 1 ∨ x = 576) p11 p12 := (y12.mo (fun x j z => by omega) (fun x j _ z => by omega)).tr (k12.mo (fun x j z => by omega) (fun _ _ _ z => z))
  have k10 : EX (fun x _ => 603 < x) (fun x _ => x = 1 ∨ x = 576) p10 p12 := (y11.mo (fun _ _ z => z.elim) (fun x j _ z => by omega)).tr (k11.mo (fun x j z => by omega) (fun _ _ _ z => z))
  have k9 : EX (fun x _ => 576 < x) (fun x _ => x = 1 ∨ x = 576) p9 p12 := (y10.mo (fun _ _ z => z.elim) (fun x j _ z => by omega)).tr (k10.mo (fun x j z => by omega) (fun _ _ _ z => z))
  have k8 : EX (fun x _ => 575 < x) (fun x _ => x = 1 ∨ x = 576) p8 p12 := (y9.mo (fun x j z => by omega) (fun x j _ z => by omega)).tr (k9.mo (fun x j z => by omega) (fun _ _ _ z => z))
  have k7 : EX (fun x _ => 565 < x) (fun x _ => x = 1 ∨ x = 576) p7 p12 := (y8.mo (fun x j z => by omega) (fun x j _ z => by omega)).tr (k8.mo (fun x j z => by omega) (fun _ _ _ z => z))
  have k6 : EX (fun x _ => 417 < x) (fun x _ => x = 1 ∨ x = 576) p6 p12 := (y7.mo (fun x j z => by omega) (fun x j _ z => by omega)).tr (k7.mo (fun x j z => by omega) (fun _ _ _ z => z))
  have k5 : EX (fun x _ => 369 < x) (fun x _ => x = 1 ∨ x = 576) p5 p12 := (y6.mo (fun x j z => by omega) (fun x j _ z => by omega)).tr (k6.mo (fun x j z => by omega) (fun _ _ _ z => z))
  have k4 : EX (fun x _ => 357 < x) (fun x _ => x = 1 ∨ x = 576) p4 p12 := (y5.mo (fun x j z => by omega) (fun x j _ z => by omega)).tr (k5.mo (fun x j z => by omega) (fun _ _ _ z => z))
  have k3 : EX (fun x _ => 209 < x) (fun x _ => x = 1 ∨ x = 576) p3 p12 := (y4.mo (fun x j z => by omega) (fun x j _ z => by omega)).tr (k4.mo (fun x j z => by omega) (fun _ _ _ z => z))
  have k2 : EX (fun x _ => 161 < x) (fun x _ => x = 1 ∨ x = 576) p2 p12 := (y3.mo (fun x j z => by omega) (fun x j _ z => by omega)).tr (k3.mo (fun x j z => by omega) (fun _ _ _ z => z))
  have k1 : EX (fun x _ => 149 < x) (fun x _ => x = 1 ∨ x = 576) p1 p12 := (y2.mo (fun x j z => by omega) (fun x j _ z => by omega)).tr (k2.mo (fun x j z => by omega) (fun _ _ _ z => z))
  have k0 : EX (fun x _ => 1 < x) (fun x _ => x = 1 ∨ x = 576) h p12 := (y1.mo (fun x j z => by omega) (fun x j _ z => by omega)).tr (k1.mo (fun x j z => by omega) (fun _ _ _ z => z))
  have zz : ∀ x j, ¬ (((x = 2 ∨ x = 210 ∨ x = 418) ∧ (j = 0 ∨ j = 1 ∨ j = 3)) ∨ (x = 566 ∧ j = 4)) → qI p12 x j = 0 := by
    intro x j nz
    have z0 := hz x j
    have z1 : qI p1 x j = 0 := by rw [q1]; exact x1.2.2.2.1 x j (fun z => by omega) z0
    have z2 : qI p2 x j = 0 := by rw [q2]; exact x2.2.2.2.1 x j id z1
    have z3 : qI p3 x j = 0 := by rw [q3]; exact x3.2.2.2.1 x j id z2
    have z4 : qI p4 x j = 0 := by rw [q4]; exact x4.2.2.2.1 x j (fun z => by omega) z3
    have z5 : qI p5 x j = 0 := by rw [q5]; exact x5.2.2.2.1 x j id z4
    have z6 : qI p6 x j = 0 := by rw [q6]; exact x6.2.2.2.1 x j id z5
    have z7 : qI p7 x j = 0 := by rw [q7]; exact x7.2.2.2.1 x j (fun z => by omega) z6
    have z8 : qI p8 x j = 0 := by rw [q8]; exact x8.2.2.2.1 x j (fun z => by omega) z7
    have z9 : qI p9 x j = 0 := by rw [q9]; exact (EX.aF (WI := fun _ _ => False) (WR := fun _ _ => True) trivial).2.2.2.1 x j id z8
    have z10 := y10.2.2.2.1 x j id z9
    have z11 := y11.2.2.2.1 x j id z10
    rw [q12]
    exact (EX.aF (WI := fun _ _ => False) (WR := fun _ _ => True) trivial).2.2.2.1 x j id z11
  have g1 := l1.ex k1 (fun x j z1 z2 => by omega)
  have g2 := l2.ex k2 (fun x j z1 z2 => by omega)
  have g3 := l3.ex k3 (fun x j z1 z2 => by omega)
  have g4 := l4.ex k4 (fun x j z1 z2 => by omega)
  have g5 := l5.ex k5 (fun x j z1 z2 => by omega)
  have g6 := l6.ex k6 (fun x j z1 z2 => by omega)
  have g7 := l7.ex k7 (fun x j z1 z2 => by omega)
  have g8 := l8.ex k8 (fun x j z1 z2 => by omega)
  have g10 := l10.ex k10 (fun x j z1 z2 => by omega)
  have g11 := l11.ex k11 (fun x j z1 z2 => by omega)
  have oc : okr p12 576 26 := okr_ex k11 o11
  have fc : qR p12 576 0 = 577 ∧ qR p12 576 1 = 604 := by
    have e := EX.aF (h := p11) (a := 1) (k := 10) (t := 20) (w := 4) (WI := fun _ _ => False) (WR := fun x _ => x = 1) rfl
    rw [← q12] at e
    exact ⟨(e.2.2.2.2 576 0 o11.1.2 (fun z => by omega)).trans f10b, (e.2.2.2.2 576 1 o11.1.2 (fun z => by omega)).trans f11⟩
  have sl : SLa p12 := ⟨⟨r12.1, r12.2 (0, 2) (by decide), r12.2 (1, 150) (by decide), r12.2 (2, 162) (by decide), r12.2 (3, 210) (by decide), r12.2 (4, 358) (by decide), r12.2 (5, 370) (by decide), r12.2 (6, 418) (by decide), r12.2 (8, 566) (by decide), r12.2 (9, 576) (by decide), r12.2 (10, 631) (by decide)⟩, ⟨g1, g4, g7⟩, ⟨g2, g5⟩, ⟨g3, g6⟩, g8, ⟨oc, (k11.2.1 _ o11.1.2).2.trans w11, fc.1, fc.2, g10, g11⟩, ⟨o12, w12⟩⟩
  have ti : qI p12 2 0 = iN 30 ∧ qI p12 2 1 = iN 1 ∧ qI p12 2 3 = iN 3 := by
    have j : ∀ j, qI p12 2 j = qI p1 2 j := fun j => k1.2.2.1 2 j (by omega) (fun z => by omega)
    rw [j, j, j, q1]
    exact i1
  have si : qI p12 566 4 = iN (-1) := by
    rw [k8.2.2.1 566 4 (by omega) (fun z => by omega), q8]
    exact i8
  have tm : TM p12 2 m00 := TM_00 g1 ti ⟨zz _ _ (by omega), zz _ _ (by omega), zz _ _ (by omega)⟩ (fun j => zz _ _ (by omega)) (fun j => zz _ _ (by omega))
  obtain ⟨h3, e13, f3, km⟩ := g_measure WF_00 g2 tm
  have tt3 := tm.c WF_00.1.2.2.2.2.2 (by decide) f3
  have uu3 := g3.ly f3.1
  have k3' := g2.ly f3.1
  obtain ⟨h2, e14, f2, sm⟩ := g_restart WF_00 (L := 1000000) uu3 k3' tt3 km
  have ff : FZ (fun x _ => 150 ≤ x ∧ x ≤ 209) p12 h2 := (f3.mo (fun x j z => by unfold pC at z; omega)).tr (f2.mo (fun x j z => by omega))
  have ss := sl.ex ff.ex (fun _ _ _ z => z)
  refine ⟨h2, ?_, by rw [ff.1.1]; exact m12, ss, ⟨tt3.fz WF_00.1.2.2.2.2.2 f2 (fun x j z1 z2 z3 => by omega), km.fz f2 (fun x j z1 z2 z3 => by omega), sm⟩, fun x j hx hn2 => (ff.2 x j (fun z => by omega)).trans (zz x j (fun z => by omega)), (ff.2 566 4 (fun z => by omega)).trans si, ?_, ?_⟩
  · unfold f_X8_init
    rw [chk_pos (show qN h + 1 < 1000000 by omega), lt_is, show qN h + 1 = 2 by omega, e1, bnd_ret, chk_pos u1, chk_pos oo1, lt_is, ← q1]
    rw [chk_pos (show qN p1 + 1 < 1000000 by omega), lt_is, w2, chk_pos (nO_o (l1.1.1)), show qN p1 + 1 = 150 by omega, e2, bnd_ret, chk_pos u2, chk_pos oo2, lt_is, ← q2]
    rw [chk_pos (show qN p2 + 1 < 1000000 by omega), lt_is, w3, chk_pos (nO_o t2.1.1), w3b, chk_pos (nO_o l2.2.1.1), show qN p2 + 1 = 162 by omega, e3, bnd_ret, chk_pos u3, chk_pos oo3, lt_is, ← q3]
    rw [chk_pos (show qN p3 + 1 < 1000000 by omega), lt_is, show qN p3 + 1 = 210 by omega, e4, bnd_ret, chk_pos u4, chk_pos oo4, lt_is, ← q4]
    rw [chk_pos (show qN p4 + 1 < 1000000 by omega), lt_is, w5, chk_pos (nO_o (l4.1.1)), show qN p4 + 1 = 358 by omega, e5, bnd_ret, chk_pos u5, chk_pos oo5, lt_is, ← q5]
    rw [chk_pos (show qN p5 + 1 < 1000000 by omega), lt_is, w6, chk_pos (nO_o t5.1.1), w6b, chk_pos (nO_o l5.2.1.1), show qN p5 + 1 = 370 by omega, e6, bnd_ret, chk_pos u6, chk_pos oo6, lt_is, ← q6]
    rw [chk_pos (show qN p6 + 1 < 1000000 by omega), lt_is, show qN p6 + 1 = 418 by omega, e7, bnd_ret, chk_pos u7, chk_pos oo7, lt_is, ← q7]
    rw [chk_pos (show qN p7 + 1 < 1000000 by omega), lt_is, show qN p7 + 1 = 566 by omega, e8, bnd_ret, chk_pos u8, chk_pos oo8, lt_is, ← q8]
    rw [chk_pos (show qN p8 + 1 < 1000000 by omega), lt_is, lt_is, aF_is q9]
    show f_X8_init_B126 (f_X8_init_L126 1999) p9 1 (iN 0) = _
    unfold f_X8_init_B126
    rw [if_neg (nleN (by omega) (by omega) (by omega)), chk_pos r9.1, show qR p9 1 9 = 576 from r9.2 (9, 576) (by decide), chk_pos o9, chk_pos (show qN p9 + 1 < 1000000 by omega), lt_is, show qN p9 + 1 = 577 by omega, e10, bnd_ret, chk_pos oa10.1, oa10.2, ck_in (by omega) (by omega) (by omega), chk_pos oo10, lt_is, iN_cl (by omega) (by omega), iN_add, show putR a10 576 (0 : Int).toNat 577 = p10 from q10.symm]
    show f_X8_init_B126 (f_X8_init_L126 1998) p10 1 (iN 1) = _
    unfold f_X8_init_B126
    rw [if_neg (nleN (by omega) (by omega) (by omega)), chk_pos r10.1, show qR p10 1 9 = 576 from r10.2 (9, 576) (by decide), chk_pos o10, chk_pos (show qN p10 + 1 < 1000000 by omega), lt_is, show qN p10 + 1 = 604 by omega, e11, bnd_ret, chk_pos oa11.1, oa11.2, ck_in (by omega) (by omega) (by omega), chk_pos oo11, lt_is, iN_cl (by omega) (by omega), iN_add, show putR a11 576 (1 : Int).toNat 604 = p11 from q11.symm]
    show f_X8_init_B126 (f_X8_init_L126 1997) p11 1 (iN 2) = _
    unfold f_X8_init_B126
    rw [if_pos (yleN (by omega) (by omega) (by omega)), chk_pos (show qN p11 + 1 < 1000000 by omega), lt_is, chk_pos (nO_o r11.1), lt_is, aF_is q12, sl.1.2.2.1, chk_pos g2.2.1.1, e13, bnd_ret, chk_pos (f3.1.ok.mpr r12.1), show qR h3 1 2 = 162 by rw [f3.1.2.2.2.1]; exact sl.1.2.2.2.1, chk_pos uu3.2.1.1, show (1000000 : Int32) = iN 1000000 from rfl, e14, bnd_ret]
  · have cs : qC h2 = qC p12 := ff.1.2.2.2.2.2.1
    have d12 : qC p12 = qC p11 + 1 := by rw [q12]; rfl
    have d9 : qC p9 = qC p8 + 1 := by rw [q9]; rfl
    have d1 : qC p1 = qC a1 := by rw [q1]; rfl
    have d2 : qC p2 = qC a2 := by rw [q2]; rfl
    have d3 : qC p3 = qC a3 := by rw [q3]; rfl
    have d4 : qC p4 = qC a4 := by rw [q4]; rfl
    have d5 : qC p5 = qC a5 := by rw [q5]; rfl
    have d6 : qC p6 = qC a6 := by rw [q6]; rfl
    have d7 : qC p7 = qC a7 := by rw [q7]; rfl
    have d8 : qC p8 = qC a8 := by rw [q8]; rfl
    have d10 : qC p10 = qC a10 := by rw [q10]; rfl
    have d11 : qC p11 = qC a11 := by rw [q11]; rfl
    omega
  · have cs : qS h2 = qS p12 := ff.1.2.2.2.2.2.2
    have d12 : qS p12 = qS p11 + 4 := by rw [q12]; rfl
    have d9 : qS p9 = qS p8 + 2 := by rw [q9]; rfl
    have d1 : qS p1 = qS a1 := by rw [q1]; rfl
    have d2 : qS p2 = qS a2 := by rw [q2]; rfl
    have d3 : qS p3 = qS a3 := by rw [q3]; rfl
    have d4 : qS p4 = qS a4 := by rw [q4]; rfl
    have d5 : qS p5 = qS a5 := by rw [q5]; rfl
    have d6 : qS p6 = qS a6 := by rw [q6]; rfl
    have d7 : qS p7 = qS a7 := by rw [q7]; rfl
    have d8 : qS p8 = qS a8 := by rw [q8]; rfl
    have d10 : qS p10 = qS a10 := by rw [q10]; rfl
    have d11 : qS p11 = qS a11 := by rw [q11]; rfl
    omega
