/-! ===== STAGE B: the start ===== -/
def R00 : Rst := (false, fun _ => 0, fun _ => 0, 0, -1, fun _ => -1, fun _ => 0, fun _ => false, fun _ => 0)
def D00 : Dt := (m00, R00)
theorem WD_00 : WD D00 := ⟨WF_00, fun z => Bool.noConfusion z, by decide, by decide, fun k (k0 : 0 ≤ k) (k1 : k < 0) => by omega, fun c _ _ => ⟨(by decide : (-1 : Int) ≤ -1 ∧ (-1 : Int) ≤ 5), (by decide : (0 : Int) ≤ 0 ∧ (0 : Int) ≤ 3), fun _ => rfl⟩, fun p _ _ z => Bool.noConfusion z⟩
theorem CM_ex {h h' : Hp} (e : EX (fun x _ => 632 ≤ x) (fun x _ => 632 ≤ x) h h') (hn : qN h = 631) (c : CM h m00) : CM h' m00 := by
  obtain ⟨t, k, s⟩ := c
  have i : ∀ x j, x ≤ 631 → qI h' x j = qI h x j := fun x j hx => e.2.2.1 x j (by omega) (fun z => by omega)
  have l : LTb h' 2 := t.1.ex e (fun x j z1 z2 z3 => by omega)
  have h5 := m00_0 (k := 5) (by omega)
  obtain ⟨r0, r1, r2, r3⟩ := t.2
  have tm : TM ((qN h', qT h', qW h', qI h, qL h', qR h', qC h', qS h') : Hp) 2 m00 := ⟨l, r0, r1, r2, fun j j0 j1 => by omega⟩
  have ff : FZ (fun x _ => 632 ≤ x) ((qN h', qT h', qW h', qI h, qL h', qR h', qC h', qS h') : Hp) h' := ⟨⟨rfl, rfl, rfl, rfl, rfl, rfl, rfl⟩, fun x j z => i x j (by omega)⟩
  have cm : CM ((qN h', qT h', qW h', qI h, qL h', qR h', qC h', qS h') : Hp) m00 := ⟨tm, k, s⟩
  exact cm.fz (by omega) ff (fun x j z1 z2 z3 => by omega)
theorem g_start (xs : Nat → Int32) (n : Nat) : ∃ h, f_L_law xs n hp0 = f_L_law_L23 xs n 2000 h 1 632 656 (iN 0) ∧ SL h ∧ CI h D00 ∧ RI h D00 ∧ qC h ≤ 800 ∧ qS h ≤ 13000 := by
  have z0 : ∀ x j, qI (newO hp0 8 0 11) x j = 0 := fun x j => by
    show (if x = 0 + 1 then (0 : Int32) else 0) = 0
    split <;> rfl
  obtain ⟨h3, e3, n3, sa, cm, z3, si, c3, s3⟩ := g_init8 (h := newO hp0 8 0 11) rfl rfl z0
  obtain ⟨h7, e7, n7, x7, lm, j7, j5, j6, j1, c7, s7⟩ := g_init9 (h := newO h3 9 0 34) (M := 632) (by show qN h3 + 1 = 632; omega) (by decide) (by decide) (nO_t (by omega))
  have xa : EX (fun x j => (x = 632 ∧ j = 7) ∨ (x = 632 + 1 ∧ j ≤ 2) ∨ x = 632 + 5 ∨ x = 632 + 6) (fun x _ => x = 632) h3 (newO h7 21 1 1) := (EX.nO.tr x7).tr EX.nO
  have xb : EX (fun _ _ => False) (fun _ _ => False) h7 (newO h7 21 1 1) := EX.nO
  obtain ⟨h, eh⟩ : ∃ z, z = newO h7 21 1 1 := ⟨_, rfl⟩
  have nh : qN h = 656 := by rw [eh]; show qN h7 + 1 = 656; omega
  rw [← eh] at xa xb
  have xf : EX (fun x _ => 632 ≤ x) (fun x _ => 632 ≤ x) h3 h := xa.mo (fun x j z => by omega) (fun x j _ z => by omega)
  have sl := sa.ex xf (fun x j z1 z2 => by omega)
  have hi : ∀ x j, (x < 2 ∨ 566 ≤ x) → x ≤ 631 → ¬ (x = 566 ∧ j = 4) → qI h x j = 0 := fun x j z1 z2 z4 => (xf.2.2.1 x j (by omega) (fun z => by omega)).trans (z3 x j z1 z4)
  have hr : ∀ x j, 632 ≤ x → ¬ ((x = 632 ∧ j = 7) ∨ (x = 632 + 1 ∧ j ≤ 2) ∨ x = 632 + 5 ∨ x = 632 + 6) → qI h x j = 0 := fun x j z1 z2 => xa.2.2.2.1 x j z2 (z3 x j (by omega) (by omega))
  have hs : ∀ x j, x ≤ 655 → qI h x j = qI h7 x j := fun x j z1 => xb.2.2.1 x j (by omega) id
  have bF : bN (rH R00 = true) = 0 := bN0.mpr (fun z => Bool.noConfusion z)
  have bK : ∀ c, bN (rK R00 c ≠ -1) = 0 := fun c => bN0.mpr (fun z => z rfl)
  have SS : SL h := by
    obtain ⟨a1, a2, a3, a4, a5, ⟨p1, p2, p3, p4, p5, p6⟩, a7⟩ := sl
    refine ⟨a1, a2, a3, a4, a5, ⟨p1, p2, fun c hc => ?_⟩, a7, ⟨okr_ex xb lm.1, ?_⟩, ⟨⟨by decide, by omega⟩, ?_⟩, ?_⟩
    · have : c = 0 ∨ c = 1 := by omega
      rcases this with rfl | rfl
      · exact ⟨p3, p5⟩
      · exact ⟨p4, p6⟩
    · have q : FD h 632 tblM := FD.ex (L := tblM) lm.2 xb (by omega) (fun _ _ z => z)
      exact q
    · rw [eh]
      exact nO_t (by omega)
    · rw [eh]
      exact if_pos (by omega)
  have CC : CI h D00 := by
    refine ⟨CM_ex xf n3 cm, (hi 1 7 (by omega) (by omega) (by omega)).trans bF.symm, fun z => Bool.noConfusion z, ⟨(hi 566 1 (by omega) (by omega) (by omega)).trans rfl, (xf.2.2.1 566 4 (by omega) (fun z => by omega)).trans si, fun k (k0 : 0 ≤ k) (k1 : k < 0) => by omega⟩, fun c hc => ⟨(hi _ _ (by omega) (by omega) (by omega)).trans (bK _).symm, fun z => absurd rfl z, (hi _ _ (by omega) (by omega) (by omega)).trans rfl, fun k _ _ => (hi _ _ (by omega) (by omega) (by omega)).trans rfl, fun p _ _ z => Bool.noConfusion z⟩⟩
  have RR0 : RI h D00 := by
    refine ⟨fun k k0 k1 => ?_, (hr 632 4 (by omega) (by omega)).trans bF.symm, fun z => Bool.noConfusion z, ⟨(hr 632 6 (by omega) (by omega)).trans rfl, (hs 632 7 (by omega)).trans j7, fun k (k0 : 0 ≤ k) (k1 : k < 0) => by omega⟩, fun k k0 k1 => ?_, fun k k0 k1 => ?_, fun k k0 k1 => (hr 639 _ (by omega) (by omega)).trans rfl, fun k k0 k1 => (hr 640 _ (by omega) (by omega)).trans rfl⟩
    · by_cases q0 : k = 0
      · rw [q0]; exact (hs 633 0 (by omega)).trans j1.1
      · by_cases q1 : k = 1
        · rw [q1]; exact (hs 633 1 (by omega)).trans j1.2.1
        · by_cases q2 : k = 2
          · rw [q2]; exact (hs 633 2 (by omega)).trans j1.2.2
          · show qI h 633 k.toNat = iN (m00 k)
            rw [m00_0 (by omega), hr 633 k.toNat (by omega) (by omega)]
            rfl
    · have : k = 0 ∨ k = 1 := by omega
      rcases this with rfl | rfl
      · exact (hs 637 0 (by omega)).trans j5.1
      · exact (hs 637 1 (by omega)).trans j5.2
    · have : k = 0 ∨ k = 1 := by omega
      rcases this with rfl | rfl
      · exact (hs 638 0 (by omega)).trans j6.1
      · exact (hs 638 1 (by omega)).trans j6.2
  have cs : qC h = qC h7 + 1 ∧ qS h = qS h7 + 1 := by rw [eh]; exact ⟨rfl, rfl⟩
  have cs7 : qC h7 = qC h3 + 1 + 23 ∧ qS h7 = qS h3 + 34 + 3468 := ⟨c7, s7⟩
  have cs3 : qC h3 ≤ 1 + 700 ∧ qS h3 ≤ 11 + 9000 := ⟨c3, s3⟩
  refine ⟨h, ?_, SS, CC, RR0, by omega, by omega⟩
  unfold f_L_law
  rw [chk_pos (show qN hp0 + 1 < 1000000 by decide), lt_is, show qN hp0 + 1 = 1 from rfl, e3, bnd_ret, chk_pos (show qN h3 + 1 < 1000000 by omega), lt_is, show qN h3 + 1 = 632 by omega, e7, bnd_ret, chk_pos (show qN h7 + 1 < 1000000 by omega), lt_is, show qN h7 + 1 = 656 by omega, ← eh]
