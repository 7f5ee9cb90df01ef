/-! ===== Strings and rows of rows ===== -/
section XS
variable {l : Launch} {K : Ctx} {M : Mi} {tg : Tg} {pc : Nat} {ls : List (Nat × Value)} {st : List Value} {h : Hp}
theorem x_bret {v : Int32} (hr : mR M = some .byte) (hv : narrow .byte (.int v) = .int v) (d : decode (mB M) pc = .ok (.ireturn, 1)) : X l K M (h, .inr (some (.int v))) pc ls [.int v] h :=
  X.end9 (v := some (.int v)) [.int v] (fun n ls' w x hx => by cases hx; trivial) fun p e R s m args below meth c H locs cells slots Qc free σ la F hq hf => W.zret F.ex F.cc (F.rt.trans hr) hv hq hf d F.lk
theorem x_gstC {i : Nat} (w : Cond.fieldLink (mO M) i "java/lang/String" "COMPACT_STRINGS" "Z" ∈ AW) (d : decode (mB M) pc = .ok (.getstatic i, 3)) (kx : X l K M tg (pc + 3) ls (.int 1 :: st) h) : X l K M tg pc ls st h :=
  X.same kx (fun w => wf_num trivial w) fun p e R s m args below meth c H locs cells slots Q σ la F S Hm hl rf rl kk =>
    va_gets F.ex F.cc F.bs.2.2.2.2.1 S F.ow (F.ts _ w) (fun _ q => q) d (kk la hl)
theorem x_gstF {i : Nat} (w : Cond.fieldLink (mO M) i "jdk/internal/util/Preconditions" "SIOOBE_FORMATTER" "Ljava/util/function/BiFunction;" ∈ AW) (d : decode (mB M) pc = .ok (.getstatic i, 3)) (kx : X l K M tg (pc + 3) ls (fV K :: st) h) : X l K M tg pc ls st h :=
  X.same kx (fun w => wf_val (by unfold fV; split; trivial; exact Or.inr (by decide)) w) fun p e R s m args below meth c H locs cells slots Q σ la F S Hm hl rf rl kk => by
    have e1 : cv σ (fV K) = fR K := by
      unfold fV fR
      split
      · rfl
      · show Value.ref (σ 4000000) = _
        rw [Hm.2.2.2.1.2.2]
    have k9 := kk la hl
    rw [List.map_cons, e1] at k9
    exact va_gets F.ex F.cc F.bs.2.1.2.2 S F.ow (F.ts _ w) (fun _ q => q) d k9
theorem x_getSV {i j : Nat} (hj : j < strN) (w : Cond.fieldLink (mO M) i "java/lang/String" "value" "[B" ∈ AW) (d : decode (mB M) pc = .ok (.getfield i, 3)) (kx : X l K M tg (pc + 3) ls (.ref (3000000 + j) :: st) h) : X l K M tg pc ls (.ref (1000000 + j) :: st) h :=
  X.same kx (fun w => wf_val (Or.inr (Nat.le_trans (by decide : 1000000 ≤ 3000000) (Nat.le_add_right _ _))) (wf_pop w)) fun p e R s m args below meth c H locs cells slots Q σ la F S Hm hl rf rl kk => by
    have e1 : cv σ (.ref (1000000 + j)) = .ref (kK K j) := by show Value.ref (σ (1000000 + j)) = _; rw [Hm.2.2.2.1.1 j hj]
    have e2 : cv σ (.ref (3000000 + j)) = .ref (kV K j) := by show Value.ref (σ (3000000 + j)) = _; rw [Hm.2.2.2.1.2.1 j hj]
    have k9 := kk la hl
    rw [List.map_cons, e2] at k9
    rw [List.map_cons, e1]
    exact vk_getf F.ex F.cc (F.bs.2.2.2.1.1 j hj).2.2.1 S F.ow (F.ts _ w) (fun _ q => q) d k9
theorem x_getSC {i j : Nat} (hj : j < strN) (w : Cond.fieldLink (mO M) i "java/lang/String" "coder" "B" ∈ AW) (d : decode (mB M) pc = .ok (.getfield i, 3)) (kx : X l K M tg (pc + 3) ls (.int 0 :: st) h) : X l K M tg pc ls (.ref (1000000 + j) :: st) h :=
  X.same kx (fun w => wf_num trivial (wf_pop w)) fun p e R s m args below meth c H locs cells slots Q σ la F S Hm hl rf rl kk => by
    have e1 : cv σ (.ref (1000000 + j)) = .ref (kK K j) := by show Value.ref (σ (1000000 + j)) = _; rw [Hm.2.2.2.1.1 j hj]
    rw [List.map_cons, e1]
    exact vk_getf F.ex F.cc (F.bs.2.2.2.1.1 j hj).2.1 S F.ow (F.ts _ w) (fun _ q => q) d (kk la hl)
theorem x_blen {j : Nat} (hj : j < strN) (d : decode (mB M) pc = .ok (.arraylength, 1)) (kx : X l K M tg (pc + 1) ls (.int (Int32.ofNat (strL.getD j 0)) :: st) h) : X l K M tg pc ls (.ref (3000000 + j) :: st) h :=
  X.same kx (fun w => wf_num trivial (wf_pop w)) fun p e R s m args below meth c H locs cells slots Q σ la F S Hm hl rf rl kk => by
    have e2 : cv σ (.ref (3000000 + j)) = .ref (kV K j) := by show Value.ref (σ (3000000 + j)) = _; rw [Hm.2.2.2.1.2.1 j hj]
    rw [List.map_cons, e2]
    exact va_tlen F.ex F.cc (F.bs.2.2.2.1.1 j hj).2.2.2 S rfl d (kk la hl)
theorem x_bbld {j : Nat} {z : Int32} (hj : j < strN) (hz : vp_in z (strL.getD j 0)) (d : decode (mB M) pc = .ok (.baload, 1)) (kx : X l K M tg (pc + 1) ls (.int ((strB.getD j []).getD z.toNatClampNeg 0) :: st) h) : X l K M tg pc ls (.int z :: .ref (3000000 + j) :: st) h :=
  X.same kx (fun w => wf_num trivial (wf_pop (wf_pop w))) fun p e R s m args below meth c H locs cells slots Q σ la F S Hm hl rf rl kk => by
    have e2 : cv σ (.ref (3000000 + j)) = .ref (kV K j) := by show Value.ref (σ (3000000 + j)) = _; rw [Hm.2.2.2.1.2.1 j hj]
    rw [List.map_cons, List.map_cons, e2]
    exact va_tb F.ex F.cc (F.bs.2.2.2.1.1 j hj).2.2.2 S hz rfl d (kk la hl)
/-- a call on a String -/
theorem x_callSt {y : MethodName} {cw : Cond} {bytes : ByteArray} {maxL n i j dc : Nat} {ret : Option FieldType} {as st0 : List Value} {h1 : Hp} {v : Value} (cn : Ctr l K dc y cw (.ref (1000000 + j) :: as) h (h1, .inr (some v))) (hj : j < strN) (mf : MF y cw bytes maxL ret n) (hcy : y.cls = "java/lang/String") (w1 : Cond.instanceMethod y ∈ AW) (w2 : Cond.selects y.cls y y ∈ AW) (q : Cond.methodLink (mO M) i y ∈ AW)
    (d : decode (mB M) pc = .ok (.invokevirtual i, 3)) (hd : dc + 1 ≤ mD M) (hn : as.length = n) (hs0 : st0 = as.reverse ++ .ref (1000000 + j) :: st) (hs : (st.map fun v => v.category).sum ≤ 8)
    (kr : X l K M tg (pc + 3) ls (v :: st) h1) : X l K M tg pc ls st0 h := by
  obtain ⟨⟨rfl, hcw, hmx⟩, hini, hmh, hpd⟩ := mf
  subst hs0
  refine X.call (o := .inr (some v)) (a9 := fun σ => (Value.ref (σ (1000000 + j)) :: as.map (cv σ)).toArray) cn.1 (fun n w => ⟨w.1, fun v hv => w.2 v (List.mem_append_right _ (List.mem_cons_of_mem _ hv))⟩) ?_ kr.1 (fun v' e => by cases e; exact kr) (fun k e => nomatch e)
  intro p e R s m args below meth c H locs cells slots σ la F S Hm hl hw hC hSl rf rl
  have hM9 := cn.2 (fun v hv => by rcases List.mem_cons.mp hv with q | q; exact q ▸ Or.inr (Nat.le_add_right _ _); exact hw.2 v (List.mem_append_left _ (List.mem_reverse.mpr q))) σ
  have hok : ∀ w ∈ (Cond.code y bytes maxL ret :: AW), ∀ (a' : Array Value) (U : State), s.WarmedH U.vm → w.before a' U = true := pay_in F.ts (AW_good hcw)
  have hlen : ∀ sig, parseMethodDescriptor y.desc = some sig → n = sig.parameters.length := fun sig q => by rw [q] at hpd; exact (Option.some.inj hpd).symm
  have hrec := vk_recv F.bs.2.2.2.1 hj S
  rw [← Hm.2.2.2.1.1 j hj, ← hcy] at hrec
  have hpre : PreV s H y.cls (σ (1000000 + j)) (PcX K σ h (.ref (1000000 + j) :: as)) (as.map (cv σ)) := ⟨PcX.blind, hrec, PcX.pre F.bs S Hm⟩
  have hst9 : (as.reverse ++ Value.ref (1000000 + j) :: st).map (cv σ) = (as.map (cv σ)).reverse ++ .ref (σ (1000000 + j)) :: st.map (cv σ) := by simp [List.map_append, List.map_reverse, cv]
  rw [hst9]
  have hloc : 8 + (maxL + 11) + (rmD dc (qC h1 - qC h) (qS h1 - qS h)).locals ≤ R.locals := by rw [rl]; show _ + 100 * dc ≤ _; omega
  have hfr : (rmD dc (qC h1 - qC h) (qS h1 - qS h)).frames + 1 ≤ R.frames := by rw [rf]; exact hd
  exact vx_runV (C := y.cls) (n := n) ⟨F.ex, F.cc, F.ml, F.ow, F.ts⟩ hM9 ⟨⟨rfl, rfl, hfr, hloc, hok, List.mem_cons_self, F.ts _ hcw, F.ts _ hini, hmh, hlen, F.ts _ q⟩, F.ts _ w1, F.ts _ w2⟩ hpre rfl (by rw [List.length_map]; exact hn) hl.1 rfl (lv_room (st_cat hs)) d ⟨hC, hSl⟩
end XS
/-! Strings: their number is their address less a million -/
def okS (a : Nat) : Prop := 1000000 ≤ a ∧ a < 1000000 + strN
def sLn (a : Nat) : Nat := strL.getD (a - 1000000) 0
def sLen (a : Nat) : Int32 := Int32.ofNat (sLn a)
def sCh (a i : Nat) : Int32 := (strB.getD (a - 1000000) []).getD i 0
section XS2
variable {l : Launch} {K : Ctx} {M : Mi} {tg : Tg} {pc : Nat} {ls : List (Nat × Value)} {st : List Value} {h : Hp}
theorem leb0 {a b : Nat} (h : Nat.ble a b = true) : a ≤ b := Nat.le_of_ble_eq_true h
theorem mf_coder : MF yJ0_coder_7d493 (Cond.code yJ0_coder_7d493 cJ0_coder_7d493 1 (some .byte)) cJ0_coder_7d493 1 (some .byte) 0 := ⟨⟨rfl, tw_4_182, by decide⟩, tw_1_19, ⟨by decide, by decide⟩, by decide +kernel⟩
theorem c_coder (hl : l.stackTraces = false) {j : Nat} (hj : j < strN) : Ctr l K 8 yJ0_coder_7d493 (Cond.code yJ0_coder_7d493 cJ0_coder_7d493 1 (some .byte)) [.ref (1000000 + j)] h (h, .inr (some (.int 0))) := by
  refine Ctr.of hl mf_coder false (fun q => nomatch q) rfl (leb0 rfl) ?_
  refine x_gstC (pc := 0) tw_4_183 dJ0_coder_7d493_0 ?_
  refine x_if_eq_f (pc := 3) (t := 13) dJ0_coder_7d493_3 (by decide) (by decide) ?_
  refine x_aload_n (pc := 6) 0 dJ0_coder_7d493_6 rfl ?_
  refine x_getSC (pc := 7) hj tw_9_52 dJ0_coder_7d493_7 ?_
  refine x_goto (pc := 10) (t := 14) dJ0_coder_7d493_10 (by decide) ?_
  exact x_bret (pc := 14) rfl rfl dJ0_coder_7d493_14
theorem mf_isL : MF yJ0_isLatin1_aae02 (Cond.code yJ0_isLatin1_aae02 cJ0_isLatin1_aae02 1 (some .boolean)) cJ0_isLatin1_aae02 1 (some .boolean) 0 := ⟨⟨rfl, tw_4_192, by decide⟩, tw_1_19, ⟨by decide, by decide⟩, by decide +kernel⟩
theorem c_isL (hl : l.stackTraces = false) {j : Nat} (hj : j < strN) : Ctr l K 8 yJ0_isLatin1_aae02 (Cond.code yJ0_isLatin1_aae02 cJ0_isLatin1_aae02 1 (some .boolean)) [.ref (1000000 + j)] h (h, .inr (some (.int 1))) := by
  refine Ctr.of hl mf_isL false (fun q => nomatch q) rfl (leb0 rfl) ?_
  refine x_gstC (pc := 0) tw_4_183 dJ0_isLatin1_aae02_0 ?_
  refine x_if_eq_f (pc := 3) (t := 17) dJ0_isLatin1_aae02_3 (by decide) (by decide) ?_
  refine x_aload_n (pc := 6) 0 dJ0_isLatin1_aae02_6 rfl ?_
  refine x_getSC (pc := 7) hj tw_9_52 dJ0_isLatin1_aae02_7 ?_
  refine x_if_ne_f (pc := 10) (t := 17) dJ0_isLatin1_aae02_10 (by decide) rfl ?_
  refine x_iconst (pc := 13) dJ0_isLatin1_aae02_13 ?_
  refine x_goto (pc := 14) (t := 18) dJ0_isLatin1_aae02_14 (by decide) ?_
  exact x_zret (pc := 18) rfl (Or.inr rfl) dJ0_isLatin1_aae02_18
theorem mf_slen : MF yJ0_length_8abf5 (Cond.code yJ0_length_8abf5 cJ0_length_8abf5 1 (some .int)) cJ0_length_8abf5 1 (some .int) 0 := ⟨⟨rfl, tw_4_178, by decide⟩, tw_1_19, ⟨by decide, by decide⟩, by decide +kernel⟩
theorem shr_ok : ∀ j, j < strN → Int32.ofNat (strL.getD j 0) >>> ((0 : Int32) &&& 31) = Int32.ofNat (strL.getD j 0) := by decide +kernel
theorem c_slen (hl : l.stackTraces = false) {j : Nat} (hj : j < strN) : Ctr l K 9 yJ0_length_8abf5 (Cond.code yJ0_length_8abf5 cJ0_length_8abf5 1 (some .int)) [.ref (1000000 + j)] h (h, .inr (some (.int (Int32.ofNat (strL.getD j 0))))) := by
  refine Ctr.of hl mf_slen false (fun q => nomatch q) rfl (leb0 rfl) ?_
  refine x_aload_n (pc := 0) 0 dJ0_length_8abf5_0 rfl ?_
  refine x_getSV (pc := 1) hj tw_9_51 dJ0_length_8abf5_1 ?_
  refine x_blen (pc := 4) hj dJ0_length_8abf5_4 ?_
  refine x_aload_n (pc := 5) 0 dJ0_length_8abf5_5 rfl ?_
  refine x_callSt (pc := 6) (c_coder hl hj) hj mf_coder rfl tw_4_180 tw_4_181 tw_4_179 dJ0_length_8abf5_6 (by decide) rfl rfl (leb0 rfl) ?_
  refine x_ishr (pc := 9) dJ0_length_8abf5_9 ?_
  rw [shr_ok j hj]
  exact x_iret (pc := 10) rfl dJ0_length_8abf5_10
theorem mf_pci : MF yJ3_checkIndex_8e157 (Cond.code yJ3_checkIndex_8e157 cJ3_checkIndex_8e157 3 (some .int)) cJ3_checkIndex_8e157 3 (some .int) 3 := ⟨⟨rfl, tw_4_203, by decide⟩, tw_1_23, ⟨by decide, by decide⟩, by decide +kernel⟩
theorem c_pci (hl : l.stackTraces = false) {z n : Int32} {v : Value} (hv : v = .null ∨ ∃ f, v = .ref f) (h0 : ¬ z < 0) (h1 : z < n) : Ctr l K 8 yJ3_checkIndex_8e157 (Cond.code yJ3_checkIndex_8e157 cJ3_checkIndex_8e157 3 (some .int)) [.int z, .int n, v] h (h, .inr (some (.int z))) := by
  have hsl : slN [.int z, .int n, v] ≤ 3 := by rcases hv with rfl | ⟨f, rfl⟩ <;> exact leb0 rfl
  refine Ctr.of hl mf_pci false (fun q => nomatch q) rfl hsl ?_
  refine x_iload_n (pc := 0) 0 dJ3_checkIndex_8e157_0 rfl ?_
  refine x_if_lt_f (pc := 1) (t := 9) dJ3_checkIndex_8e157_1 (by decide) h0 ?_
  refine x_iload_n (pc := 4) 0 dJ3_checkIndex_8e157_4 rfl ?_
  refine x_iload_n (pc := 5) 1 dJ3_checkIndex_8e157_5 rfl ?_
  refine x_icmp_lt_t (pc := 6) (t := 16) dJ3_checkIndex_8e157_6 (by decide) h1 ?_
  refine x_iload_n (pc := 16) 0 dJ3_checkIndex_8e157_16 rfl ?_
  exact x_iret (pc := 17) rfl dJ3_checkIndex_8e157_17
theorem fV_or : fV K = .null ∨ ∃ f, fV K = .ref f := by unfold fV; split; exact Or.inl rfl; exact Or.inr ⟨_, rfl⟩
theorem mf_sci : MF yJ0_checkIndex_df160 (Cond.code yJ0_checkIndex_df160 cJ0_checkIndex_df160 2 none) cJ0_checkIndex_df160 2 none 2 := ⟨⟨rfl, tw_4_198, by decide⟩, tw_1_19, ⟨by decide, by decide⟩, by decide +kernel⟩
theorem c_sci (hl : l.stackTraces = false) {z n : Int32} (h0 : ¬ z < 0) (h1 : z < n) : Ctr l K 9 yJ0_checkIndex_df160 (Cond.code yJ0_checkIndex_df160 cJ0_checkIndex_df160 2 none) [.int z, .int n] h (h, .inr none) := by
  refine Ctr.of hl mf_sci false (fun q => nomatch q) rfl (leb0 rfl) ?_
  refine x_iload_n (pc := 0) 0 dJ0_checkIndex_df160_0 rfl ?_
  refine x_iload_n (pc := 1) 1 dJ0_checkIndex_df160_1 rfl ?_
  refine x_gstF (pc := 2) tw_4_199 dJ0_checkIndex_df160_2 ?_
  refine x_callS_r (pc := 5) (as := [.int z, .int n, fV K]) mf_pci tw_4_202 (Or.inl tw_4_201) dJ0_checkIndex_df160_5 (dc := 8) (by decide) rfl rfl (leb0 rfl) (c_pci hl fV_or h0 h1) rfl ?_
  refine x_pop (pc := 8) (v := .int z) dJ0_checkIndex_df160_8 rfl ?_
  exact x_vret (pc := 9) rfl dJ0_checkIndex_df160_9
theorem mf_lca : MF yJ1_charAt_3b067 (Cond.code yJ1_charAt_3b067 cJ1_charAt_3b067 2 (some .char)) cJ1_charAt_3b067 2 (some .char) 2 := ⟨⟨rfl, tw_4_195, by decide⟩, tw_1_22, ⟨by decide, by decide⟩, by decide +kernel⟩
theorem ch_ok : ∀ j, j < strN → ∀ k, k < strL.getD j 0 → (Int32.toUInt32 ((strB.getD j []).getD k 0 &&& (Int16.ofInt 255).toInt32) % 65536).toInt32 = (strB.getD j []).getD k 0 ∧ narrow .char (.int ((strB.getD j []).getD k 0)) = .int ((strB.getD j []).getD k 0) := by decide +kernel
theorem len_ok : ∀ j, j < strN → strL.getD j 0 < 100 := by decide +kernel
theorem in_of {z : Int32} {n : Nat} (hn : n < 100) (hz : vp_in z n) : ¬ z < 0 ∧ z < Int32.ofNat n ∧ z.toNatClampNeg < n := by
  have h1 : ¬ z < 0 := fun q => hz (Or.inl q)
  have h2 : z.toNatClampNeg < n := Nat.not_le.mp fun q => hz (Or.inr q)
  refine ⟨h1, ?_, h2⟩
  have h3 : (0 : Int) ≤ z.toInt := by simpa using Int32.le_iff_toInt_le.mp (Int32.not_lt.mp h1)
  have h4 : z.toInt.toNat < n := h2
  rw [Int32.lt_iff_toInt_lt, Int32.toInt_ofNat_small (by omega)]
  omega
theorem c_lca (hl : l.stackTraces = false) {j : Nat} {z : Int32} (hj : j < strN) (hz : vp_in z (strL.getD j 0)) : Ctr l K 10 yJ1_charAt_3b067 (Cond.code yJ1_charAt_3b067 cJ1_charAt_3b067 2 (some .char)) [.ref (3000000 + j), .int z] h (h, .inr (some (.int ((strB.getD j []).getD z.toNatClampNeg 0)))) := by
  obtain ⟨h0, h1, h2⟩ := in_of (len_ok j hj) hz
  refine Ctr.of hl mf_lca false (fun q => nomatch q) rfl (leb0 rfl) ?_
  refine x_iload_n (pc := 0) 1 dJ1_charAt_3b067_0 rfl ?_
  refine x_aload_n (pc := 1) 0 dJ1_charAt_3b067_1 rfl ?_
  refine x_blen (pc := 2) hj dJ1_charAt_3b067_2 ?_
  refine x_callS_r (pc := 3) (as := [.int z, .int (Int32.ofNat (strL.getD j 0))]) mf_sci tw_4_197 (Or.inl tw_4_196) dJ1_charAt_3b067_3 (dc := 9) (by decide) rfl rfl (leb0 rfl) (c_sci hl h0 h1) rfl ?_
  refine x_aload_n (pc := 6) 0 dJ1_charAt_3b067_6 rfl ?_
  refine x_iload_n (pc := 7) 1 dJ1_charAt_3b067_7 rfl ?_
  refine x_bbld (pc := 8) hj hz dJ1_charAt_3b067_8 ?_
  refine x_sipush (pc := 9) dJ1_charAt_3b067_9 rfl ?_
  refine x_iand (pc := 12) dJ1_charAt_3b067_12 ?_
  refine x_i2c (pc := 13) dJ1_charAt_3b067_13 ?_
  rw [(ch_ok j hj _ h2).1]
  exact x_cret (pc := 14) rfl (ch_ok j hj _ h2).2 dJ1_charAt_3b067_14
theorem mf_sca : MF yJ0_charAt_5068e (Cond.code yJ0_charAt_5068e cJ0_charAt_5068e 2 (some .char)) cJ0_charAt_5068e 2 (some .char) 1 := ⟨⟨rfl, tw_4_188, by decide⟩, tw_1_19, ⟨by decide, by decide⟩, by decide +kernel⟩
theorem c_sca (hl : l.stackTraces = false) {j : Nat} {z : Int32} (hj : j < strN) (hz : vp_in z (strL.getD j 0)) : Ctr l K 11 yJ0_charAt_5068e (Cond.code yJ0_charAt_5068e cJ0_charAt_5068e 2 (some .char)) [.ref (1000000 + j), .int z] h (h, .inr (some (.int ((strB.getD j []).getD z.toNatClampNeg 0)))) := by
  obtain ⟨h0, h1, h2⟩ := in_of (len_ok j hj) hz
  refine Ctr.of hl mf_sca false (fun q => nomatch q) rfl (leb0 rfl) ?_
  refine x_aload_n (pc := 0) 0 dJ0_charAt_5068e_0 rfl ?_
  refine x_callSt (pc := 1) (c_isL hl hj) hj mf_isL rfl tw_4_190 tw_4_191 tw_4_189 dJ0_charAt_5068e_1 (by decide) rfl rfl (leb0 rfl) ?_
  refine x_if_eq_f (pc := 4) (t := 16) dJ0_charAt_5068e_4 (by decide) (by decide) ?_
  refine x_aload_n (pc := 7) 0 dJ0_charAt_5068e_7 rfl ?_
  refine x_getSV (pc := 8) hj tw_9_51 dJ0_charAt_5068e_8 ?_
  refine x_iload_n (pc := 11) 1 dJ0_charAt_5068e_11 rfl ?_
  refine x_callS_r (pc := 12) (as := [.ref (3000000 + j), .int z]) mf_lca tw_4_194 (Or.inl tw_4_193) dJ0_charAt_5068e_12 (dc := 10) (by decide) rfl rfl (leb0 rfl) (c_lca hl hj hz) rfl ?_
  exact x_cret (pc := 15) rfl (ch_ok j hj _ h2).2 dJ0_charAt_5068e_15
theorem okS_j {a : Nat} (ha : okS a) : ∃ j, j < strN ∧ a = 1000000 + j := ⟨a - 1000000, by have := ha.1; have := ha.2; omega, by have := ha.1; omega⟩
theorem x_strLen {i a : Nat} (hl : l.stackTraces = false) (ha : okS a) (w : Cond.methodLink (mO M) i ⟨"java/lang/String", "length", "()I"⟩ ∈ AW) (d : decode (mB M) pc = .ok (.invokevirtual i, 3)) (hd : 10 ≤ mD M) (hs : (st.map fun v => v.category).sum ≤ 8) (kx : X l K M tg (pc + 3) ls (.int (sLen a) :: st) h) : X l K M tg pc ls (.ref a :: st) h := by
  obtain ⟨j, hj, rfl⟩ := okS_j ha
  refine x_callSt (c_slen hl hj) hj mf_slen rfl tw_4_176 tw_4_177 w d hd rfl rfl hs ?_
  have e : sLen (1000000 + j) = Int32.ofNat (strL.getD j 0) := by unfold sLen sLn; rw [Nat.add_sub_cancel_left]
  rw [← e]; exact kx
theorem x_strAt {i a : Nat} {z : Int32} (hl : l.stackTraces = false) (ha : okS a) (hz : vp_in z (sLn a)) (w : Cond.methodLink (mO M) i ⟨"java/lang/String", "charAt", "(I)C"⟩ ∈ AW) (d : decode (mB M) pc = .ok (.invokevirtual i, 3)) (hd : 12 ≤ mD M) (hs : (st.map fun v => v.category).sum ≤ 8) (kx : X l K M tg (pc + 3) ls (.int (sCh a z.toNatClampNeg) :: st) h) : X l K M tg pc ls (.int z :: .ref a :: st) h := by
  obtain ⟨j, hj, rfl⟩ := okS_j ha
  have e : sLn (1000000 + j) = strL.getD j 0 := by unfold sLn; rw [Nat.add_sub_cancel_left]
  rw [e] at hz
  refine x_callSt (as := [.int z]) (c_sca hl hj hz) hj mf_sca rfl tw_4_186 tw_4_187 w d hd rfl rfl hs ?_
  have e : sCh (1000000 + j) z.toNatClampNeg = (strB.getD j []).getD z.toNatClampNeg 0 := by unfold sCh; rw [Nat.add_sub_cancel_left]
  rw [← e]; exact kx
theorem hw_newB {t t2 n k : Nat} (hw : Hw h) : Hw (newB h t t2 n k) := fun x j hx => by
  show (if x = qN h + 1 then (if j < n then qN h + 2 + j else 0) else if qN h + 1 < x ∧ x ≤ qN h + 1 + n then 0 else qR h x j) ≤ qN h + 1 + n
  have hx' : x ≤ qN h + 1 + n := hx
  split
  · split <;> omega
  · split
    · omega
    · have := hw x j (by omega); omega
theorem inn_eq (c : ClassId) (k : Nat) : Jvm.Free.Multi.innerC c k (defaultValue .int) = vp_cell c (k, .inl (fun _ => 0)) := by
  show ({ cls := c, slots := Array.replicate k (Value.int 0), vm := .none } : Cell) = { cls := c, slots := Array.ofFn (n := k) fun _ => Value.int 0, vm := .none }
  congr 1
  apply Array.ext
  · simp
  · intro i h1 h2; simp
theorem x_mna {i n k : Nat} {x y : Int32} (w1 : Cond.classLink (mO M) i "[[I" ∈ AW) (w2 : Cond.arrayClass .int ∈ AW) (d : decode (mB M) pc = .ok (.multianewarray i 2, 4)) (h1 : ¬ x < 0) (h2 : x.toNatClampNeg = n) (h3 : ¬ y < 0) (h4 : y.toNatClampNeg = k) (hb : n ≤ 10000 ∧ k ≤ 10000) (hn : qN h + 1 + n < 1000000) (kx : X l K M tg (pc + 4) ls (.ref (qN h + 1) :: st) (newB h 24 20 n k)) : X l K M tg pc ls (.int y :: .int x :: st) h := by
  obtain ⟨b1, b2, b3⟩ := kx.1
  have b1' : qC h + 1 + n ≤ qC tg.1 := b1
  have b2' : qS h + n + n * k ≤ qS tg.1 := b2
  have b3' : qN h + 1 + n ≤ qN tg.1 := b3
  refine ⟨⟨by omega, by omega, by omega⟩, ?_⟩
  intro p e s m args below meth c H locs c0 s0 n0 σ0 σ la hF h0 hE hS hM hl hw
  have hg0 : s.vm.findClass (FieldType.array .int).toString = some (kG K 0) := tys_find hF.bs (t := 0) (ty := .int) rfl
  have hg4 : s.vm.findClass ("[" ++ (FieldType.array .int).toString) = some (kG K 4) := tys_find hF.bs (t := 4) (ty := .array .int) rfl
  refine va_mna (X := kW (kG K) σ h) (L := []) (f := fun _ => .inl (0, 0, .inl fun _ => 0)) (z := (k, .inl (fun _ => 0))) (cy := kG K 0) (A := kA K) (D := kD K) (cl := kCl) (tys := tysG (kG K)) (ty := .int) hF.ex hF.cc hF.ow (hF.ts _ w1) hF.bs.1.2.1.2.1.2.2.2 (hF.ts _ w2) hg0 hF.bs.K (by rw [show va_pl ([] : List Nat) (fun _ => (.inl (0, 0, .inl fun _ => 0) : va_E)) = [] from rfl, List.append_nil]; exact hM.1.1) (by rw [show va_pl ([] : List Nat) (fun _ => (.inl (0, 0, .inl fun _ => 0) : va_E)) = [] from rfl, List.append_nil]; exact hM.1.2) hS (fun q hq => Nat.le_trans hF.bs.2.2.2.2.2 hq) h1 h3 h2 h4 (by omega) (by show k * 4 ≤ _; omega) (by omega) rfl rfl (by show _ ≤ qC tg.1 - c0; omega) (by show _ ≤ qS tg.1 - s0; omega) (fun c => inn_eq c k) d ?_
  intro q r cA H1 hinj hr hK hP hD hS1
  have hcA : cA = kG K 4 := by
    have h9 := (hK.2 (tysG (kG K)).length (cA, .array .int) (by simp [tysG])).2
    exact Option.some.inj (Eq.trans (Eq.symm h9) hg4)
  subst hcA
  have hE1 : Ex (qN h) σ (fun x => if x = qN h + 1 then q else if qN h + 1 < x ∧ x ≤ qN h + 1 + n then r (x - (qN h + 2)) else σ x) := fun x hx => by
    show (if x = qN h + 1 then q else if qN h + 1 < x ∧ x ≤ qN h + 1 + n then r (x - (qN h + 2)) else σ x) = σ x
    rw [if_neg (by omega), if_neg (by omega)]
  generalize hσ : (fun x => if x = qN h + 1 then q else if qN h + 1 < x ∧ x ≤ qN h + 1 + n then r (x - (qN h + 2)) else σ x) = σ' at hE1
  have hs1 : σ' (qN h + 1) = q := by rw [← hσ]; exact if_pos rfl
  have hs2 : ∀ j, j < n → σ' (qN h + 2 + j) = r j := fun j hj => by
    rw [← hσ]
    show (if qN h + 2 + j = qN h + 1 then q else if qN h + 1 < qN h + 2 + j ∧ qN h + 2 + j ≤ qN h + 1 + n then r (qN h + 2 + j - (qN h + 2)) else σ (qN h + 2 + j)) = r j
    rw [if_neg (by omega), if_pos (by omega), Nat.add_sub_cancel_left]
  have hlist : (kW (kG K) σ h ++ [(q, .inl (kG K 4, n, .inr (.inr (.inr (.inr (fun i => if i < n then some (r i) else none))))))]) ++ va_pl ([] ++ (List.range n).map r) (vr_up (fun _ => (.inl (0, 0, .inl fun _ => 0) : va_E)) ((List.range n).map r) (.inl (kG K 0, k, .inl (fun _ => 0)))) = kW (kG K) σ' (newB h 24 20 n k) := by
    unfold kW
    rw [show qN (newB h 24 20 n k) = qN h + 1 + n from rfl, List.range_add, List.map_append, List.range_succ, List.map_append]
    congr 1
    · congr 1
      · apply List.map_congr_left
        intro z hz
        have hz' := List.mem_range.mp hz
        rw [hE1 (z + 1) (Or.inl (by omega))]
        have e9 := kE_ex (G := kG K) (h := h) (h' := newB h 24 20 n k) (x := z + 1) hE1 (fun j => hM.2.2.1 (z + 1) j (by omega)) ((if_neg (by omega)).trans (if_neg (by omega))) ((if_neg (by omega)).trans (if_neg (by omega))) (fun j => if_neg (by omega)) (fun j => rfl) (fun j => (if_neg (by omega)).trans (if_neg (by omega)))
        rw [e9]
      · simp only [List.map_cons, List.map_nil]
        rw [hs1, kE_24 (t := 0) (show qT (newB h 24 20 n k) (qN h + 1) = 24 + 0 from if_pos rfl)]
        have e8 : qW (newB h 24 20 n k) (qN h + 1) = n := if_pos rfl
        rw [e8]
        congr 9
        funext j
        have e7 : qR (newB h 24 20 n k) (qN h + 1) j = if j < n then qN h + 2 + j else 0 := if_pos rfl
        rw [e7]
        unfold ro
        by_cases hj : j < n
        · rw [if_pos hj, if_pos hj, if_neg (by omega), hs2 j hj]
        · rw [if_neg hj, if_neg hj, if_pos rfl]
    · unfold va_pl
      rw [List.nil_append, List.map_map, List.map_map]
      apply List.map_congr_left
      intro z hz
      have hz' := List.mem_range.mp hz
      show (r z, vr_up _ _ _ (r z)) = (σ' (qN h + 1 + z + 1), kE (kG K) σ' (newB h 24 20 n k) (qN h + 1 + z + 1))
      rw [vr_up_in (List.mem_map.mpr ⟨z, hz, rfl⟩), show qN h + 1 + z + 1 = qN h + 2 + z by omega, hs2 z hz', kE_20 (show qT (newB h 24 20 n k) (qN h + 2 + z) = 20 from (if_neg (by omega)).trans (if_pos (by omega)))]
      have e8 : qW (newB h 24 20 n k) (qN h + 2 + z) = k := (if_neg (by omega)).trans (if_pos (by omega))
      have e7 : (fun j => qI (newB h 24 20 n k) (qN h + 2 + z) j) = fun _ => 0 := funext fun j => if_pos (by omega)
      rw [e8, e7]
  have w' := wf_pop (wf_pop hw)
  have k9 := kx.2 p e s m args below meth c H1 locs c0 s0 n0 σ0 σ' la hF ⟨by show c0 ≤ qC h + 1 + n; omega, by show s0 ≤ qS h + n + n * k; omega, by show n0 ≤ qN h + 1 + n; omega⟩ (hE.tr h0.2.2 hE1) hS1 ⟨⟨hlist ▸ hP, hlist ▸ hD⟩, hn, hw_newB hM.2.2.1, hM.2.2.2.ex hE1⟩ (by rw [cvL_ex hE1 hw.1]; exact hl) (wf_val (Or.inl (by show qN h + 1 ≤ qN h + 1 + n; omega)) (w'.mono (by show qN h ≤ qN h + 1 + n; omega)))
  have e1 : qC (newB h 24 20 n k) - c0 = qC h - c0 + 1 + n := by show qC h + 1 + n - c0 = _; omega
  have e2 : qS (newB h 24 20 n k) - s0 = qS h - s0 + n + n * k := by show qS h + n + n * k - s0 = _; omega
  rw [e1, e2, List.map_cons, cvs_ex hE1 w'.2] at k9
  have e3 : cv σ' (.ref (qN h + 1)) = .ref q := by show Value.ref (σ' (qN h + 1)) = _; rw [hs1]
  rw [e3] at k9
  exact k9
end XS2
