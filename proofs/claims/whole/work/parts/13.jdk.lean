theorem sb_all : ∀ i, i < 18 → ∀ b ∈ (0 : Int32) :: sByt.getD i [], ((b &&& 255).toUInt32 % 65536).toInt32 = b ∧ narrow .char (.int b) = .int b := by decide +kernel
theorem sb_len : ∀ i, i < 18 → sLen.getD i 0 < 8 := by decide +kernel
theorem sb_mem (l : List Int32) (k : Nat) : l.getD k 0 ∈ (0 : Int32) :: l := by
  rw [List.getD_eq_getElem?_getD]
  cases h : l[k]? with
  | none => exact List.mem_cons_self
  | some v => exact List.mem_cons_of_mem _ (List.mem_of_getElem? h)
theorem sb_ch {i : Nat} (hi : i < 18) (k : Int32) : ((sch i k &&& 255).toUInt32 % 65536).toInt32 = sch i k ∧ narrow .char (.int (sch i k)) = .int (sch i k) := sb_all i hi _ (sb_mem _ _)
set_option maxHeartbeats 4000000 in
set_option maxRecDepth 100000 in
theorem cS_coder (l : Launch) (G : GT) (i : Nat) (hi : i < 18) (x m : St) : Mt l yJ0_coder_7d493 cJ0_coder_7d493 1 (some .byte) (rmF 0 0) G x m [.ref (gK G i)] (some (.int 0)) x m := by
  refine Mt.of (by decide) (Nat.le_of_ble_eq_true rfl) ?_
  intro p e s mm args below meth c C ls hl hw
  have hx := C.1
  have hb := C.2.1
  have hown := C.2.2.2.2.1
  have hE := C.2.2.2.2.2.2.2.2.2.2.1
  replace hl : lv_has ls 1 [(0, .ref (gK G i))] := hl
  refine va_gets hx hb hE.2.2.1 hw.2 hown (C.w fl_J0_38) (fun _ h => h) dJ0_coder_7d493_0 ?_
  refine lv_if_eq (tgt := 13) hx hb dJ0_coder_7d493_3 (by decide) (fun hc => absurd hc (by decide)) (fun _ => ?_)
  refine lv_aload_n hx hb dJ0_coder_7d493_6 rfl (lv_at hl 0 rfl) ?_
  refine vk_getf hx hb (hE.1.1 i hi).2.1 hw.2 hown (C.w fl_J0_15) (fun _ h => h) dJ0_coder_7d493_7 ?_
  refine lv_goto (tgt := 14) hx hb dJ0_coder_7d493_10 (by decide) ?_
  exact w_iret C hw rfl rfl dJ0_coder_7d493_14
set_option maxHeartbeats 4000000 in
set_option maxRecDepth 100000 in
theorem cS_isLatin1 (l : Launch) (G : GT) (i : Nat) (hi : i < 18) (x m : St) : Mt l yJ0_isLatin1_aae02 cJ0_isLatin1_aae02 1 (some .boolean) (rmF 0 0) G x m [.ref (gK G i)] (some (.int 1)) x m := by
  refine Mt.of (by decide) (Nat.le_of_ble_eq_true rfl) ?_
  intro p e s mm args below meth c C ls hl hw
  have hx := C.1
  have hb := C.2.1
  have hown := C.2.2.2.2.1
  have hE := C.2.2.2.2.2.2.2.2.2.2.1
  replace hl : lv_has ls 1 [(0, .ref (gK G i))] := hl
  refine va_gets hx hb hE.2.2.1 hw.2 hown (C.w fl_J0_38) (fun _ h => h) dJ0_isLatin1_aae02_0 ?_
  refine lv_if_eq (tgt := 17) hx hb dJ0_isLatin1_aae02_3 (by decide) (fun hc => absurd hc (by decide)) (fun _ => ?_)
  refine lv_aload_n hx hb dJ0_isLatin1_aae02_6 rfl (lv_at hl 0 rfl) ?_
  refine vk_getf hx hb (hE.1.1 i hi).2.1 hw.2 hown (C.w fl_J0_15) (fun _ h => h) dJ0_isLatin1_aae02_7 ?_
  refine lv_if_ne (tgt := 17) hx hb dJ0_isLatin1_aae02_10 (by decide) (fun hc => absurd rfl hc) (fun _ => ?_)
  refine lv_iconst (v := (1 : Int32)) hx hb dJ0_isLatin1_aae02_13 (by decide) ?_
  refine lv_goto (tgt := 18) hx hb dJ0_isLatin1_aae02_14 (by decide) ?_
  exact w_iret C hw rfl rfl dJ0_isLatin1_aae02_18
set_option maxHeartbeats 4000000 in
set_option maxRecDepth 100000 in
theorem cS_length (l : Launch) (G : GT) (i : Nat) (hi : i < 18) (x m : St) : Mt l yJ0_length_8abf5 cJ0_length_8abf5 1 (some .int) (rmF 1 20) G x m [.ref (gK G i)] (some (.int (Int32.ofNat (sLen.getD i 0)))) x m := by
  refine Mt.of (by decide) (Nat.le_of_ble_eq_true rfl) ?_
  intro p e s mm args below meth c C ls hl hw
  have hx := C.1
  have hb := C.2.1
  have hown := C.2.2.2.2.1
  have hE := C.2.2.2.2.2.2.2.2.2.2.1
  replace hl : lv_has ls 1 [(0, .ref (gK G i))] := hl
  have h0 : Int32.ofNat (sLen.getD i 0) >>> ((0 : Int32) &&& 31) = Int32.ofNat (sLen.getD i 0) := by simp
  refine lv_aload_n hx hb dJ0_length_8abf5_0 rfl (lv_at hl 0 rfl) ?_
  refine vk_getf hx hb (hE.1.1 i hi).2.2.1 hw.2 hown (C.w fl_J0_9) (fun _ h => h) dJ0_length_8abf5_1 ?_
  refine va_tlen hx hb (hE.1.1 i hi).2.2.2 hw.2 rfl dJ0_length_8abf5_4 ?_
  refine lv_aload_n hx hb dJ0_length_8abf5_5 rfl (lv_at hl 0 rfl) ?_
  refine w_Vi C hw (As := []) (rest := [.int (Int32.ofNat (sLen.getD i 0))]) (cS_coder l G i hi x m) kv_J0_coder_7d493 ml_J0_335 ⟨rfl, rfl⟩ ⟨Nat.le_of_ble_eq_true rfl, Nat.le_of_ble_eq_true rfl⟩ ⟨Nat.zero_le _, Nat.zero_le _⟩ (w_srecv C hw hi) rfl rfl (Nat.le_of_ble_eq_true rfl) (lv_sub hl [] rfl) dJ0_length_8abf5_6 (fun H locs hw => ?_)
  refine lv_ishr hx hb dJ0_length_8abf5_9 ?_
  rw [h0]
  exact w_iret C hw rfl rfl dJ0_length_8abf5_10
set_option maxHeartbeats 4000000 in
set_option maxRecDepth 100000 in
theorem cS_pcheck (l : Launch) (G : GT) (x m : St) (k nn : Int32) (h1 : ¬ k < 0) (h2 : k < nn) (v : Value) (hv : v = .null ∨ ∃ a, v = .ref a) : Mt l yJ3_checkIndex_8e157 cJ3_checkIndex_8e157 3 (some .int) (rmF 0 0) G x m [.int k, .int nn, v] (some (.int k)) x m := by
  refine Mt.of (by decide) (by rcases hv with rfl | ⟨a, rfl⟩ <;> exact Nat.le_of_ble_eq_true rfl) ?_
  intro p e s mm args below meth c C ls hl hw
  have hx := C.1
  have hb := C.2.1
  replace hl : lv_has ls 3 [(0, .int k), (1, .int nn)] := lv_sub hl [0, 1] rfl
  refine lv_iload_n hx hb dJ3_checkIndex_8e157_0 rfl (lv_at hl 0 rfl) ?_
  refine lv_if_lt (tgt := 9) hx hb dJ3_checkIndex_8e157_1 (by decide) (fun hc => absurd hc h1) (fun _ => ?_)
  refine lv_iload_n hx hb dJ3_checkIndex_8e157_4 rfl (lv_at hl 0 rfl) ?_
  refine lv_iload_n hx hb dJ3_checkIndex_8e157_5 rfl (lv_at hl 1 rfl) ?_
  refine lv_icmp_lt (tgt := 16) hx hb dJ3_checkIndex_8e157_6 (by decide) (fun _ => ?_) (fun hc => absurd h2 hc)
  refine lv_iload_n hx hb dJ3_checkIndex_8e157_16 rfl (lv_at hl 0 rfl) ?_
  exact w_iret C hw rfl rfl dJ3_checkIndex_8e157_17
set_option maxHeartbeats 4000000 in
set_option maxRecDepth 100000 in
theorem cS_check (l : Launch) (G : GT) (x m : St) (k nn : Int32) (h1 : ¬ k < 0) (h2 : k < nn) : Mt l yJ0_checkIndex_df160 cJ0_checkIndex_df160 2 none (rmF 1 22) G x m [.int k, .int nn] none x m := by
  refine Mt.of (by decide) (Nat.le_of_ble_eq_true rfl) ?_
  intro p e s mm args below meth c C ls hl hw
  have hx := C.1
  have hb := C.2.1
  have hown := C.2.2.2.2.1
  have hE := C.2.2.2.2.2.2.2.2.2.2.1
  replace hl : lv_has ls 2 [(0, .int k), (1, .int nn)] := hl
  refine lv_iload_n hx hb dJ0_checkIndex_df160_0 rfl (lv_at hl 0 rfl) ?_
  refine lv_iload_n hx hb dJ0_checkIndex_df160_1 rfl (lv_at hl 1 rfl) ?_
  refine va_gets hx hb hE.2.2.2.1 hw.2 hown (C.w fl_J0_1053) (fun _ h => h) dJ0_checkIndex_df160_2 ?_
  refine w_Si C hw (As := [.int k, .int nn, gF G]) (rest := []) (cS_pcheck l G x m k nn h1 h2 (gF G) hE.2.2.2.2) ks_J3_checkIndex_8e157 ml_J0_1059 ⟨rfl, rfl⟩ ⟨Nat.le_of_ble_eq_true rfl, Nat.le_of_ble_eq_true rfl⟩ ⟨Nat.zero_le _, Nat.zero_le _⟩ rfl rfl (Nat.le_of_ble_eq_true rfl) (lv_sub hl [] rfl) dJ0_checkIndex_df160_5 (fun H locs hw => ?_)
  refine lv_pop hx hb dJ0_checkIndex_df160_8 rfl ?_
  exact w_vret C hw rfl dJ0_checkIndex_df160_9
set_option maxHeartbeats 4000000 in
set_option maxRecDepth 100000 in
theorem cS_latin (l : Launch) (G : GT) (i : Nat) (hi : i < 18) (x m : St) (k : Int32) (hk : ¬ (k < 0 ∨ sLen.getD i 0 ≤ k.toNatClampNeg)) : Mt l yJ1_charAt_3b067 cJ1_charAt_3b067 2 (some .char) (rmF 2 43) G x m [.ref (gV G i), .int k] (some (.int (sch i k))) x m := by
  refine Mt.of (by decide) (Nat.le_of_ble_eq_true rfl) ?_
  intro p e s mm args below meth c C ls hl hw
  have hx := C.1
  have hb := C.2.1
  have hown := C.2.2.2.2.1
  have hE := C.2.2.2.2.2.2.2.2.2.2.1
  replace hl : lv_has ls 2 [(0, .ref (gV G i)), (1, .int k)] := hl
  have hlen := sb_len i hi
  have h2 : k < Int32.ofNat (sLen.getD i 0) := by
    obtain ⟨j, hj, rfl⟩ := vp_in_of (x := k) (n := sLen.getD i 0) hk (by omega)
    exact nI_lt hj (by omega)
  refine lv_iload_n hx hb dJ1_charAt_3b067_0 rfl (lv_at hl 1 rfl) ?_
  refine lv_aload_n hx hb dJ1_charAt_3b067_1 rfl (lv_at hl 0 rfl) ?_
  refine va_tlen hx hb (hE.1.1 i hi).2.2.2 hw.2 rfl dJ1_charAt_3b067_2 ?_
  refine w_Sv C hw (As := [.int k, .int (Int32.ofNat (sLen.getD i 0))]) (rest := []) (cS_check l G x m k _ (fun z => hk (Or.inl z)) h2) ks_J0_checkIndex_df160 ml_J1_9 ⟨rfl, rfl⟩ ⟨Nat.le_of_ble_eq_true rfl, Nat.le_of_ble_eq_true rfl⟩ ⟨Nat.zero_le _, Nat.zero_le _⟩ rfl rfl (Nat.le_of_ble_eq_true rfl) (lv_sub hl [] rfl) dJ1_charAt_3b067_3 (fun H locs hw => ?_)
  refine lv_aload_n hx hb dJ1_charAt_3b067_6 rfl (lv_at hl 0 rfl) ?_
  refine lv_iload_n hx hb dJ1_charAt_3b067_7 rfl (lv_at hl 1 rfl) ?_
  refine va_tb hx hb (hE.1.1 i hi).2.2.2 hw.2 hk (v := .int (sch i k)) rfl dJ1_charAt_3b067_8 ?_
  refine lv_sipush (v := (255 : Int32)) hx hb dJ1_charAt_3b067_9 (by decide) ?_
  refine lv_iand hx hb dJ1_charAt_3b067_12 ?_
  refine lv_i2c hx hb dJ1_charAt_3b067_13 (sb_ch hi k).1 ?_
  exact w_iret C hw rfl (sb_ch hi k).2 dJ1_charAt_3b067_14
set_option maxHeartbeats 4000000 in
set_option maxRecDepth 100000 in
theorem cS_charAt (l : Launch) (G : GT) (i : Nat) (hi : i < 18) (x m : St) (k : Int32) (hk : ¬ (k < 0 ∨ sLen.getD i 0 ≤ k.toNatClampNeg)) : Mt l yJ0_charAt_5068e cJ0_charAt_5068e 2 (some .char) (rmF 3 64) G x m [.ref (gK G i), .int k] (some (.int (sch i k))) x m := by
  refine Mt.of (by decide) (Nat.le_of_ble_eq_true rfl) ?_
  intro p e s mm args below meth c C ls hl hw
  have hx := C.1
  have hb := C.2.1
  have hown := C.2.2.2.2.1
  have hE := C.2.2.2.2.2.2.2.2.2.2.1
  replace hl : lv_has ls 2 [(0, .ref (gK G i)), (1, .int k)] := hl
  refine lv_aload_n hx hb dJ0_charAt_5068e_0 rfl (lv_at hl 0 rfl) ?_
  refine w_Vi C hw (As := []) (rest := []) (cS_isLatin1 l G i hi x m) kv_J0_isLatin1_aae02 ml_J0_492 ⟨rfl, rfl⟩ ⟨Nat.le_of_ble_eq_true rfl, Nat.le_of_ble_eq_true rfl⟩ ⟨Nat.zero_le _, Nat.zero_le _⟩ (w_srecv C hw hi) rfl rfl (Nat.le_of_ble_eq_true rfl) (lv_sub hl [] rfl) dJ0_charAt_5068e_1 (fun H locs hw => ?_)
  refine lv_if_eq (tgt := 16) hx hb dJ0_charAt_5068e_4 (by decide) (fun hc => absurd hc (by decide)) (fun _ => ?_)
  refine lv_aload_n hx hb dJ0_charAt_5068e_7 rfl (lv_at hl 0 rfl) ?_
  refine vk_getf hx hb (hE.1.1 i hi).2.2.1 hw.2 hown (C.w fl_J0_9) (fun _ h => h) dJ0_charAt_5068e_8 ?_
  refine lv_iload_n hx hb dJ0_charAt_5068e_11 rfl (lv_at hl 1 rfl) ?_
  refine w_Si C hw (As := [.ref (gV G i), .int k]) (rest := []) (cS_latin l G i hi x m k hk) ks_J1_charAt_3b067 ml_J0_495 ⟨rfl, rfl⟩ ⟨Nat.le_of_ble_eq_true rfl, Nat.le_of_ble_eq_true rfl⟩ ⟨Nat.zero_le _, Nat.zero_le _⟩ rfl rfl (Nat.le_of_ble_eq_true rfl) (lv_sub hl [] rfl) dJ0_charAt_5068e_12 (fun H locs hw => ?_)
  exact w_iret C hw rfl (sb_ch hi k).2 dJ0_charAt_5068e_15
theorem sa_in {a : Int32} (h : ¬ (a < 0 ∨ 4 ≤ a.toNatClampNeg)) : ¬ a < 0 ∧ ¬ (4 : Int32) ≤ a := by
  obtain ⟨j, hj, rfl⟩ := vp_in_of (x := a) (n := 4) h (by omega)
  exact ⟨nI_pos (by omega), nI_ge (b := 4) hj (by omega)⟩
theorem sa_out {a : Int32} (h : a < 0 ∨ 4 ≤ a.toNatClampNeg) (h0 : ¬ a < 0) : (4 : Int32) ≤ a := by
  obtain ⟨j, hj, rfl⟩ := nI_of h0
  rcases h with h | h
  · exact absurd h h0
  · rw [nI_clamp hj] at h
    exact nI_le (a := 4) h hj
set_option maxHeartbeats 4000000 in
set_option maxRecDepth 100000 in
theorem c3_sheetAt_r (l : Launch) (G : GT) (x m : St) (a1 : Int32) (hc : ¬ (a1 < 0 ∨ 4 ≤ a1.toNatClampNeg)) : Mt l yX3_sheetAt cX3_sheetAt 2 (some (.object "DownhillWhispers$Sheet")) (rmF 0 0) G x m [.ref (gq G 0), .int a1] (some (.ref (gq G (16 + 2 * a1.toNatClampNeg)))) x m := by
  refine Mt.of (by decide) (Nat.le_of_ble_eq_true rfl) ?_
  intro p e s mm args below meth c C ls hl hw
  have hx := C.1
  have hb := C.2.1
  have hown := C.2.2.2.2.1
  replace hl : lv_has ls 2 [(0, .ref (gq G 0)), (1, .int a1)] := hl
  refine lv_iload_n hx hb dX3_sheetAt_0 rfl (lv_at hl 1 rfl) ?_
  refine lv_if_lt (tgt := 22) hx hb dX3_sheetAt_1 (by decide) (fun z => absurd z (sa_in hc).1) (fun _ => ?_)
  refine lv_iload_n hx hb dX3_sheetAt_4 rfl (lv_at hl 1 rfl) ?_
  refine lv_aload_n hx hb dX3_sheetAt_5 rfl (lv_at hl 0 rfl) ?_
  refine w_get C hw (v := .ref (gq G 15)) (k := 5) (wk_main G x m) rfl it_3 (by decide) fl_X3_31 rfl dX3_sheetAt_6 ?_
  refine w_alenS C hw dX3_sheetAt_9 ?_
  refine lv_icmp_ge (tgt := 22) hx hb dX3_sheetAt_10 (by decide) (fun z => absurd z (sa_in hc).2) (fun _ => ?_)
  refine lv_aload_n hx hb dX3_sheetAt_13 rfl (lv_at hl 0 rfl) ?_
  refine w_get C hw (v := .ref (gq G 15)) (k := 5) (wk_main G x m) rfl it_3 (by decide) fl_X3_31 rfl dX3_sheetAt_14 ?_
  refine lv_iload_n hx hb dX3_sheetAt_17 rfl (lv_at hl 1 rfl) ?_
  refine w_aldS C hw hc dX3_sheetAt_18 ?_
  refine lv_goto (tgt := 23) hx hb dX3_sheetAt_19 (by decide) ?_
  exact w_aret C hw rfl (Or.inl ⟨_, rfl⟩) (Or.inr ⟨_, rfl⟩) dX3_sheetAt_23
set_option maxHeartbeats 4000000 in
set_option maxRecDepth 100000 in
theorem c3_sheetAt_n (l : Launch) (G : GT) (x m : St) (a1 : Int32) (hc : a1 < 0 ∨ 4 ≤ a1.toNatClampNeg) : Mt l yX3_sheetAt cX3_sheetAt 2 (some (.object "DownhillWhispers$Sheet")) (rmF 0 0) G x m [.ref (gq G 0), .int a1] (some .null) x m := by
  refine Mt.of (by decide) (Nat.le_of_ble_eq_true rfl) ?_
  intro p e s mm args below meth c C ls hl hw
  have hx := C.1
  have hb := C.2.1
  have hown := C.2.2.2.2.1
  replace hl : lv_has ls 2 [(0, .ref (gq G 0)), (1, .int a1)] := hl
  refine lv_iload_n hx hb dX3_sheetAt_0 rfl (lv_at hl 1 rfl) ?_
  refine lv_if_lt (tgt := 22) hx hb dX3_sheetAt_1 (by decide) (fun _ => ?_) (fun h0 => ?_)
  · refine lv_null hx hb dX3_sheetAt_22 ?_
    exact w_aret C hw rfl (Or.inl ⟨_, rfl⟩) (Or.inl rfl) dX3_sheetAt_23
  · refine lv_iload_n hx hb dX3_sheetAt_4 rfl (lv_at hl 1 rfl) ?_
    refine lv_aload_n hx hb dX3_sheetAt_5 rfl (lv_at hl 0 rfl) ?_
    refine w_get C hw (v := .ref (gq G 15)) (k := 5) (wk_main G x m) rfl it_3 (by decide) fl_X3_31 rfl dX3_sheetAt_6 ?_
    refine w_alenS C hw dX3_sheetAt_9 ?_
    refine lv_icmp_ge (tgt := 22) hx hb dX3_sheetAt_10 (by decide) (fun _ => ?_) (fun z => absurd (sa_out hc h0) z)
    refine lv_null hx hb dX3_sheetAt_22 ?_
    exact w_aret C hw rfl (Or.inl ⟨_, rfl⟩) (Or.inl rfl) dX3_sheetAt_23
