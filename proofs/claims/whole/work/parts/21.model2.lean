def f4_merge_b94  (k27 : Int32 → Int32 → Int32 → Int32 → Int32 → St → Option (Int32 × St)) (b1 : Int32) (b2 : Int32) (b3 : Int32) (b4 : Int32) (b5 : Int32) (m : St) : Option (Int32 × St) :=
  k27 b1 b2 b3 b4 (b5 + (1 : Int32)) m
def f4_merge_L27   : Nat → Int32 → Int32 → Int32 → Int32 → Int32 → St → Option (Int32 × St)
  | 0, _, _, _, _, _, _ => none
  | n + 1, b1, b2, b3, b4, b5, m =>
    if (1 : Int32) < 0 ∨ 119 ≤ (1 : Int32).toNatClampNeg then none else
    if (m 26 (1 : Int32).toNatClampNeg) ≤ b5 then
      if b2 = 0 then
        (f4_finds (3 : Int32) m).bind fun q => match q with
        | (v5, z4) =>
          some (v5, z4)
      else
        some (b2, m)
    else
      (f4_its b5 (1 : Int32) m).bind fun v6 =>
      if v6 = b1 then
        if 0 ≤ b3 then
          (f4_sets b5 (1 : Int32) (15 : Int32) m).bind fun z7 =>
          (f4_sets b5 (2 : Int32) (1 : Int32) z7).bind fun z8 =>
          f4_merge_b94 (f4_merge_L27 n) b1 (b2 + (1 : Int32)) b3 b4 b5 z8
        else
          (f4_sets b5 (2 : Int32) (if b4 < (999 : Int32) then b4 else (999 : Int32)) m).bind fun z9 =>
          f4_merge_b94 (f4_merge_L27 n) b1 (b2 + (1 : Int32)) b5 b4 b5 z9
      else
        f4_merge_b94 (f4_merge_L27 n) b1 b2 b3 b4 b5 m
theorem f4_merge_L27_0   (b1 : Int32) (b2 : Int32) (b3 : Int32) (b4 : Int32) (b5 : Int32) (m : St) : f4_merge_L27  0 b1 b2 b3 b4 b5 m = none := rfl
theorem f4_merge_L27_s   (n : Nat) (b1 : Int32) (b2 : Int32) (b3 : Int32) (b4 : Int32) (b5 : Int32) (m : St) : f4_merge_L27  (n + 1) b1 b2 b3 b4 b5 m =
    if (1 : Int32) < 0 ∨ 119 ≤ (1 : Int32).toNatClampNeg then none else
    if (m 26 (1 : Int32).toNatClampNeg) ≤ b5 then
      if b2 = 0 then
        (f4_finds (3 : Int32) m).bind fun q => match q with
        | (v5, z4) =>
          some (v5, z4)
      else
        some (b2, m)
    else
      (f4_its b5 (1 : Int32) m).bind fun v6 =>
      if v6 = b1 then
        if 0 ≤ b3 then
          (f4_sets b5 (1 : Int32) (15 : Int32) m).bind fun z7 =>
          (f4_sets b5 (2 : Int32) (1 : Int32) z7).bind fun z8 =>
          f4_merge_b94 (f4_merge_L27 n) b1 (b2 + (1 : Int32)) b3 b4 b5 z8
        else
          (f4_sets b5 (2 : Int32) (if b4 < (999 : Int32) then b4 else (999 : Int32)) m).bind fun z9 =>
          f4_merge_b94 (f4_merge_L27 n) b1 (b2 + (1 : Int32)) b5 b4 b5 z9
      else
        f4_merge_b94 (f4_merge_L27 n) b1 b2 b3 b4 b5 m := rfl
def f4_merge  (a1 : Int32) (m : St) : Option (Int32 × St) :=
  if (f4_isCorner a1) = 0 then
    (f4_finds (0 : Int32) m).bind fun q => match q with
    | (v3, z2) =>
      some (v3, z2)
  else
    (f4_loudAt a1 m).bind fun v1 =>
    f4_merge_L27 fu a1 (0 : Int32) (-1 : Int32) v1 (0 : Int32) m
set_option maxHeartbeats 4000000 in
set_option maxRecDepth 100000 in
theorem c4_merge (l : Launch) (G : GT)  (x m : St) (a1 : Int32) (r : Int32 × St) (h : f4_merge a1 m = some r) : Mt l yX4_merge cX4_merge 6 (some .int) (rmF 2 45) G x m [.ref (gq G 25), .int a1] (some (.int r.1)) x r.2 := by
  refine Mt.of (by decide) (Nat.le_of_ble_eq_true rfl) ?_
  intro p e s mm args below meth c C ls hl hw
  have hx := C.1
  have hb := C.2.1
  have hown := C.2.2.2.2.1
  replace hl : lv_has ls 6 [(0, .ref (gq G 25)), (1, .int a1)] := hl
  have L27 : ∀ (n27 : Nat) (b1 : Int32) (b2 : Int32) (b3 : Int32) (b4 : Int32) (b5 : Int32) (m : St) (H : Heap) (locs : List Loc) (ls : Array Slot), lv_has ls 6 [(0, .ref (gq G 25)), (1, .int b1), (2, .int b2), (3, .int b3), (4, .int b4), (5, .int b5)] → Wd G s x m H locs → f4_merge_L27 n27 b1 b2 b3 b4 b5 m = some r → W p l e (rmF 2 45) s mm args below meth c H locs 0 0 (QE below G (some (.int r.1)) x r.2 args s) (F0 mm 27 ls []) := by
    intro n27
    induction n27 with
    | zero =>
      intro b1 b2 b3 b4 b5 m H locs ls hl hw h
      rw [f4_merge_L27_0] at h
      exact absurd h.symm (Option.some_ne_none _)
    | succ n27 ih27 =>
      have B94 : ∀ (b1 : Int32) (b2 : Int32) (b3 : Int32) (b4 : Int32) (b5 : Int32) (m : St) (H : Heap) (locs : List Loc) (ls : Array Slot), lv_has ls 6 [(0, .ref (gq G 25)), (1, .int b1), (2, .int b2), (3, .int b3), (4, .int b4), (5, .int b5)] → Wd G s x m H locs → f4_merge_b94 (f4_merge_L27 n27) b1 b2 b3 b4 b5 m = some r → W p l e (rmF 2 45) s mm args below meth c H locs 0 0 (QE below G (some (.int r.1)) x r.2 args s) (F0 mm 94 ls []) := by
        intro b1 b2 b3 b4 b5 m H locs ls hl hw h
        unfold f4_merge_b94 at h
        refine lv_iinc (v := (b5 + (1 : Int32))) (lv' := [(5, .int (b5 + (1 : Int32))), (0, .ref (gq G 25)), (1, .int b1), (2, .int b2), (3, .int b3), (4, .int b4)]) hx hb dX4_merge_94 hl (k := 5) rfl rfl (by decide) rfl (fun ls hl => ?_)
        refine lv_goto (tgt := 27) hx hb dX4_merge_97 (by decide) ?_
        exact ih27 b1 b2 b3 b4 (b5 + (1 : Int32)) m _ _ _ (lv_sub hl [1, 2, 3, 4, 5, 0] rfl) hw h
      intro b1 b2 b3 b4 b5 m H locs ls hl hw h
      rw [f4_merge_L27_s] at h
      refine lv_iload hx hb dX4_merge_27 (lv_at hl 5 rfl) ?_
      refine lv_aload_n hx hb dX4_merge_29 rfl (lv_at hl 0 rfl) ?_
      refine w_get C hw (v := .ref (gq G 26)) (k := 0) (wk_model G x m) rfl it_4 (by decide) fl_X4_9 rfl dX4_merge_30 ?_
      refine lv_iconst (v := (1 : Int32)) hx hb dX4_merge_33 (by decide) ?_
      obtain ⟨hq, h⟩ := p_if h
      refine w_ald C hw (am_26 G x m).1 hq dX4_merge_34 ?_
      refine lv_icmp_ge (tgt := 100) hx hb dX4_merge_35 (by decide) (fun hc => ?_) (fun hc => ?_)
      · replace h := p_t hc h
        refine lv_iload_n hx hb dX4_merge_100 rfl (lv_at hl 2 rfl) ?_
        refine lv_if_ne (tgt := 112) hx hb dX4_merge_101 (by decide) (fun hc => ?_) (fun hc => ?_)
        · replace h := p_f hc h
          refine lv_iload_n hx hb dX4_merge_112 rfl (lv_at hl 2 rfl) ?_
          replace h := Option.some.inj h
          subst h
          exact w_iret C hw (v := b2) rfl rfl dX4_merge_113
        · replace h := p_t hc h
          refine lv_aload_n hx hb dX4_merge_104 rfl (lv_at hl 0 rfl) ?_
          refine lv_iconst (v := (3 : Int32)) hx hb dX4_merge_105 (by decide) ?_
          obtain ⟨⟨v5, z4⟩, hq, h⟩ := p_bd h
          dsimp only at h
          refine w_Vi C hw (As := [.int (3 : Int32)]) (rest := []) (c4_finds l G x m (3 : Int32) (v5, z4) hq) kv_X4_finds ml_X4_82 ⟨rfl, rfl⟩ ⟨Nat.le_of_ble_eq_true rfl, Nat.le_of_ble_eq_true rfl⟩ ⟨Nat.zero_le _, Nat.zero_le _⟩ (w_recv C hw (wk_model G x m) rfl) rfl rfl (Nat.le_of_ble_eq_true rfl) (lv_sub hl [] rfl) dX4_merge_106 (fun H locs hw => ?_)
          refine lv_goto (tgt := 113) hx hb dX4_merge_109 (by decide) ?_
          replace h := Option.some.inj h
          subst h
          exact w_iret C hw (v := v5) rfl rfl dX4_merge_113
      · replace h := p_f hc h
        refine lv_aload_n hx hb dX4_merge_38 rfl (lv_at hl 0 rfl) ?_
        refine lv_iload hx hb dX4_merge_39 (lv_at hl 5 rfl) ?_
        refine lv_iconst (v := (1 : Int32)) hx hb dX4_merge_41 (by decide) ?_
        obtain ⟨v6, hq, h⟩ := p_bd h
        refine w_Vi C hw (As := [.int b5, .int (1 : Int32)]) (rest := []) (c4_its l G x m b5 (1 : Int32) v6 hq) kv_X4_its ml_X4_69 ⟨rfl, rfl⟩ ⟨Nat.le_of_ble_eq_true rfl, Nat.le_of_ble_eq_true rfl⟩ ⟨Nat.zero_le _, Nat.zero_le _⟩ (w_recv C hw (wk_model G x m) rfl) rfl rfl (Nat.le_of_ble_eq_true rfl) (lv_sub hl [] rfl) dX4_merge_42 (fun H locs hw => ?_)
        refine lv_iload_n hx hb dX4_merge_45 rfl (lv_at hl 1 rfl) ?_
        refine lv_icmp_ne (tgt := 94) hx hb dX4_merge_46 (by decide) (fun hc => ?_) (fun hc => ?_)
        · replace h := p_f hc h
          exact B94 b1 b2 b3 b4 b5 m _ _ _ (lv_sub hl [0, 1, 2, 3, 4, 5] rfl) hw h
        · replace h := p_t hc h
          refine lv_iinc (v := (b2 + (1 : Int32))) (lv' := [(2, .int (b2 + (1 : Int32))), (0, .ref (gq G 25)), (1, .int b1), (3, .int b3), (4, .int b4), (5, .int b5)]) hx hb dX4_merge_49 hl (k := 2) rfl rfl (by decide) rfl (fun ls hl => ?_)
          refine lv_iload_n hx hb dX4_merge_52 rfl (lv_at hl 3 rfl) ?_
          refine lv_if_ge (tgt := 77) hx hb dX4_merge_53 (by decide) (fun hc => ?_) (fun hc => ?_)
          · replace h := p_t hc h
            refine lv_aload_n hx hb dX4_merge_77 rfl (lv_at hl 1 rfl) ?_
            refine lv_iload hx hb dX4_merge_78 (lv_at hl 5 rfl) ?_
            refine lv_iconst (v := (1 : Int32)) hx hb dX4_merge_80 (by decide) ?_
            refine lv_bipush (v := (15 : Int32)) hx hb dX4_merge_81 (by decide) ?_
            obtain ⟨z7, hq, h⟩ := p_bd h
            refine w_Vv C hw (As := [.int b5, .int (1 : Int32), .int (15 : Int32)]) (rest := []) (c4_sets l G x m b5 (1 : Int32) (15 : Int32) z7 hq) kv_X4_sets ml_X4_107 ⟨rfl, rfl⟩ ⟨Nat.le_of_ble_eq_true rfl, Nat.le_of_ble_eq_true rfl⟩ ⟨Nat.zero_le _, Nat.zero_le _⟩ (w_recv C hw (wk_model G x m) rfl) rfl rfl (Nat.le_of_ble_eq_true rfl) (lv_sub hl [] rfl) dX4_merge_83 (fun H locs hw => ?_)
            refine lv_aload_n hx hb dX4_merge_86 rfl (lv_at hl 1 rfl) ?_
            refine lv_iload hx hb dX4_merge_87 (lv_at hl 5 rfl) ?_
            refine lv_iconst (v := (2 : Int32)) hx hb dX4_merge_89 (by decide) ?_
            refine lv_iconst (v := (1 : Int32)) hx hb dX4_merge_90 (by decide) ?_
            obtain ⟨z8, hq, h⟩ := p_bd h
            refine w_Vv C hw (As := [.int b5, .int (2 : Int32), .int (1 : Int32)]) (rest := []) (c4_sets l G x z7 b5 (2 : Int32) (1 : Int32) z8 hq) kv_X4_sets ml_X4_107 ⟨rfl, rfl⟩ ⟨Nat.le_of_ble_eq_true rfl, Nat.le_of_ble_eq_true rfl⟩ ⟨Nat.zero_le _, Nat.zero_le _⟩ (w_recv C hw (wk_model G x z7) rfl) rfl rfl (Nat.le_of_ble_eq_true rfl) (lv_sub hl [] rfl) dX4_merge_91 (fun H locs hw => ?_)
            exact B94 b1 (b2 + (1 : Int32)) b3 b4 b5 z8 _ _ _ (lv_sub hl [1, 2, 0, 3, 4, 5] rfl) hw h
          · replace h := p_f hc h
            refine lv_iload hx hb dX4_merge_56 (lv_at hl 5 rfl) ?_
            refine lv_istore_n (lv' := [(3, .int b5), (2, .int (b2 + (1 : Int32))), (0, .ref (gq G 25)), (1, .int b1), (4, .int b4), (5, .int b5)]) hx hb dX4_merge_58 rfl hl (by decide) rfl (fun ls hl => ?_)
            refine lv_aload_n hx hb dX4_merge_59 rfl (lv_at hl 2 rfl) ?_
            refine lv_iload hx hb dX4_merge_60 (lv_at hl 5 rfl) ?_
            refine lv_iconst (v := (2 : Int32)) hx hb dX4_merge_62 (by decide) ?_
            refine lv_sipush (v := (999 : Int32)) hx hb dX4_merge_63 (by decide) ?_
            refine lv_iload hx hb dX4_merge_66 (lv_at hl 4 rfl) ?_
            refine w_min C (lv_sub hl [] rfl) ml_X4_44 k_min ⟨Nat.le_of_ble_eq_true rfl, Nat.le_of_ble_eq_true rfl⟩ ⟨Nat.zero_le _, Nat.zero_le _⟩ (Nat.le_of_ble_eq_true rfl) dX4_merge_68 ?_
            obtain ⟨z9, hq, h⟩ := p_bd h
            refine w_Vv C hw (As := [.int b5, .int (2 : Int32), .int (if b4 < (999 : Int32) then b4 else (999 : Int32))]) (rest := []) (c4_sets l G x m b5 (2 : Int32) (if b4 < (999 : Int32) then b4 else (999 : Int32)) z9 hq) kv_X4_sets ml_X4_107 ⟨rfl, rfl⟩ ⟨Nat.le_of_ble_eq_true rfl, Nat.le_of_ble_eq_true rfl⟩ ⟨Nat.zero_le _, Nat.zero_le _⟩ (w_recv C hw (wk_model G x m) rfl) rfl rfl (Nat.le_of_ble_eq_true rfl) (lv_sub hl [] rfl) dX4_merge_71 (fun H locs hw => ?_)
            refine lv_goto (tgt := 94) hx hb dX4_merge_74 (by decide) ?_
            exact B94 b1 (b2 + (1 : Int32)) b5 b4 b5 z9 _ _ _ (lv_sub hl [2, 3, 1, 0, 4, 5] rfl) hw h
  unfold f4_merge at h
  refine lv_iload_n hx hb dX4_merge_0 rfl (lv_at hl 1 rfl) ?_
  refine w_Si C hw (As := [.int a1]) (rest := []) (c4_isCorner l G x m a1 _ rfl) ks_X4_isCorner ml_X4_76 ⟨rfl, rfl⟩ ⟨Nat.le_of_ble_eq_true rfl, Nat.le_of_ble_eq_true rfl⟩ ⟨Nat.zero_le _, Nat.zero_le _⟩ rfl rfl (Nat.le_of_ble_eq_true rfl) (lv_sub hl [] rfl) dX4_merge_1 (fun H locs hw => ?_)
  refine lv_if_ne (tgt := 13) hx hb dX4_merge_4 (by decide) (fun hc => ?_) (fun hc => ?_)
  · replace h := p_f hc h
    refine lv_iconst (v := (0 : Int32)) hx hb dX4_merge_13 (by decide) ?_
    refine lv_istore_n (lv' := [(2, .int (0 : Int32)), (0, .ref (gq G 25)), (1, .int a1)]) hx hb dX4_merge_14 rfl hl (by decide) rfl (fun ls hl => ?_)
    refine lv_iconst (v := (-1 : Int32)) hx hb dX4_merge_15 (by decide) ?_
    refine lv_istore_n (lv' := [(3, .int (-1 : Int32)), (2, .int (0 : Int32)), (0, .ref (gq G 25)), (1, .int a1)]) hx hb dX4_merge_16 rfl hl (by decide) rfl (fun ls hl => ?_)
    refine lv_aload_n hx hb dX4_merge_17 rfl (lv_at hl 2 rfl) ?_
    refine lv_iload_n hx hb dX4_merge_18 rfl (lv_at hl 3 rfl) ?_
    obtain ⟨v1, hq, h⟩ := p_bd h
    refine w_Vi C hw (As := [.int a1]) (rest := []) (c4_loudAt l G x m a1 v1 hq) kv_X4_loudAt ml_X4_72 ⟨rfl, rfl⟩ ⟨Nat.le_of_ble_eq_true rfl, Nat.le_of_ble_eq_true rfl⟩ ⟨Nat.zero_le _, Nat.zero_le _⟩ (w_recv C hw (wk_model G x m) rfl) rfl rfl (Nat.le_of_ble_eq_true rfl) (lv_sub hl [] rfl) dX4_merge_19 (fun H locs hw => ?_)
    refine lv_istore (lv' := [(4, .int v1), (3, .int (-1 : Int32)), (2, .int (0 : Int32)), (0, .ref (gq G 25)), (1, .int a1)]) hx hb dX4_merge_22 hl (by decide) rfl (fun ls hl => ?_)
    refine lv_iconst (v := (0 : Int32)) hx hb dX4_merge_24 (by decide) ?_
    refine lv_istore (lv' := [(5, .int (0 : Int32)), (4, .int v1), (3, .int (-1 : Int32)), (2, .int (0 : Int32)), (0, .ref (gq G 25)), (1, .int a1)]) hx hb dX4_merge_25 hl (by decide) rfl (fun ls hl => ?_)
    exact L27 fu a1 (0 : Int32) (-1 : Int32) v1 (0 : Int32) m _ _ _ (lv_sub hl [4, 5, 3, 2, 1, 0] rfl) hw h
  · replace h := p_t hc h
    refine lv_aload_n hx hb dX4_merge_7 rfl (lv_at hl 0 rfl) ?_
    refine lv_iconst (v := (0 : Int32)) hx hb dX4_merge_8 (by decide) ?_
    obtain ⟨⟨v3, z2⟩, hq, h⟩ := p_bd h
    dsimp only at h
    refine w_Vi C hw (As := [.int (0 : Int32)]) (rest := []) (c4_finds l G x m (0 : Int32) (v3, z2) hq) kv_X4_finds ml_X4_82 ⟨rfl, rfl⟩ ⟨Nat.le_of_ble_eq_true rfl, Nat.le_of_ble_eq_true rfl⟩ ⟨Nat.zero_le _, Nat.zero_le _⟩ (w_recv C hw (wk_model G x m) rfl) rfl rfl (Nat.le_of_ble_eq_true rfl) (lv_sub hl [] rfl) dX4_merge_9 (fun H locs hw => ?_)
    replace h := Option.some.inj h
    subst h
    exact w_iret C hw (v := v3) rfl rfl dX4_merge_12

def f4_isAhead  (a1 : Int32) : Int32 :=
  (f4_in (a1.toInt64) (0 : Int64) (100 : Int64))
theorem bz_X4_isAhead  (a1 : Int32) : f4_isAhead a1 = 0 ∨ f4_isAhead a1 = 1 := by
  unfold f4_isAhead
  repeat' split
  all_goals first | exact Or.inl rfl | exact Or.inr rfl | exact bz_X4_in _ _ _ 
set_option maxHeartbeats 4000000 in
set_option maxRecDepth 100000 in
theorem c4_isAhead (l : Launch) (G : GT)  (x m : St) (a1 : Int32) (r : Int32) (h : f4_isAhead a1 = r) : Mt l yX4_isAhead cX4_isAhead 1 (some .boolean) (rmF 1 25) G x m [.int a1] (some (.int r)) x m := by
  refine Mt.of (by decide) (Nat.le_of_ble_eq_true rfl) ?_
  intro p e s mm args below meth c C ls hl hw
  have hx := C.1
  have hb := C.2.1
  have hown := C.2.2.2.2.1
  replace hl : lv_has ls 1 [(0, .int a1)] := hl
  unfold f4_isAhead at h
  refine lv_iload_n hx hb dX4_isAhead_0 rfl (lv_at hl 0 rfl) ?_
  refine lv_i2l hx hb dX4_isAhead_1 rfl ?_
  refine lv_lconst (v := (0 : Int64)) hx hb dX4_isAhead_2 (by decide) ?_
  refine lv_ldc2 hx hb hown (C.w kl_X4_163) dX4_isAhead_3 ?_
  refine w_Si C hw (As := [.long (a1.toInt64), .long (0 : Int64), .long (100 : Int64)]) (rest := []) (c4_in l G x m (a1.toInt64) (0 : Int64) (100 : Int64) _ rfl) ks_X4_in ml_X4_57 ⟨rfl, rfl⟩ ⟨Nat.le_of_ble_eq_true rfl, Nat.le_of_ble_eq_true rfl⟩ ⟨Nat.zero_le _, Nat.zero_le _⟩ rfl rfl (Nat.le_of_ble_eq_true rfl) (lv_sub hl [] rfl) dX4_isAhead_6 (fun H locs hw => ?_)
  subst h
  exact w_iret C hw (v := (f4_in (a1.toInt64) (0 : Int64) (100 : Int64))) rfl (nz_b (bz_X4_in (a1.toInt64) (0 : Int64) (100 : Int64))) dX4_isAhead_9

def f4_ahead_b15    (m : St) : Option (Int32 × St) :=
  (f4_finds (0 : Int32) m).bind fun q => match q with
  | (v7, z6) =>
    some (v7, z6)
def f4_ahead  (a1 : Int32) (a2 : Int32) (m : St) : Option (Int32 × St) :=
  (f4_isWhisper a1 m).bind fun v1 =>
  if v1 = 0 then
    f4_ahead_b15 m
  else
    if (f4_isAhead a2) = 0 then
      f4_ahead_b15 m
    else
      (f4_lends m).bind fun z2 =>
      (f4_minutes a2 z2).bind fun z3 =>
      (f4_its a1 (1 : Int32) z3).bind fun v4 =>
      (f4_laysBack z3).bind fun z5 =>
      some (v4, z5)
set_option maxHeartbeats 4000000 in
set_option maxRecDepth 100000 in
theorem c4_ahead (l : Launch) (G : GT)  (x m : St) (a1 : Int32) (a2 : Int32) (r : Int32 × St) (h : f4_ahead a1 a2 m = some r) : Mt l yX4_ahead cX4_ahead 4 (some .int) (rmF 6 135) G x m [.ref (gq G 25), .int a1, .int a2] (some (.int r.1)) x r.2 := by
  refine Mt.of (by decide) (Nat.le_of_ble_eq_true rfl) ?_
  intro p e s mm args below meth c C ls hl hw
  have hx := C.1
  have hb := C.2.1
  have hown := C.2.2.2.2.1
  replace hl : lv_has ls 4 [(0, .ref (gq G 25)), (1, .int a1), (2, .int a2)] := hl
  have B15 : ∀  (m : St) (H : Heap) (locs : List Loc) (ls : Array Slot), lv_has ls 4 [(0, .ref (gq G 25))] → Wd G s x m H locs → f4_ahead_b15 m = some r → W p l e (rmF 6 135) s mm args below meth c H locs 0 0 (QE below G (some (.int r.1)) x r.2 args s) (F0 mm 15 ls []) := by
    intro  m H locs ls hl hw h
    unfold f4_ahead_b15 at h
    refine lv_aload_n hx hb dX4_ahead_15 rfl (lv_at hl 0 rfl) ?_
    refine lv_iconst (v := (0 : Int32)) hx hb dX4_ahead_16 (by decide) ?_
    obtain ⟨⟨v7, z6⟩, hq, h⟩ := p_bd h
    dsimp only at h
    refine w_Vi C hw (As := [.int (0 : Int32)]) (rest := []) (c4_finds l G x m (0 : Int32) (v7, z6) hq) kv_X4_finds ml_X4_82 ⟨rfl, rfl⟩ ⟨Nat.le_of_ble_eq_true rfl, Nat.le_of_ble_eq_true rfl⟩ ⟨Nat.zero_le _, Nat.zero_le _⟩ (w_recv C hw (wk_model G x m) rfl) rfl rfl (Nat.le_of_ble_eq_true rfl) (lv_sub hl [] rfl) dX4_ahead_17 (fun H locs hw => ?_)
    replace h := Option.some.inj h
    subst h
    exact w_iret C hw (v := v7) rfl rfl dX4_ahead_20
  unfold f4_ahead at h
  refine lv_aload_n hx hb dX4_ahead_0 rfl (lv_at hl 0 rfl) ?_
  refine lv_iload_n hx hb dX4_ahead_1 rfl (lv_at hl 1 rfl) ?_
  obtain ⟨v1, hq, h⟩ := p_bd h
  refine w_Vi C hw (As := [.int a1]) (rest := []) (c4_isWhisper l G x m a1 v1 hq) kv_X4_isWhisper ml_X4_117 ⟨rfl, rfl⟩ ⟨Nat.le_of_ble_eq_true rfl, Nat.le_of_ble_eq_true rfl⟩ ⟨Nat.zero_le _, Nat.zero_le _⟩ (w_recv C hw (wk_model G x m) rfl) rfl rfl (Nat.le_of_ble_eq_true rfl) (lv_sub hl [] rfl) dX4_ahead_2 (fun H locs hw => ?_)
  refine lv_if_eq (tgt := 15) hx hb dX4_ahead_5 (by decide) (fun hc => ?_) (fun hc => ?_)
  · replace h := p_t hc h
    exact B15 m _ _ _ (lv_sub hl [0] rfl) hw h
  · replace h := p_f hc h
    refine lv_iload_n hx hb dX4_ahead_8 rfl (lv_at hl 2 rfl) ?_
    refine w_Si C hw (As := [.int a2]) (rest := []) (c4_isAhead l G x m a2 _ rfl) ks_X4_isAhead ml_X4_165 ⟨rfl, rfl⟩ ⟨Nat.le_of_ble_eq_true rfl, Nat.le_of_ble_eq_true rfl⟩ ⟨Nat.zero_le _, Nat.zero_le _⟩ rfl rfl (Nat.le_of_ble_eq_true rfl) (lv_sub hl [] rfl) dX4_ahead_9 (fun H locs hw => ?_)
    refine lv_if_ne (tgt := 21) hx hb dX4_ahead_12 (by decide) (fun hc => ?_) (fun hc => ?_)
    · replace h := p_f hc h
      refine lv_aload_n hx hb dX4_ahead_21 rfl (lv_at hl 0 rfl) ?_
      obtain ⟨z2, hq, h⟩ := p_bd h
      refine w_Vv C hw (As := []) (rest := []) (c4_lends l G x m z2 hq) kv_X4_lends ml_X4_168 ⟨rfl, rfl⟩ ⟨Nat.le_of_ble_eq_true rfl, Nat.le_of_ble_eq_true rfl⟩ ⟨Nat.zero_le _, Nat.zero_le _⟩ (w_recv C hw (wk_model G x m) rfl) rfl rfl (Nat.le_of_ble_eq_true rfl) (lv_sub hl [] rfl) dX4_ahead_22 (fun H locs hw => ?_)
      refine lv_aload_n hx hb dX4_ahead_25 rfl (lv_at hl 0 rfl) ?_
      refine lv_iload_n hx hb dX4_ahead_26 rfl (lv_at hl 2 rfl) ?_
      obtain ⟨z3, hq, h⟩ := p_bd h
      refine w_Vv C hw (As := [.int a2]) (rest := []) (c4_minutes l G x z2 a2 z3 hq) kv_X4_minutes ml_X4_152 ⟨rfl, rfl⟩ ⟨Nat.le_of_ble_eq_true rfl, Nat.le_of_ble_eq_true rfl⟩ ⟨Nat.zero_le _, Nat.zero_le _⟩ (w_recv C hw (wk_model G x z2) rfl) rfl rfl (Nat.le_of_ble_eq_true rfl) (lv_sub hl [] rfl) dX4_ahead_27 (fun H locs hw => ?_)
      refine lv_aload_n hx hb dX4_ahead_30 rfl (lv_at hl 0 rfl) ?_
      refine lv_iload_n hx hb dX4_ahead_31 rfl (lv_at hl 1 rfl) ?_
      refine lv_iconst (v := (1 : Int32)) hx hb dX4_ahead_32 (by decide) ?_
      obtain ⟨v4, hq, h⟩ := p_bd h
      refine w_Vi C hw (As := [.int a1, .int (1 : Int32)]) (rest := []) (c4_its l G x z3 a1 (1 : Int32) v4 hq) kv_X4_its ml_X4_69 ⟨rfl, rfl⟩ ⟨Nat.le_of_ble_eq_true rfl, Nat.le_of_ble_eq_true rfl⟩ ⟨Nat.zero_le _, Nat.zero_le _⟩ (w_recv C hw (wk_model G x z3) rfl) rfl rfl (Nat.le_of_ble_eq_true rfl) (lv_sub hl [] rfl) dX4_ahead_33 (fun H locs hw => ?_)
      refine lv_istore_n (lv' := [(3, .int v4), (0, .ref (gq G 25)), (1, .int a1), (2, .int a2)]) hx hb dX4_ahead_36 rfl hl (by decide) rfl (fun ls hl => ?_)
      refine lv_aload_n hx hb dX4_ahead_37 rfl (lv_at hl 1 rfl) ?_
      obtain ⟨z5, hq, h⟩ := p_bd h
      refine w_Vv C hw (As := []) (rest := []) (c4_laysBack l G x z3 z5 hq) kv_X4_laysBack ml_X4_171 ⟨rfl, rfl⟩ ⟨Nat.le_of_ble_eq_true rfl, Nat.le_of_ble_eq_true rfl⟩ ⟨Nat.zero_le _, Nat.zero_le _⟩ (w_recv C hw (wk_model G x z3) rfl) rfl rfl (Nat.le_of_ble_eq_true rfl) (lv_sub hl [] rfl) dX4_ahead_38 (fun H locs hw => ?_)
      refine lv_iload_n hx hb dX4_ahead_41 rfl (lv_at hl 0 rfl) ?_
      replace h := Option.some.inj h
      subst h
      exact w_iret C hw (v := v4) rfl rfl dX4_ahead_42
    · replace h := p_t hc h
      exact B15 m _ _ _ (lv_sub hl [0] rfl) hw h

def f4_loudBy  (a1 : Int32) (a2 : Int32) (m : St) : Option (Int32 × St) :=
  (f4_lends m).bind fun z1 =>
  (f4_minutes a2 z1).bind fun z2 =>
  (f4_loudAt a1 z2).bind fun v3 =>
  (f4_laysBack z2).bind fun z4 =>
  some (v3, z4)
set_option maxHeartbeats 4000000 in
set_option maxRecDepth 100000 in
theorem c4_loudBy (l : Launch) (G : GT)  (x m : St) (a1 : Int32) (a2 : Int32) (r : Int32 × St) (h : f4_loudBy a1 a2 m = some r) : Mt l yX4_loudBy cX4_loudBy 4 (some .int) (rmF 6 135) G x m [.ref (gq G 25), .int a1, .int a2] (some (.int r.1)) x r.2 := by
  refine Mt.of (by decide) (Nat.le_of_ble_eq_true rfl) ?_
  intro p e s mm args below meth c C ls hl hw
  have hx := C.1
  have hb := C.2.1
  have hown := C.2.2.2.2.1
  replace hl : lv_has ls 4 [(0, .ref (gq G 25)), (1, .int a1), (2, .int a2)] := hl
  unfold f4_loudBy at h
  refine lv_aload_n hx hb dX4_loudBy_0 rfl (lv_at hl 0 rfl) ?_
  obtain ⟨z1, hq, h⟩ := p_bd h
  refine w_Vv C hw (As := []) (rest := []) (c4_lends l G x m z1 hq) kv_X4_lends ml_X4_168 ⟨rfl, rfl⟩ ⟨Nat.le_of_ble_eq_true rfl, Nat.le_of_ble_eq_true rfl⟩ ⟨Nat.zero_le _, Nat.zero_le _⟩ (w_recv C hw (wk_model G x m) rfl) rfl rfl (Nat.le_of_ble_eq_true rfl) (lv_sub hl [] rfl) dX4_loudBy_1 (fun H locs hw => ?_)
  refine lv_aload_n hx hb dX4_loudBy_4 rfl (lv_at hl 0 rfl) ?_
  refine lv_iload_n hx hb dX4_loudBy_5 rfl (lv_at hl 2 rfl) ?_
  obtain ⟨z2, hq, h⟩ := p_bd h
  refine w_Vv C hw (As := [.int a2]) (rest := []) (c4_minutes l G x z1 a2 z2 hq) kv_X4_minutes ml_X4_152 ⟨rfl, rfl⟩ ⟨Nat.le_of_ble_eq_true rfl, Nat.le_of_ble_eq_true rfl⟩ ⟨Nat.zero_le _, Nat.zero_le _⟩ (w_recv C hw (wk_model G x z1) rfl) rfl rfl (Nat.le_of_ble_eq_true rfl) (lv_sub hl [] rfl) dX4_loudBy_6 (fun H locs hw => ?_)
  refine lv_aload_n hx hb dX4_loudBy_9 rfl (lv_at hl 0 rfl) ?_
  refine lv_iload_n hx hb dX4_loudBy_10 rfl (lv_at hl 1 rfl) ?_
  obtain ⟨v3, hq, h⟩ := p_bd h
  refine w_Vi C hw (As := [.int a1]) (rest := []) (c4_loudAt l G x z2 a1 v3 hq) kv_X4_loudAt ml_X4_72 ⟨rfl, rfl⟩ ⟨Nat.le_of_ble_eq_true rfl, Nat.le_of_ble_eq_true rfl⟩ ⟨Nat.zero_le _, Nat.zero_le _⟩ (w_recv C hw (wk_model G x z2) rfl) rfl rfl (Nat.le_of_ble_eq_true rfl) (lv_sub hl [] rfl) dX4_loudBy_11 (fun H locs hw => ?_)
  refine lv_istore_n (lv' := [(3, .int v3), (0, .ref (gq G 25)), (1, .int a1), (2, .int a2)]) hx hb dX4_loudBy_14 rfl hl (by decide) rfl (fun ls hl => ?_)
  refine lv_aload_n hx hb dX4_loudBy_15 rfl (lv_at hl 1 rfl) ?_
  obtain ⟨z4, hq, h⟩ := p_bd h
  refine w_Vv C hw (As := []) (rest := []) (c4_laysBack l G x z2 z4 hq) kv_X4_laysBack ml_X4_171 ⟨rfl, rfl⟩ ⟨Nat.le_of_ble_eq_true rfl, Nat.le_of_ble_eq_true rfl⟩ ⟨Nat.zero_le _, Nat.zero_le _⟩ (w_recv C hw (wk_model G x z2) rfl) rfl rfl (Nat.le_of_ble_eq_true rfl) (lv_sub hl [] rfl) dX4_loudBy_16 (fun H locs hw => ?_)
  refine lv_iload_n hx hb dX4_loudBy_19 rfl (lv_at hl 0 rfl) ?_
  replace h := Option.some.inj h
  subst h
  exact w_iret C hw (v := v3) rfl rfl dX4_loudBy_20

def f4_loud_b23    (m : St) : Option (Int32 × St) :=
  (f4_finds (0 : Int32) m).bind fun q => match q with
  | (v4, z3) =>
    some (v4, z3)
def f4_loud  (a1 : Int32) (a2 : Int32) (m : St) : Option (Int32 × St) :=
  if (f4_isCorner a1) = 0 then
    f4_loud_b23 m
  else
    if (f4_isAhead a2) = 0 then
      f4_loud_b23 m
    else
      (f4_loudBy a1 a2 m).bind fun q => match q with
      | (v2, z1) =>
        some (v2, z1)
set_option maxHeartbeats 4000000 in
set_option maxRecDepth 100000 in
theorem c4_loud (l : Launch) (G : GT)  (x m : St) (a1 : Int32) (a2 : Int32) (r : Int32 × St) (h : f4_loud a1 a2 m = some r) : Mt l yX4_loud cX4_loud 3 (some .int) (rmF 7 158) G x m [.ref (gq G 25), .int a1, .int a2] (some (.int r.1)) x r.2 := by
  refine Mt.of (by decide) (Nat.le_of_ble_eq_true rfl) ?_
  intro p e s mm args below meth c C ls hl hw
  have hx := C.1
  have hb := C.2.1
  have hown := C.2.2.2.2.1
  replace hl : lv_has ls 3 [(0, .ref (gq G 25)), (1, .int a1), (2, .int a2)] := hl
  have B23 : ∀  (m : St) (H : Heap) (locs : List Loc) (ls : Array Slot), lv_has ls 3 [(0, .ref (gq G 25))] → Wd G s x m H locs → f4_loud_b23 m = some r → W p l e (rmF 7 158) s mm args below meth c H locs 0 0 (QE below G (some (.int r.1)) x r.2 args s) (F0 mm 23 ls []) := by
    intro  m H locs ls hl hw h
    unfold f4_loud_b23 at h
    refine lv_aload_n hx hb dX4_loud_23 rfl (lv_at hl 0 rfl) ?_
    refine lv_iconst (v := (0 : Int32)) hx hb dX4_loud_24 (by decide) ?_
    obtain ⟨⟨v4, z3⟩, hq, h⟩ := p_bd h
    dsimp only at h
    refine w_Vi C hw (As := [.int (0 : Int32)]) (rest := []) (c4_finds l G x m (0 : Int32) (v4, z3) hq) kv_X4_finds ml_X4_82 ⟨rfl, rfl⟩ ⟨Nat.le_of_ble_eq_true rfl, Nat.le_of_ble_eq_true rfl⟩ ⟨Nat.zero_le _, Nat.zero_le _⟩ (w_recv C hw (wk_model G x m) rfl) rfl rfl (Nat.le_of_ble_eq_true rfl) (lv_sub hl [] rfl) dX4_loud_25 (fun H locs hw => ?_)
    replace h := Option.some.inj h
    subst h
    exact w_iret C hw (v := v4) rfl rfl dX4_loud_28
  unfold f4_loud at h
  refine lv_iload_n hx hb dX4_loud_0 rfl (lv_at hl 1 rfl) ?_
  refine w_Si C hw (As := [.int a1]) (rest := []) (c4_isCorner l G x m a1 _ rfl) ks_X4_isCorner ml_X4_76 ⟨rfl, rfl⟩ ⟨Nat.le_of_ble_eq_true rfl, Nat.le_of_ble_eq_true rfl⟩ ⟨Nat.zero_le _, Nat.zero_le _⟩ rfl rfl (Nat.le_of_ble_eq_true rfl) (lv_sub hl [] rfl) dX4_loud_1 (fun H locs hw => ?_)
  refine lv_if_eq (tgt := 23) hx hb dX4_loud_4 (by decide) (fun hc => ?_) (fun hc => ?_)
  · replace h := p_t hc h
    exact B23 m _ _ _ (lv_sub hl [0] rfl) hw h
  · replace h := p_f hc h
    refine lv_iload_n hx hb dX4_loud_7 rfl (lv_at hl 2 rfl) ?_
    refine w_Si C hw (As := [.int a2]) (rest := []) (c4_isAhead l G x m a2 _ rfl) ks_X4_isAhead ml_X4_165 ⟨rfl, rfl⟩ ⟨Nat.le_of_ble_eq_true rfl, Nat.le_of_ble_eq_true rfl⟩ ⟨Nat.zero_le _, Nat.zero_le _⟩ rfl rfl (Nat.le_of_ble_eq_true rfl) (lv_sub hl [] rfl) dX4_loud_8 (fun H locs hw => ?_)
    refine lv_if_eq (tgt := 23) hx hb dX4_loud_11 (by decide) (fun hc => ?_) (fun hc => ?_)
    · replace h := p_t hc h
      exact B23 m _ _ _ (lv_sub hl [0] rfl) hw h
    · replace h := p_f hc h
      refine lv_aload_n hx hb dX4_loud_14 rfl (lv_at hl 0 rfl) ?_
      refine lv_iload_n hx hb dX4_loud_15 rfl (lv_at hl 1 rfl) ?_
      refine lv_iload_n hx hb dX4_loud_16 rfl (lv_at hl 2 rfl) ?_
      obtain ⟨⟨v2, z1⟩, hq, h⟩ := p_bd h
      dsimp only at h
      refine w_Vi C hw (As := [.int a1, .int a2]) (rest := []) (c4_loudBy l G x m a1 a2 (v2, z1) hq) kv_X4_loudBy ml_X4_174 ⟨rfl, rfl⟩ ⟨Nat.le_of_ble_eq_true rfl, Nat.le_of_ble_eq_true rfl⟩ ⟨Nat.zero_le _, Nat.zero_le _⟩ (w_recv C hw (wk_model G x m) rfl) rfl rfl (Nat.le_of_ble_eq_true rfl) (lv_sub hl [] rfl) dX4_loud_17 (fun H locs hw => ?_)
      refine lv_goto (tgt := 28) hx hb dX4_loud_20 (by decide) ?_
      replace h := Option.some.inj h
      subst h
      exact w_iret C hw (v := v2) rfl rfl dX4_loud_28

def f4_heard_b43   (b2 : Int32) (m : St) : Option (Int32 × St) :=
  (f4_laysBack m).bind fun z6 =>
  if (100 : Int32) < b2 then
    (f4_finds (3 : Int32) z6).bind fun q => match q with
    | (v8, z7) =>
      some (v8, z7)
  else
    some (b2, z6)
def f4_heard_L19   : Nat → Int32 → Int32 → St → Option (Int32 × St)
  | 0, _, _, _ => none
  | n + 1, b1, b2, m =>
    if (100 : Int32) < b2 then
      f4_heard_b43 b2 m
    else
      (f4_isHeard b1 m).bind fun v4 =>
      if v4 = 0 then
        (f4_aMinute m).bind fun z5 =>
        (f4_heard_L19 n) b1 (b2 + (1 : Int32)) z5
      else
        f4_heard_b43 b2 m
theorem f4_heard_L19_0   (b1 : Int32) (b2 : Int32) (m : St) : f4_heard_L19  0 b1 b2 m = none := rfl
theorem f4_heard_L19_s   (n : Nat) (b1 : Int32) (b2 : Int32) (m : St) : f4_heard_L19  (n + 1) b1 b2 m =
    if (100 : Int32) < b2 then
      f4_heard_b43 b2 m
    else
      (f4_isHeard b1 m).bind fun v4 =>
      if v4 = 0 then
        (f4_aMinute m).bind fun z5 =>
        (f4_heard_L19 n) b1 (b2 + (1 : Int32)) z5
      else
        f4_heard_b43 b2 m := rfl
def f4_heard  (a1 : Int32) (m : St) : Option (Int32 × St) :=
  if (f4_isCorner a1) = 0 then
    (f4_finds (0 : Int32) m).bind fun q => match q with
    | (v3, z2) =>
      some (v3, z2)
  else
    (f4_lends m).bind fun z1 =>
    f4_heard_L19 fu a1 (0 : Int32) z1
set_option maxHeartbeats 4000000 in
set_option maxRecDepth 100000 in
theorem c4_heard (l : Launch) (G : GT)  (x m : St) (a1 : Int32) (r : Int32 × St) (h : f4_heard a1 m = some r) : Mt l yX4_heard cX4_heard 3 (some .int) (rmF 5 113) G x m [.ref (gq G 25), .int a1] (some (.int r.1)) x r.2 := by
  refine Mt.of (by decide) (Nat.le_of_ble_eq_true rfl) ?_
  intro p e s mm args below meth c C ls hl hw
  have hx := C.1
  have hb := C.2.1
  have hown := C.2.2.2.2.1
  replace hl : lv_has ls 3 [(0, .ref (gq G 25)), (1, .int a1)] := hl
  have B43 : ∀ (b2 : Int32) (m : St) (H : Heap) (locs : List Loc) (ls : Array Slot), lv_has ls 3 [(0, .ref (gq G 25)), (2, .int b2)] → Wd G s x m H locs → f4_heard_b43 b2 m = some r → W p l e (rmF 5 113) s mm args below meth c H locs 0 0 (QE below G (some (.int r.1)) x r.2 args s) (F0 mm 43 ls []) := by
    intro b2 m H locs ls hl hw h
    unfold f4_heard_b43 at h
    refine lv_aload_n hx hb dX4_heard_43 rfl (lv_at hl 0 rfl) ?_
    obtain ⟨z6, hq, h⟩ := p_bd h
    refine w_Vv C hw (As := []) (rest := []) (c4_laysBack l G x m z6 hq) kv_X4_laysBack ml_X4_171 ⟨rfl, rfl⟩ ⟨Nat.le_of_ble_eq_true rfl, Nat.le_of_ble_eq_true rfl⟩ ⟨Nat.zero_le _, Nat.zero_le _⟩ (w_recv C hw (wk_model G x m) rfl) rfl rfl (Nat.le_of_ble_eq_true rfl) (lv_sub hl [] rfl) dX4_heard_44 (fun H locs hw => ?_)
    refine lv_iload_n hx hb dX4_heard_47 rfl (lv_at hl 1 rfl) ?_
    refine lv_bipush (v := (100 : Int32)) hx hb dX4_heard_48 (by decide) ?_
    refine lv_icmp_gt (tgt := 57) hx hb dX4_heard_50 (by decide) (fun hc => ?_) (fun hc => ?_)
    · replace h := p_t hc h
      refine lv_aload_n hx hb dX4_heard_57 rfl (lv_at hl 0 rfl) ?_
      refine lv_iconst (v := (3 : Int32)) hx hb dX4_heard_58 (by decide) ?_
      obtain ⟨⟨v8, z7⟩, hq, h⟩ := p_bd h
      dsimp only at h
      refine w_Vi C hw (As := [.int (3 : Int32)]) (rest := []) (c4_finds l G x z6 (3 : Int32) (v8, z7) hq) kv_X4_finds ml_X4_82 ⟨rfl, rfl⟩ ⟨Nat.le_of_ble_eq_true rfl, Nat.le_of_ble_eq_true rfl⟩ ⟨Nat.zero_le _, Nat.zero_le _⟩ (w_recv C hw (wk_model G x z6) rfl) rfl rfl (Nat.le_of_ble_eq_true rfl) (lv_sub hl [] rfl) dX4_heard_59 (fun H locs hw => ?_)
      replace h := Option.some.inj h
      subst h
      exact w_iret C hw (v := v8) rfl rfl dX4_heard_62
    · replace h := p_f hc h
      refine lv_iload_n hx hb dX4_heard_53 rfl (lv_at hl 1 rfl) ?_
      refine lv_goto (tgt := 62) hx hb dX4_heard_54 (by decide) ?_
      replace h := Option.some.inj h
      subst h
      exact w_iret C hw (v := b2) rfl rfl dX4_heard_62
  have L19 : ∀ (n19 : Nat) (b1 : Int32) (b2 : Int32) (m : St) (H : Heap) (locs : List Loc) (ls : Array Slot), lv_has ls 3 [(0, .ref (gq G 25)), (1, .int b1), (2, .int b2)] → Wd G s x m H locs → f4_heard_L19 n19 b1 b2 m = some r → W p l e (rmF 5 113) s mm args below meth c H locs 0 0 (QE below G (some (.int r.1)) x r.2 args s) (F0 mm 19 ls []) := by
    intro n19
    induction n19 with
    | zero =>
      intro b1 b2 m H locs ls hl hw h
      rw [f4_heard_L19_0] at h
      exact absurd h.symm (Option.some_ne_none _)
    | succ n19 ih19 =>
      intro b1 b2 m H locs ls hl hw h
      rw [f4_heard_L19_s] at h
      refine lv_iload_n hx hb dX4_heard_19 rfl (lv_at hl 2 rfl) ?_
      refine lv_bipush (v := (100 : Int32)) hx hb dX4_heard_20 (by decide) ?_
      refine lv_icmp_gt (tgt := 43) hx hb dX4_heard_22 (by decide) (fun hc => ?_) (fun hc => ?_)
      · replace h := p_t hc h
        exact B43 b2 m _ _ _ (lv_sub hl [0, 2] rfl) hw h
      · replace h := p_f hc h
        refine lv_aload_n hx hb dX4_heard_25 rfl (lv_at hl 0 rfl) ?_
        refine lv_iload_n hx hb dX4_heard_26 rfl (lv_at hl 1 rfl) ?_
        obtain ⟨v4, hq, h⟩ := p_bd h
        refine w_Vi C hw (As := [.int b1]) (rest := []) (c4_isHeard l G x m b1 v4 hq) kv_X4_isHeard ml_X4_88 ⟨rfl, rfl⟩ ⟨Nat.le_of_ble_eq_true rfl, Nat.le_of_ble_eq_true rfl⟩ ⟨Nat.zero_le _, Nat.zero_le _⟩ (w_recv C hw (wk_model G x m) rfl) rfl rfl (Nat.le_of_ble_eq_true rfl) (lv_sub hl [] rfl) dX4_heard_27 (fun H locs hw => ?_)
        refine lv_if_ne (tgt := 43) hx hb dX4_heard_30 (by decide) (fun hc => ?_) (fun hc => ?_)
        · replace h := p_f hc h
          exact B43 b2 m _ _ _ (lv_sub hl [0, 2] rfl) hw h
        · replace h := p_t hc h
          refine lv_aload_n hx hb dX4_heard_33 rfl (lv_at hl 0 rfl) ?_
          obtain ⟨z5, hq, h⟩ := p_bd h
          refine w_Vv C hw (As := []) (rest := []) (c4_aMinute l G x m z5 hq) kv_X4_aMinute ml_X4_146 ⟨rfl, rfl⟩ ⟨Nat.le_of_ble_eq_true rfl, Nat.le_of_ble_eq_true rfl⟩ ⟨Nat.zero_le _, Nat.zero_le _⟩ (w_recv C hw (wk_model G x m) rfl) rfl rfl (Nat.le_of_ble_eq_true rfl) (lv_sub hl [] rfl) dX4_heard_34 (fun H locs hw => ?_)
          refine lv_iinc (v := (b2 + (1 : Int32))) (lv' := [(2, .int (b2 + (1 : Int32))), (0, .ref (gq G 25)), (1, .int b1)]) hx hb dX4_heard_37 hl (k := 2) rfl rfl (by decide) rfl (fun ls hl => ?_)
          refine lv_goto (tgt := 19) hx hb dX4_heard_40 (by decide) ?_
          exact ih19 b1 (b2 + (1 : Int32)) z5 _ _ _ (lv_sub hl [1, 2, 0] rfl) hw h
  unfold f4_heard at h
  refine lv_iload_n hx hb dX4_heard_0 rfl (lv_at hl 1 rfl) ?_
  refine w_Si C hw (As := [.int a1]) (rest := []) (c4_isCorner l G x m a1 _ rfl) ks_X4_isCorner ml_X4_76 ⟨rfl, rfl⟩ ⟨Nat.le_of_ble_eq_true rfl, Nat.le_of_ble_eq_true rfl⟩ ⟨Nat.zero_le _, Nat.zero_le _⟩ rfl rfl (Nat.le_of_ble_eq_true rfl) (lv_sub hl [] rfl) dX4_heard_1 (fun H locs hw => ?_)
  refine lv_if_ne (tgt := 13) hx hb dX4_heard_4 (by decide) (fun hc => ?_) (fun hc => ?_)
  · replace h := p_f hc h
    refine lv_aload_n hx hb dX4_heard_13 rfl (lv_at hl 0 rfl) ?_
    obtain ⟨z1, hq, h⟩ := p_bd h
    refine w_Vv C hw (As := []) (rest := []) (c4_lends l G x m z1 hq) kv_X4_lends ml_X4_168 ⟨rfl, rfl⟩ ⟨Nat.le_of_ble_eq_true rfl, Nat.le_of_ble_eq_true rfl⟩ ⟨Nat.zero_le _, Nat.zero_le _⟩ (w_recv C hw (wk_model G x m) rfl) rfl rfl (Nat.le_of_ble_eq_true rfl) (lv_sub hl [] rfl) dX4_heard_14 (fun H locs hw => ?_)
    refine lv_iconst (v := (0 : Int32)) hx hb dX4_heard_17 (by decide) ?_
    refine lv_istore_n (lv' := [(2, .int (0 : Int32)), (0, .ref (gq G 25)), (1, .int a1)]) hx hb dX4_heard_18 rfl hl (by decide) rfl (fun ls hl => ?_)
    exact L19 fu a1 (0 : Int32) z1 _ _ _ (lv_sub hl [1, 2, 0] rfl) hw h
  · replace h := p_t hc h
    refine lv_aload_n hx hb dX4_heard_7 rfl (lv_at hl 0 rfl) ?_
    refine lv_iconst (v := (0 : Int32)) hx hb dX4_heard_8 (by decide) ?_
    obtain ⟨⟨v3, z2⟩, hq, h⟩ := p_bd h
    dsimp only at h
    refine w_Vi C hw (As := [.int (0 : Int32)]) (rest := []) (c4_finds l G x m (0 : Int32) (v3, z2) hq) kv_X4_finds ml_X4_82 ⟨rfl, rfl⟩ ⟨Nat.le_of_ble_eq_true rfl, Nat.le_of_ble_eq_true rfl⟩ ⟨Nat.zero_le _, Nat.zero_le _⟩ (w_recv C hw (wk_model G x m) rfl) rfl rfl (Nat.le_of_ble_eq_true rfl) (lv_sub hl [] rfl) dX4_heard_9 (fun H locs hw => ?_)
    replace h := Option.some.inj h
    subst h
    exact w_iret C hw (v := v3) rfl rfl dX4_heard_12

def f4_moves  (a1 : Int32) (m : St) : Option (Int32) :=
  (f4_its a1 (1 : Int32) m).bind fun v1 =>
  (f4_steep v1 m).bind fun v2 =>
  if v2 ≤ 0 then
    some (0 : Int32)
  else
    (f4_speed a1 m).bind fun v3 =>
    if v3 ≤ 0 then
      some (0 : Int32)
    else
      some (1 : Int32)
set_option maxHeartbeats 4000000 in
set_option maxRecDepth 100000 in
theorem c4_moves (l : Launch) (G : GT)  (x m : St) (a1 : Int32) (r : Int32) (h : f4_moves a1 m = some r) : Mt l yX4_moves cX4_moves 2 (some .boolean) (rmF 3 69) G x m [.ref (gq G 25), .int a1] (some (.int r)) x m := by
  refine Mt.of (by decide) (Nat.le_of_ble_eq_true rfl) ?_
  intro p e s mm args below meth c C ls hl hw
  have hx := C.1
  have hb := C.2.1
  have hown := C.2.2.2.2.1
  replace hl : lv_has ls 2 [(0, .ref (gq G 25)), (1, .int a1)] := hl
  unfold f4_moves at h
  refine lv_aload_n hx hb dX4_moves_0 rfl (lv_at hl 0 rfl) ?_
  refine lv_aload_n hx hb dX4_moves_1 rfl (lv_at hl 0 rfl) ?_
  refine lv_iload_n hx hb dX4_moves_2 rfl (lv_at hl 1 rfl) ?_
  refine lv_iconst (v := (1 : Int32)) hx hb dX4_moves_3 (by decide) ?_
  obtain ⟨v1, hq, h⟩ := p_bd h
  refine w_Vi C hw (As := [.int a1, .int (1 : Int32)]) (rest := [.ref (gq G 25)]) (c4_its l G x m a1 (1 : Int32) v1 hq) kv_X4_its ml_X4_69 ⟨rfl, rfl⟩ ⟨Nat.le_of_ble_eq_true rfl, Nat.le_of_ble_eq_true rfl⟩ ⟨Nat.zero_le _, Nat.zero_le _⟩ (w_recv C hw (wk_model G x m) rfl) rfl rfl (Nat.le_of_ble_eq_true rfl) (lv_sub hl [] rfl) dX4_moves_4 (fun H locs hw => ?_)
  obtain ⟨v2, hq, h⟩ := p_bd h
  refine w_Vi C hw (As := [.int v1]) (rest := []) (c4_steep l G x m v1 v2 hq) kv_X4_steep ml_X4_85 ⟨rfl, rfl⟩ ⟨Nat.le_of_ble_eq_true rfl, Nat.le_of_ble_eq_true rfl⟩ ⟨Nat.zero_le _, Nat.zero_le _⟩ (w_recv C hw (wk_model G x m) rfl) rfl rfl (Nat.le_of_ble_eq_true rfl) (lv_sub hl [] rfl) dX4_moves_7 (fun H locs hw => ?_)
  refine lv_if_le (tgt := 25) hx hb dX4_moves_10 (by decide) (fun hc => ?_) (fun hc => ?_)
  · replace h := p_t hc h
    refine lv_iconst (v := (0 : Int32)) hx hb dX4_moves_25 (by decide) ?_
    replace h := Option.some.inj h
    subst h
    exact w_iret C hw (v := (0 : Int32)) rfl rfl dX4_moves_26
  · replace h := p_f hc h
    refine lv_aload_n hx hb dX4_moves_13 rfl (lv_at hl 0 rfl) ?_
    refine lv_iload_n hx hb dX4_moves_14 rfl (lv_at hl 1 rfl) ?_
    obtain ⟨v3, hq, h⟩ := p_bd h
    refine w_Vi C hw (As := [.int a1]) (rest := []) (c4_speed l G x m a1 v3 hq) kv_X4_speed ml_X4_120 ⟨rfl, rfl⟩ ⟨Nat.le_of_ble_eq_true rfl, Nat.le_of_ble_eq_true rfl⟩ ⟨Nat.zero_le _, Nat.zero_le _⟩ (w_recv C hw (wk_model G x m) rfl) rfl rfl (Nat.le_of_ble_eq_true rfl) (lv_sub hl [] rfl) dX4_moves_15 (fun H locs hw => ?_)
    refine lv_if_le (tgt := 25) hx hb dX4_moves_18 (by decide) (fun hc => ?_) (fun hc => ?_)
    · replace h := p_t hc h
      refine lv_iconst (v := (0 : Int32)) hx hb dX4_moves_25 (by decide) ?_
      replace h := Option.some.inj h
      subst h
      exact w_iret C hw (v := (0 : Int32)) rfl rfl dX4_moves_26
    · replace h := p_f hc h
      refine lv_iconst (v := (1 : Int32)) hx hb dX4_moves_21 (by decide) ?_
      refine lv_goto (tgt := 26) hx hb dX4_moves_22 (by decide) ?_
      replace h := Option.some.inj h
      subst h
      exact w_iret C hw (v := (1 : Int32)) rfl rfl dX4_moves_26

def f4_isStill_b31  (k4 : Int32 → Int32 → St → Option (Int32)) (b2 : Int32) (w0 : Int32) (m : St) : Option (Int32) :=
  k4 w0 (b2 + (1 : Int32)) m
def f4_isStill_b30  (k4 : Int32 → Int32 → St → Option (Int32)) (b2 : Int32) (m : St) : Option (Int32) :=
  f4_isStill_b31 k4 b2 (0 : Int32) m
def f4_isStill_L4   : Nat → Int32 → Int32 → St → Option (Int32)
  | 0, _, _, _ => none
  | n + 1, b1, b2, m =>
    if (1 : Int32) < 0 ∨ 119 ≤ (1 : Int32).toNatClampNeg then none else
    if (m 26 (1 : Int32).toNatClampNeg) ≤ b2 then
      if b1 = 0 ∨ b1 = 1 then
        some b1
      else none
    else
      if b1 = 0 then
        f4_isStill_b30 (f4_isStill_L4 n) b2 m
      else
        (f4_moves b2 m).bind fun v1 =>
        if v1 = 0 then
          f4_isStill_b31 (f4_isStill_L4 n) b2 (1 : Int32) m
        else
          f4_isStill_b30 (f4_isStill_L4 n) b2 m
theorem f4_isStill_L4_0   (b1 : Int32) (b2 : Int32) (m : St) : f4_isStill_L4  0 b1 b2 m = none := rfl
theorem f4_isStill_L4_s   (n : Nat) (b1 : Int32) (b2 : Int32) (m : St) : f4_isStill_L4  (n + 1) b1 b2 m =
    if (1 : Int32) < 0 ∨ 119 ≤ (1 : Int32).toNatClampNeg then none else
    if (m 26 (1 : Int32).toNatClampNeg) ≤ b2 then
      if b1 = 0 ∨ b1 = 1 then
        some b1
      else none
    else
      if b1 = 0 then
        f4_isStill_b30 (f4_isStill_L4 n) b2 m
      else
        (f4_moves b2 m).bind fun v1 =>
        if v1 = 0 then
          f4_isStill_b31 (f4_isStill_L4 n) b2 (1 : Int32) m
        else
          f4_isStill_b30 (f4_isStill_L4 n) b2 m := rfl
def f4_isStill   (m : St) : Option (Int32) :=
  f4_isStill_L4 fu (1 : Int32) (0 : Int32) m
set_option maxHeartbeats 4000000 in
set_option maxRecDepth 100000 in
theorem c4_isStill (l : Launch) (G : GT)  (x m : St)  (r : Int32) (h : f4_isStill m = some r) : Mt l yX4_isStill cX4_isStill 3 (some .boolean) (rmF 4 90) G x m [.ref (gq G 25)] (some (.int r)) x m := by
  refine Mt.of (by decide) (Nat.le_of_ble_eq_true rfl) ?_
  intro p e s mm args below meth c C ls hl hw
  have hx := C.1
  have hb := C.2.1
  have hown := C.2.2.2.2.1
  replace hl : lv_has ls 3 [(0, .ref (gq G 25))] := hl
  have L4 : ∀ (n4 : Nat) (b1 : Int32) (b2 : Int32) (H : Heap) (locs : List Loc) (ls : Array Slot), lv_has ls 3 [(0, .ref (gq G 25)), (1, .int b1), (2, .int b2)] → Wd G s x m H locs → f4_isStill_L4 n4 b1 b2 m = some r → W p l e (rmF 4 90) s mm args below meth c H locs 0 0 (QE below G (some (.int r)) x m args s) (F0 mm 4 ls []) := by
    intro n4
    induction n4 with
    | zero =>
      intro b1 b2  H locs ls hl hw h
      rw [f4_isStill_L4_0] at h
      exact absurd h.symm (Option.some_ne_none _)
    | succ n4 ih4 =>
      have B31 : ∀ (b2 : Int32) (w0 : Int32) (H : Heap) (locs : List Loc) (ls : Array Slot), lv_has ls 3 [(0, .ref (gq G 25)), (2, .int b2)] → Wd G s x m H locs → f4_isStill_b31 (f4_isStill_L4 n4) b2 w0 m = some r → W p l e (rmF 4 90) s mm args below meth c H locs 0 0 (QE below G (some (.int r)) x m args s) (F0 mm 31 ls [.int w0]) := by
        intro b2 w0  H locs ls hl hw h
        unfold f4_isStill_b31 at h
        refine lv_istore_n (lv' := [(1, .int w0), (0, .ref (gq G 25)), (2, .int b2)]) hx hb dX4_isStill_31 rfl hl (by decide) rfl (fun ls hl => ?_)
        refine lv_iinc (v := (b2 + (1 : Int32))) (lv' := [(2, .int (b2 + (1 : Int32))), (1, .int w0), (0, .ref (gq G 25))]) hx hb dX4_isStill_32 hl (k := 2) rfl rfl (by decide) rfl (fun ls hl => ?_)
        refine lv_goto (tgt := 4) hx hb dX4_isStill_35 (by decide) ?_
        exact ih4 w0 (b2 + (1 : Int32)) _ _ _ (lv_sub hl [2, 1, 0] rfl) hw h
      have B30 : ∀ (b2 : Int32) (H : Heap) (locs : List Loc) (ls : Array Slot), lv_has ls 3 [(0, .ref (gq G 25)), (2, .int b2)] → Wd G s x m H locs → f4_isStill_b30 (f4_isStill_L4 n4) b2 m = some r → W p l e (rmF 4 90) s mm args below meth c H locs 0 0 (QE below G (some (.int r)) x m args s) (F0 mm 30 ls []) := by
        intro b2  H locs ls hl hw h
        unfold f4_isStill_b30 at h
        refine lv_iconst (v := (0 : Int32)) hx hb dX4_isStill_30 (by decide) ?_
        exact B31 b2 (0 : Int32) _ _ _ (lv_sub hl [0, 1] rfl) hw h
      intro b1 b2  H locs ls hl hw h
      rw [f4_isStill_L4_s] at h
      refine lv_iload_n hx hb dX4_isStill_4 rfl (lv_at hl 2 rfl) ?_
      refine lv_aload_n hx hb dX4_isStill_5 rfl (lv_at hl 0 rfl) ?_
      refine w_get C hw (v := .ref (gq G 26)) (k := 0) (wk_model G x m) rfl it_4 (by decide) fl_X4_9 rfl dX4_isStill_6 ?_
      refine lv_iconst (v := (1 : Int32)) hx hb dX4_isStill_9 (by decide) ?_
      obtain ⟨hq, h⟩ := p_if h
      refine w_ald C hw (am_26 G x m).1 hq dX4_isStill_10 ?_
      refine lv_icmp_ge (tgt := 38) hx hb dX4_isStill_11 (by decide) (fun hc => ?_) (fun hc => ?_)
      · replace h := p_t hc h
        refine lv_iload_n hx hb dX4_isStill_38 rfl (lv_at hl 1 rfl) ?_
        obtain ⟨hq, h⟩ := p_ck h
        replace h := Option.some.inj h
        subst h
        exact w_iret C hw (v := b1) rfl (nz_b hq) dX4_isStill_39
      · replace h := p_f hc h
        refine lv_iload_n hx hb dX4_isStill_14 rfl (lv_at hl 1 rfl) ?_
        refine lv_if_eq (tgt := 30) hx hb dX4_isStill_15 (by decide) (fun hc => ?_) (fun hc => ?_)
        · replace h := p_t hc h
          exact B30 b2 _ _ _ (lv_sub hl [0, 2] rfl) hw h
        · replace h := p_f hc h
          refine lv_aload_n hx hb dX4_isStill_18 rfl (lv_at hl 0 rfl) ?_
          refine lv_iload_n hx hb dX4_isStill_19 rfl (lv_at hl 2 rfl) ?_
          obtain ⟨v1, hq, h⟩ := p_bd h
          refine w_Vi C hw (As := [.int b2]) (rest := []) (c4_moves l G x m b2 v1 hq) kv_X4_moves ml_X4_177 ⟨rfl, rfl⟩ ⟨Nat.le_of_ble_eq_true rfl, Nat.le_of_ble_eq_true rfl⟩ ⟨Nat.zero_le _, Nat.zero_le _⟩ (w_recv C hw (wk_model G x m) rfl) rfl rfl (Nat.le_of_ble_eq_true rfl) (lv_sub hl [] rfl) dX4_isStill_20 (fun H locs hw => ?_)
          refine lv_if_ne (tgt := 30) hx hb dX4_isStill_23 (by decide) (fun hc => ?_) (fun hc => ?_)
          · replace h := p_f hc h
            exact B30 b2 _ _ _ (lv_sub hl [0, 2] rfl) hw h
          · replace h := p_t hc h
            refine lv_iconst (v := (1 : Int32)) hx hb dX4_isStill_26 (by decide) ?_
            refine lv_goto (tgt := 31) hx hb dX4_isStill_27 (by decide) ?_
            exact B31 b2 (1 : Int32) _ _ _ (lv_sub hl [0, 2] rfl) hw h
  unfold f4_isStill at h
  refine lv_iconst (v := (1 : Int32)) hx hb dX4_isStill_0 (by decide) ?_
  refine lv_istore_n (lv' := [(1, .int (1 : Int32)), (0, .ref (gq G 25))]) hx hb dX4_isStill_1 rfl hl (by decide) rfl (fun ls hl => ?_)
  refine lv_iconst (v := (0 : Int32)) hx hb dX4_isStill_2 (by decide) ?_
  refine lv_istore_n (lv' := [(2, .int (0 : Int32)), (1, .int (1 : Int32)), (0, .ref (gq G 25))]) hx hb dX4_isStill_3 rfl hl (by decide) rfl (fun ls hl => ?_)
  exact L4 fu (1 : Int32) (0 : Int32) _ _ _ (lv_sub hl [2, 1, 0] rfl) hw h

def f4_still_b29   (b1 : Int32) (m : St) : Option (Int32 × St) :=
  (f4_laysBack m).bind fun z4 =>
  if (100 : Int32) < b1 then
    (f4_finds (3 : Int32) z4).bind fun q => match q with
    | (v6, z5) =>
      some (v6, z5)
  else
    some (b1, z4)
def f4_still_L6   : Nat → Int32 → St → Option (Int32 × St)
  | 0, _, _ => none
  | n + 1, b1, m =>
    if (100 : Int32) < b1 then
      f4_still_b29 b1 m
    else
      (f4_isStill m).bind fun v2 =>
      if v2 = 0 then
        (f4_aMinute m).bind fun z3 =>
        (f4_still_L6 n) (b1 + (1 : Int32)) z3
      else
        f4_still_b29 b1 m
theorem f4_still_L6_0   (b1 : Int32) (m : St) : f4_still_L6  0 b1 m = none := rfl
theorem f4_still_L6_s   (n : Nat) (b1 : Int32) (m : St) : f4_still_L6  (n + 1) b1 m =
    if (100 : Int32) < b1 then
      f4_still_b29 b1 m
    else
      (f4_isStill m).bind fun v2 =>
      if v2 = 0 then
        (f4_aMinute m).bind fun z3 =>
        (f4_still_L6 n) (b1 + (1 : Int32)) z3
      else
        f4_still_b29 b1 m := rfl
def f4_still   (m : St) : Option (Int32 × St) :=
  (f4_lends m).bind fun z1 =>
  f4_still_L6 fu (0 : Int32) z1
set_option maxHeartbeats 4000000 in
set_option maxRecDepth 100000 in
theorem c4_still (l : Launch) (G : GT)  (x m : St)  (r : Int32 × St) (h : f4_still m = some r) : Mt l yX4_still cX4_still 2 (some .int) (rmF 5 113) G x m [.ref (gq G 25)] (some (.int r.1)) x r.2 := by
  refine Mt.of (by decide) (Nat.le_of_ble_eq_true rfl) ?_
  intro p e s mm args below meth c C ls hl hw
  have hx := C.1
  have hb := C.2.1
  have hown := C.2.2.2.2.1
  replace hl : lv_has ls 2 [(0, .ref (gq G 25))] := hl
  have B29 : ∀ (b1 : Int32) (m : St) (H : Heap) (locs : List Loc) (ls : Array Slot), lv_has ls 2 [(0, .ref (gq G 25)), (1, .int b1)] → Wd G s x m H locs → f4_still_b29 b1 m = some r → W p l e (rmF 5 113) s mm args below meth c H locs 0 0 (QE below G (some (.int r.1)) x r.2 args s) (F0 mm 29 ls []) := by
    intro b1 m H locs ls hl hw h
    unfold f4_still_b29 at h
    refine lv_aload_n hx hb dX4_still_29 rfl (lv_at hl 0 rfl) ?_
    obtain ⟨z4, hq, h⟩ := p_bd h
    refine w_Vv C hw (As := []) (rest := []) (c4_laysBack l G x m z4 hq) kv_X4_laysBack ml_X4_171 ⟨rfl, rfl⟩ ⟨Nat.le_of_ble_eq_true rfl, Nat.le_of_ble_eq_true rfl⟩ ⟨Nat.zero_le _, Nat.zero_le _⟩ (w_recv C hw (wk_model G x m) rfl) rfl rfl (Nat.le_of_ble_eq_true rfl) (lv_sub hl [] rfl) dX4_still_30 (fun H locs hw => ?_)
    refine lv_iload_n hx hb dX4_still_33 rfl (lv_at hl 1 rfl) ?_
    refine lv_bipush (v := (100 : Int32)) hx hb dX4_still_34 (by decide) ?_
    refine lv_icmp_gt (tgt := 43) hx hb dX4_still_36 (by decide) (fun hc => ?_) (fun hc => ?_)
    · replace h := p_t hc h
      refine lv_aload_n hx hb dX4_still_43 rfl (lv_at hl 0 rfl) ?_
      refine lv_iconst (v := (3 : Int32)) hx hb dX4_still_44 (by decide) ?_
      obtain ⟨⟨v6, z5⟩, hq, h⟩ := p_bd h
      dsimp only at h
      refine w_Vi C hw (As := [.int (3 : Int32)]) (rest := []) (c4_finds l G x z4 (3 : Int32) (v6, z5) hq) kv_X4_finds ml_X4_82 ⟨rfl, rfl⟩ ⟨Nat.le_of_ble_eq_true rfl, Nat.le_of_ble_eq_true rfl⟩ ⟨Nat.zero_le _, Nat.zero_le _⟩ (w_recv C hw (wk_model G x z4) rfl) rfl rfl (Nat.le_of_ble_eq_true rfl) (lv_sub hl [] rfl) dX4_still_45 (fun H locs hw => ?_)
      replace h := Option.some.inj h
      subst h
      exact w_iret C hw (v := v6) rfl rfl dX4_still_48
    · replace h := p_f hc h
      refine lv_iload_n hx hb dX4_still_39 rfl (lv_at hl 1 rfl) ?_
      refine lv_goto (tgt := 48) hx hb dX4_still_40 (by decide) ?_
      replace h := Option.some.inj h
      subst h
      exact w_iret C hw (v := b1) rfl rfl dX4_still_48
  have L6 : ∀ (n6 : Nat) (b1 : Int32) (m : St) (H : Heap) (locs : List Loc) (ls : Array Slot), lv_has ls 2 [(0, .ref (gq G 25)), (1, .int b1)] → Wd G s x m H locs → f4_still_L6 n6 b1 m = some r → W p l e (rmF 5 113) s mm args below meth c H locs 0 0 (QE below G (some (.int r.1)) x r.2 args s) (F0 mm 6 ls []) := by
    intro n6
    induction n6 with
    | zero =>
      intro b1 m H locs ls hl hw h
      rw [f4_still_L6_0] at h
      exact absurd h.symm (Option.some_ne_none _)
    | succ n6 ih6 =>
      intro b1 m H locs ls hl hw h
      rw [f4_still_L6_s] at h
      refine lv_iload_n hx hb dX4_still_6 rfl (lv_at hl 1 rfl) ?_
      refine lv_bipush (v := (100 : Int32)) hx hb dX4_still_7 (by decide) ?_
      refine lv_icmp_gt (tgt := 29) hx hb dX4_still_9 (by decide) (fun hc => ?_) (fun hc => ?_)
      · replace h := p_t hc h
        exact B29 b1 m _ _ _ (lv_sub hl [0, 1] rfl) hw h
      · replace h := p_f hc h
        refine lv_aload_n hx hb dX4_still_12 rfl (lv_at hl 0 rfl) ?_
        obtain ⟨v2, hq, h⟩ := p_bd h
        refine w_Vi C hw (As := []) (rest := []) (c4_isStill l G x m v2 hq) kv_X4_isStill ml_X4_180 ⟨rfl, rfl⟩ ⟨Nat.le_of_ble_eq_true rfl, Nat.le_of_ble_eq_true rfl⟩ ⟨Nat.zero_le _, Nat.zero_le _⟩ (w_recv C hw (wk_model G x m) rfl) rfl rfl (Nat.le_of_ble_eq_true rfl) (lv_sub hl [] rfl) dX4_still_13 (fun H locs hw => ?_)
        refine lv_if_ne (tgt := 29) hx hb dX4_still_16 (by decide) (fun hc => ?_) (fun hc => ?_)
        · replace h := p_f hc h
          exact B29 b1 m _ _ _ (lv_sub hl [0, 1] rfl) hw h
        · replace h := p_t hc h
          refine lv_aload_n hx hb dX4_still_19 rfl (lv_at hl 0 rfl) ?_
          obtain ⟨z3, hq, h⟩ := p_bd h
          refine w_Vv C hw (As := []) (rest := []) (c4_aMinute l G x m z3 hq) kv_X4_aMinute ml_X4_146 ⟨rfl, rfl⟩ ⟨Nat.le_of_ble_eq_true rfl, Nat.le_of_ble_eq_true rfl⟩ ⟨Nat.zero_le _, Nat.zero_le _⟩ (w_recv C hw (wk_model G x m) rfl) rfl rfl (Nat.le_of_ble_eq_true rfl) (lv_sub hl [] rfl) dX4_still_20 (fun H locs hw => ?_)
          refine lv_iinc (v := (b1 + (1 : Int32))) (lv' := [(1, .int (b1 + (1 : Int32))), (0, .ref (gq G 25))]) hx hb dX4_still_23 hl (k := 1) rfl rfl (by decide) rfl (fun ls hl => ?_)
          refine lv_goto (tgt := 6) hx hb dX4_still_26 (by decide) ?_
          exact ih6 (b1 + (1 : Int32)) z3 _ _ _ (lv_sub hl [1, 0] rfl) hw h
  unfold f4_still at h
  refine lv_aload_n hx hb dX4_still_0 rfl (lv_at hl 0 rfl) ?_
  obtain ⟨z1, hq, h⟩ := p_bd h
  refine w_Vv C hw (As := []) (rest := []) (c4_lends l G x m z1 hq) kv_X4_lends ml_X4_168 ⟨rfl, rfl⟩ ⟨Nat.le_of_ble_eq_true rfl, Nat.le_of_ble_eq_true rfl⟩ ⟨Nat.zero_le _, Nat.zero_le _⟩ (w_recv C hw (wk_model G x m) rfl) rfl rfl (Nat.le_of_ble_eq_true rfl) (lv_sub hl [] rfl) dX4_still_1 (fun H locs hw => ?_)
  refine lv_iconst (v := (0 : Int32)) hx hb dX4_still_4 (by decide) ?_
  refine lv_istore_n (lv' := [(1, .int (0 : Int32)), (0, .ref (gq G 25))]) hx hb dX4_still_5 rfl hl (by decide) rfl (fun ls hl => ?_)
  exact L6 fu (0 : Int32) z1 _ _ _ (lv_sub hl [1, 0] rfl) hw h

def f4_comesHome_b33   (b2 : Int32) (m : St) : Option (Int32 × St) :=
  (f4_laysBack m).bind fun z4 =>
  some (b2, z4)
def f4_comesHome_L6   : Nat → Int32 → Int32 → St → Option (Int32 × St)
  | 0, _, _, _ => none
  | n + 1, b1, b2, m =>
    if (100 : Int32) < b2 then
      f4_comesHome_b33 b2 m
    else
      (f4_its b1 (1 : Int32) m).bind fun v2 =>
      if v2 = (15 : Int32) then
        f4_comesHome_b33 b2 m
      else
        (f4_aMinute m).bind fun z3 =>
        (f4_comesHome_L6 n) b1 (b2 + (1 : Int32)) z3
theorem f4_comesHome_L6_0   (b1 : Int32) (b2 : Int32) (m : St) : f4_comesHome_L6  0 b1 b2 m = none := rfl
theorem f4_comesHome_L6_s   (n : Nat) (b1 : Int32) (b2 : Int32) (m : St) : f4_comesHome_L6  (n + 1) b1 b2 m =
    if (100 : Int32) < b2 then
      f4_comesHome_b33 b2 m
    else
      (f4_its b1 (1 : Int32) m).bind fun v2 =>
      if v2 = (15 : Int32) then
        f4_comesHome_b33 b2 m
      else
        (f4_aMinute m).bind fun z3 =>
        (f4_comesHome_L6 n) b1 (b2 + (1 : Int32)) z3 := rfl
def f4_comesHome  (a1 : Int32) (m : St) : Option (Int32 × St) :=
  (f4_lends m).bind fun z1 =>
  f4_comesHome_L6 fu a1 (0 : Int32) z1
set_option maxHeartbeats 4000000 in
set_option maxRecDepth 100000 in
theorem c4_comesHome (l : Launch) (G : GT)  (x m : St) (a1 : Int32) (r : Int32 × St) (h : f4_comesHome a1 m = some r) : Mt l yX4_comesHome cX4_comesHome 3 (some .int) (rmF 5 113) G x m [.ref (gq G 25), .int a1] (some (.int r.1)) x r.2 := by
  refine Mt.of (by decide) (Nat.le_of_ble_eq_true rfl) ?_
  intro p e s mm args below meth c C ls hl hw
  have hx := C.1
  have hb := C.2.1
  have hown := C.2.2.2.2.1
  replace hl : lv_has ls 3 [(0, .ref (gq G 25)), (1, .int a1)] := hl
  have B33 : ∀ (b2 : Int32) (m : St) (H : Heap) (locs : List Loc) (ls : Array Slot), lv_has ls 3 [(0, .ref (gq G 25)), (2, .int b2)] → Wd G s x m H locs → f4_comesHome_b33 b2 m = some r → W p l e (rmF 5 113) s mm args below meth c H locs 0 0 (QE below G (some (.int r.1)) x r.2 args s) (F0 mm 33 ls []) := by
    intro b2 m H locs ls hl hw h
    unfold f4_comesHome_b33 at h
    refine lv_aload_n hx hb dX4_comesHome_33 rfl (lv_at hl 0 rfl) ?_
    obtain ⟨z4, hq, h⟩ := p_bd h
    refine w_Vv C hw (As := []) (rest := []) (c4_laysBack l G x m z4 hq) kv_X4_laysBack ml_X4_171 ⟨rfl, rfl⟩ ⟨Nat.le_of_ble_eq_true rfl, Nat.le_of_ble_eq_true rfl⟩ ⟨Nat.zero_le _, Nat.zero_le _⟩ (w_recv C hw (wk_model G x m) rfl) rfl rfl (Nat.le_of_ble_eq_true rfl) (lv_sub hl [] rfl) dX4_comesHome_34 (fun H locs hw => ?_)
    refine lv_iload_n hx hb dX4_comesHome_37 rfl (lv_at hl 1 rfl) ?_
    replace h := Option.some.inj h
    subst h
    exact w_iret C hw (v := b2) rfl rfl dX4_comesHome_38
  have L6 : ∀ (n6 : Nat) (b1 : Int32) (b2 : Int32) (m : St) (H : Heap) (locs : List Loc) (ls : Array Slot), lv_has ls 3 [(0, .ref (gq G 25)), (1, .int b1), (2, .int b2)] → Wd G s x m H locs → f4_comesHome_L6 n6 b1 b2 m = some r → W p l e (rmF 5 113) s mm args below meth c H locs 0 0 (QE below G (some (.int r.1)) x r.2 args s) (F0 mm 6 ls []) := by
    intro n6
    induction n6 with
    | zero =>
      intro b1 b2 m H locs ls hl hw h
      rw [f4_comesHome_L6_0] at h
      exact absurd h.symm (Option.some_ne_none _)
    | succ n6 ih6 =>
      intro b1 b2 m H locs ls hl hw h
      rw [f4_comesHome_L6_s] at h
      refine lv_iload_n hx hb dX4_comesHome_6 rfl (lv_at hl 2 rfl) ?_
      refine lv_bipush (v := (100 : Int32)) hx hb dX4_comesHome_7 (by decide) ?_
      refine lv_icmp_gt (tgt := 33) hx hb dX4_comesHome_9 (by decide) (fun hc => ?_) (fun hc => ?_)
      · replace h := p_t hc h
        exact B33 b2 m _ _ _ (lv_sub hl [0, 2] rfl) hw h
      · replace h := p_f hc h
        refine lv_aload_n hx hb dX4_comesHome_12 rfl (lv_at hl 0 rfl) ?_
        refine lv_iload_n hx hb dX4_comesHome_13 rfl (lv_at hl 1 rfl) ?_
        refine lv_iconst (v := (1 : Int32)) hx hb dX4_comesHome_14 (by decide) ?_
        obtain ⟨v2, hq, h⟩ := p_bd h
        refine w_Vi C hw (As := [.int b1, .int (1 : Int32)]) (rest := []) (c4_its l G x m b1 (1 : Int32) v2 hq) kv_X4_its ml_X4_69 ⟨rfl, rfl⟩ ⟨Nat.le_of_ble_eq_true rfl, Nat.le_of_ble_eq_true rfl⟩ ⟨Nat.zero_le _, Nat.zero_le _⟩ (w_recv C hw (wk_model G x m) rfl) rfl rfl (Nat.le_of_ble_eq_true rfl) (lv_sub hl [] rfl) dX4_comesHome_15 (fun H locs hw => ?_)
        refine lv_bipush (v := (15 : Int32)) hx hb dX4_comesHome_18 (by decide) ?_
        refine lv_icmp_eq (tgt := 33) hx hb dX4_comesHome_20 (by decide) (fun hc => ?_) (fun hc => ?_)
        · replace h := p_t hc h
          exact B33 b2 m _ _ _ (lv_sub hl [0, 2] rfl) hw h
        · replace h := p_f hc h
          refine lv_aload_n hx hb dX4_comesHome_23 rfl (lv_at hl 0 rfl) ?_
          obtain ⟨z3, hq, h⟩ := p_bd h
          refine w_Vv C hw (As := []) (rest := []) (c4_aMinute l G x m z3 hq) kv_X4_aMinute ml_X4_146 ⟨rfl, rfl⟩ ⟨Nat.le_of_ble_eq_true rfl, Nat.le_of_ble_eq_true rfl⟩ ⟨Nat.zero_le _, Nat.zero_le _⟩ (w_recv C hw (wk_model G x m) rfl) rfl rfl (Nat.le_of_ble_eq_true rfl) (lv_sub hl [] rfl) dX4_comesHome_24 (fun H locs hw => ?_)
          refine lv_iinc (v := (b2 + (1 : Int32))) (lv' := [(2, .int (b2 + (1 : Int32))), (0, .ref (gq G 25)), (1, .int b1)]) hx hb dX4_comesHome_27 hl (k := 2) rfl rfl (by decide) rfl (fun ls hl => ?_)
          refine lv_goto (tgt := 6) hx hb dX4_comesHome_30 (by decide) ?_
          exact ih6 b1 (b2 + (1 : Int32)) z3 _ _ _ (lv_sub hl [1, 2, 0] rfl) hw h
  unfold f4_comesHome at h
  refine lv_aload_n hx hb dX4_comesHome_0 rfl (lv_at hl 0 rfl) ?_
  obtain ⟨z1, hq, h⟩ := p_bd h
  refine w_Vv C hw (As := []) (rest := []) (c4_lends l G x m z1 hq) kv_X4_lends ml_X4_168 ⟨rfl, rfl⟩ ⟨Nat.le_of_ble_eq_true rfl, Nat.le_of_ble_eq_true rfl⟩ ⟨Nat.zero_le _, Nat.zero_le _⟩ (w_recv C hw (wk_model G x m) rfl) rfl rfl (Nat.le_of_ble_eq_true rfl) (lv_sub hl [] rfl) dX4_comesHome_1 (fun H locs hw => ?_)
  refine lv_iconst (v := (0 : Int32)) hx hb dX4_comesHome_4 (by decide) ?_
  refine lv_istore_n (lv' := [(2, .int (0 : Int32)), (0, .ref (gq G 25)), (1, .int a1)]) hx hb dX4_comesHome_5 rfl hl (by decide) rfl (fun ls hl => ?_)
  exact L6 fu a1 (0 : Int32) z1 _ _ _ (lv_sub hl [1, 2, 0] rfl) hw h

def f4_harbour  (a1 : Int32) (m : St) : Option (Int32 × St) :=
  (f4_isWhisper a1 m).bind fun v1 =>
  if v1 = 0 then
    (f4_finds (0 : Int32) m).bind fun q => match q with
    | (v7, z6) =>
      some (v7, z6)
  else
    (f4_comesHome a1 m).bind fun q => match q with
    | (v3, z2) =>
      if (100 : Int32) < v3 then
        (f4_finds (3 : Int32) z2).bind fun q => match q with
        | (v5, z4) =>
          some (v5, z4)
      else
        some (v3, z2)
set_option maxHeartbeats 4000000 in
set_option maxRecDepth 100000 in
theorem c4_harbour (l : Launch) (G : GT)  (x m : St) (a1 : Int32) (r : Int32 × St) (h : f4_harbour a1 m = some r) : Mt l yX4_harbour cX4_harbour 3 (some .int) (rmF 6 135) G x m [.ref (gq G 25), .int a1] (some (.int r.1)) x r.2 := by
  refine Mt.of (by decide) (Nat.le_of_ble_eq_true rfl) ?_
  intro p e s mm args below meth c C ls hl hw
  have hx := C.1
  have hb := C.2.1
  have hown := C.2.2.2.2.1
  replace hl : lv_has ls 3 [(0, .ref (gq G 25)), (1, .int a1)] := hl
  unfold f4_harbour at h
  refine lv_aload_n hx hb dX4_harbour_0 rfl (lv_at hl 0 rfl) ?_
  refine lv_iload_n hx hb dX4_harbour_1 rfl (lv_at hl 1 rfl) ?_
  obtain ⟨v1, hq, h⟩ := p_bd h
  refine w_Vi C hw (As := [.int a1]) (rest := []) (c4_isWhisper l G x m a1 v1 hq) kv_X4_isWhisper ml_X4_117 ⟨rfl, rfl⟩ ⟨Nat.le_of_ble_eq_true rfl, Nat.le_of_ble_eq_true rfl⟩ ⟨Nat.zero_le _, Nat.zero_le _⟩ (w_recv C hw (wk_model G x m) rfl) rfl rfl (Nat.le_of_ble_eq_true rfl) (lv_sub hl [] rfl) dX4_harbour_2 (fun H locs hw => ?_)
  refine lv_if_ne (tgt := 14) hx hb dX4_harbour_5 (by decide) (fun hc => ?_) (fun hc => ?_)
  · replace h := p_f hc h
    refine lv_aload_n hx hb dX4_harbour_14 rfl (lv_at hl 0 rfl) ?_
    refine lv_iload_n hx hb dX4_harbour_15 rfl (lv_at hl 1 rfl) ?_
    obtain ⟨⟨v3, z2⟩, hq, h⟩ := p_bd h
    dsimp only at h
    refine w_Vi C hw (As := [.int a1]) (rest := []) (c4_comesHome l G x m a1 (v3, z2) hq) kv_X4_comesHome ml_X4_184 ⟨rfl, rfl⟩ ⟨Nat.le_of_ble_eq_true rfl, Nat.le_of_ble_eq_true rfl⟩ ⟨Nat.zero_le _, Nat.zero_le _⟩ (w_recv C hw (wk_model G x m) rfl) rfl rfl (Nat.le_of_ble_eq_true rfl) (lv_sub hl [] rfl) dX4_harbour_16 (fun H locs hw => ?_)
    refine lv_istore_n (lv' := [(2, .int v3), (0, .ref (gq G 25)), (1, .int a1)]) hx hb dX4_harbour_19 rfl hl (by decide) rfl (fun ls hl => ?_)
    refine lv_iload_n hx hb dX4_harbour_20 rfl (lv_at hl 0 rfl) ?_
    refine lv_bipush (v := (100 : Int32)) hx hb dX4_harbour_21 (by decide) ?_
    refine lv_icmp_gt (tgt := 30) hx hb dX4_harbour_23 (by decide) (fun hc => ?_) (fun hc => ?_)
    · replace h := p_t hc h
      refine lv_aload_n hx hb dX4_harbour_30 rfl (lv_at hl 1 rfl) ?_
      refine lv_iconst (v := (3 : Int32)) hx hb dX4_harbour_31 (by decide) ?_
      obtain ⟨⟨v5, z4⟩, hq, h⟩ := p_bd h
      dsimp only at h
      refine w_Vi C hw (As := [.int (3 : Int32)]) (rest := []) (c4_finds l G x z2 (3 : Int32) (v5, z4) hq) kv_X4_finds ml_X4_82 ⟨rfl, rfl⟩ ⟨Nat.le_of_ble_eq_true rfl, Nat.le_of_ble_eq_true rfl⟩ ⟨Nat.zero_le _, Nat.zero_le _⟩ (w_recv C hw (wk_model G x z2) rfl) rfl rfl (Nat.le_of_ble_eq_true rfl) (lv_sub hl [] rfl) dX4_harbour_32 (fun H locs hw => ?_)
      replace h := Option.some.inj h
      subst h
      exact w_iret C hw (v := v5) rfl rfl dX4_harbour_35
    · replace h := p_f hc h
      refine lv_iload_n hx hb dX4_harbour_26 rfl (lv_at hl 0 rfl) ?_
      refine lv_goto (tgt := 35) hx hb dX4_harbour_27 (by decide) ?_
      replace h := Option.some.inj h
      subst h
      exact w_iret C hw (v := v3) rfl rfl dX4_harbour_35
  · replace h := p_t hc h
    refine lv_aload_n hx hb dX4_harbour_8 rfl (lv_at hl 0 rfl) ?_
    refine lv_iconst (v := (0 : Int32)) hx hb dX4_harbour_9 (by decide) ?_
    obtain ⟨⟨v7, z6⟩, hq, h⟩ := p_bd h
    dsimp only at h
    refine w_Vi C hw (As := [.int (0 : Int32)]) (rest := []) (c4_finds l G x m (0 : Int32) (v7, z6) hq) kv_X4_finds ml_X4_82 ⟨rfl, rfl⟩ ⟨Nat.le_of_ble_eq_true rfl, Nat.le_of_ble_eq_true rfl⟩ ⟨Nat.zero_le _, Nat.zero_le _⟩ (w_recv C hw (wk_model G x m) rfl) rfl rfl (Nat.le_of_ble_eq_true rfl) (lv_sub hl [] rfl) dX4_harbour_10 (fun H locs hw => ?_)
    replace h := Option.some.inj h
    subst h
    exact w_iret C hw (v := v7) rfl rfl dX4_harbour_13

def f4_loudest_L33   : Nat → Int32 → Int32 → Int32 → Int32 → St → Option (Int32 × St)
  | 0, _, _, _, _, _ => none
  | n + 1, b1, b2, b3, b4, m =>
    if b2 ≤ b4 then
      (f4_laysBack m).bind fun z5 =>
      some (b3, z5)
    else
      (f4_aMinute m).bind fun z6 =>
      (f4_loudAt b1 z6).bind fun v7 =>
      (f4_loudest_L33 n) b1 b2 (if b3 < v7 then v7 else b3) (b4 + (1 : Int32)) z6
theorem f4_loudest_L33_0   (b1 : Int32) (b2 : Int32) (b3 : Int32) (b4 : Int32) (m : St) : f4_loudest_L33  0 b1 b2 b3 b4 m = none := rfl
theorem f4_loudest_L33_s   (n : Nat) (b1 : Int32) (b2 : Int32) (b3 : Int32) (b4 : Int32) (m : St) : f4_loudest_L33  (n + 1) b1 b2 b3 b4 m =
    if b2 ≤ b4 then
      (f4_laysBack m).bind fun z5 =>
      some (b3, z5)
    else
      (f4_aMinute m).bind fun z6 =>
      (f4_loudAt b1 z6).bind fun v7 =>
      (f4_loudest_L33 n) b1 b2 (if b3 < v7 then v7 else b3) (b4 + (1 : Int32)) z6 := rfl
def f4_loudest_b14    (m : St) : Option (Int32 × St) :=
  (f4_finds (0 : Int32) m).bind fun q => match q with
  | (v4, z3) =>
    some (v4, z3)
def f4_loudest  (a1 : Int32) (a2 : Int32) (m : St) : Option (Int32 × St) :=
  if (f4_isCorner a1) = 0 then
    f4_loudest_b14 m
  else
    if (f4_isAhead a2) = 0 then
      f4_loudest_b14 m
    else
      (f4_lends m).bind fun z1 =>
      (f4_loudAt a1 z1).bind fun v2 =>
      f4_loudest_L33 fu a1 a2 v2 (0 : Int32) z1
set_option maxHeartbeats 4000000 in
set_option maxRecDepth 100000 in
theorem c4_loudest (l : Launch) (G : GT)  (x m : St) (a1 : Int32) (a2 : Int32) (r : Int32 × St) (h : f4_loudest a1 a2 m = some r) : Mt l yX4_loudest cX4_loudest 5 (some .int) (rmF 5 113) G x m [.ref (gq G 25), .int a1, .int a2] (some (.int r.1)) x r.2 := by
  refine Mt.of (by decide) (Nat.le_of_ble_eq_true rfl) ?_
  intro p e s mm args below meth c C ls hl hw
  have hx := C.1
  have hb := C.2.1
  have hown := C.2.2.2.2.1
  replace hl : lv_has ls 5 [(0, .ref (gq G 25)), (1, .int a1), (2, .int a2)] := hl
  have L33 : ∀ (n33 : Nat) (b1 : Int32) (b2 : Int32) (b3 : Int32) (b4 : Int32) (m : St) (H : Heap) (locs : List Loc) (ls : Array Slot), lv_has ls 5 [(0, .ref (gq G 25)), (1, .int b1), (2, .int b2), (3, .int b3), (4, .int b4)] → Wd G s x m H locs → f4_loudest_L33 n33 b1 b2 b3 b4 m = some r → W p l e (rmF 5 113) s mm args below meth c H locs 0 0 (QE below G (some (.int r.1)) x r.2 args s) (F0 mm 33 ls []) := by
    intro n33
    induction n33 with
    | zero =>
      intro b1 b2 b3 b4 m H locs ls hl hw h
      rw [f4_loudest_L33_0] at h
      exact absurd h.symm (Option.some_ne_none _)
    | succ n33 ih33 =>
      intro b1 b2 b3 b4 m H locs ls hl hw h
      rw [f4_loudest_L33_s] at h
      refine lv_iload hx hb dX4_loudest_33 (lv_at hl 4 rfl) ?_
      refine lv_iload_n hx hb dX4_loudest_35 rfl (lv_at hl 2 rfl) ?_
      refine lv_icmp_ge (tgt := 59) hx hb dX4_loudest_36 (by decide) (fun hc => ?_) (fun hc => ?_)
      · replace h := p_t hc h
        refine lv_aload_n hx hb dX4_loudest_59 rfl (lv_at hl 0 rfl) ?_
        obtain ⟨z5, hq, h⟩ := p_bd h
        refine w_Vv C hw (As := []) (rest := []) (c4_laysBack l G x m z5 hq) kv_X4_laysBack ml_X4_171 ⟨rfl, rfl⟩ ⟨Nat.le_of_ble_eq_true rfl, Nat.le_of_ble_eq_true rfl⟩ ⟨Nat.zero_le _, Nat.zero_le _⟩ (w_recv C hw (wk_model G x m) rfl) rfl rfl (Nat.le_of_ble_eq_true rfl) (lv_sub hl [] rfl) dX4_loudest_60 (fun H locs hw => ?_)
        refine lv_iload_n hx hb dX4_loudest_63 rfl (lv_at hl 3 rfl) ?_
        replace h := Option.some.inj h
        subst h
        exact w_iret C hw (v := b3) rfl rfl dX4_loudest_64
      · replace h := p_f hc h
        refine lv_aload_n hx hb dX4_loudest_39 rfl (lv_at hl 0 rfl) ?_
        obtain ⟨z6, hq, h⟩ := p_bd h
        refine w_Vv C hw (As := []) (rest := []) (c4_aMinute l G x m z6 hq) kv_X4_aMinute ml_X4_146 ⟨rfl, rfl⟩ ⟨Nat.le_of_ble_eq_true rfl, Nat.le_of_ble_eq_true rfl⟩ ⟨Nat.zero_le _, Nat.zero_le _⟩ (w_recv C hw (wk_model G x m) rfl) rfl rfl (Nat.le_of_ble_eq_true rfl) (lv_sub hl [] rfl) dX4_loudest_40 (fun H locs hw => ?_)
        refine lv_iload_n hx hb dX4_loudest_43 rfl (lv_at hl 3 rfl) ?_
        refine lv_aload_n hx hb dX4_loudest_44 rfl (lv_at hl 0 rfl) ?_
        refine lv_iload_n hx hb dX4_loudest_45 rfl (lv_at hl 1 rfl) ?_
        obtain ⟨v7, hq, h⟩ := p_bd h
        refine w_Vi C hw (As := [.int b1]) (rest := [.int b3]) (c4_loudAt l G x z6 b1 v7 hq) kv_X4_loudAt ml_X4_72 ⟨rfl, rfl⟩ ⟨Nat.le_of_ble_eq_true rfl, Nat.le_of_ble_eq_true rfl⟩ ⟨Nat.zero_le _, Nat.zero_le _⟩ (w_recv C hw (wk_model G x z6) rfl) rfl rfl (Nat.le_of_ble_eq_true rfl) (lv_sub hl [] rfl) dX4_loudest_46 (fun H locs hw => ?_)
        refine w_max C (lv_sub hl [] rfl) ml_X4_66 k_max ⟨Nat.le_of_ble_eq_true rfl, Nat.le_of_ble_eq_true rfl⟩ ⟨Nat.zero_le _, Nat.zero_le _⟩ (Nat.le_of_ble_eq_true rfl) dX4_loudest_49 ?_
        refine lv_istore_n (lv' := [(3, .int (if b3 < v7 then v7 else b3)), (0, .ref (gq G 25)), (1, .int b1), (2, .int b2), (4, .int b4)]) hx hb dX4_loudest_52 rfl hl (by decide) rfl (fun ls hl => ?_)
        refine lv_iinc (v := (b4 + (1 : Int32))) (lv' := [(4, .int (b4 + (1 : Int32))), (3, .int (if b3 < v7 then v7 else b3)), (0, .ref (gq G 25)), (1, .int b1), (2, .int b2)]) hx hb dX4_loudest_53 hl (k := 4) rfl rfl (by decide) rfl (fun ls hl => ?_)
        refine lv_goto (tgt := 33) hx hb dX4_loudest_56 (by decide) ?_
        exact ih33 b1 b2 (if b3 < v7 then v7 else b3) (b4 + (1 : Int32)) z6 _ _ _ (lv_sub hl [2, 3, 4, 1, 0] rfl) hw h
  have B14 : ∀  (m : St) (H : Heap) (locs : List Loc) (ls : Array Slot), lv_has ls 5 [(0, .ref (gq G 25))] → Wd G s x m H locs → f4_loudest_b14 m = some r → W p l e (rmF 5 113) s mm args below meth c H locs 0 0 (QE below G (some (.int r.1)) x r.2 args s) (F0 mm 14 ls []) := by
    intro  m H locs ls hl hw h
    unfold f4_loudest_b14 at h
    refine lv_aload_n hx hb dX4_loudest_14 rfl (lv_at hl 0 rfl) ?_
    refine lv_iconst (v := (0 : Int32)) hx hb dX4_loudest_15 (by decide) ?_
    obtain ⟨⟨v4, z3⟩, hq, h⟩ := p_bd h
    dsimp only at h
    refine w_Vi C hw (As := [.int (0 : Int32)]) (rest := []) (c4_finds l G x m (0 : Int32) (v4, z3) hq) kv_X4_finds ml_X4_82 ⟨rfl, rfl⟩ ⟨Nat.le_of_ble_eq_true rfl, Nat.le_of_ble_eq_true rfl⟩ ⟨Nat.zero_le _, Nat.zero_le _⟩ (w_recv C hw (wk_model G x m) rfl) rfl rfl (Nat.le_of_ble_eq_true rfl) (lv_sub hl [] rfl) dX4_loudest_16 (fun H locs hw => ?_)
    replace h := Option.some.inj h
    subst h
    exact w_iret C hw (v := v4) rfl rfl dX4_loudest_19
  unfold f4_loudest at h
  refine lv_iload_n hx hb dX4_loudest_0 rfl (lv_at hl 1 rfl) ?_
  refine w_Si C hw (As := [.int a1]) (rest := []) (c4_isCorner l G x m a1 _ rfl) ks_X4_isCorner ml_X4_76 ⟨rfl, rfl⟩ ⟨Nat.le_of_ble_eq_true rfl, Nat.le_of_ble_eq_true rfl⟩ ⟨Nat.zero_le _, Nat.zero_le _⟩ rfl rfl (Nat.le_of_ble_eq_true rfl) (lv_sub hl [] rfl) dX4_loudest_1 (fun H locs hw => ?_)
  refine lv_if_eq (tgt := 14) hx hb dX4_loudest_4 (by decide) (fun hc => ?_) (fun hc => ?_)
  · replace h := p_t hc h
    exact B14 m _ _ _ (lv_sub hl [0] rfl) hw h
  · replace h := p_f hc h
    refine lv_iload_n hx hb dX4_loudest_7 rfl (lv_at hl 2 rfl) ?_
    refine w_Si C hw (As := [.int a2]) (rest := []) (c4_isAhead l G x m a2 _ rfl) ks_X4_isAhead ml_X4_165 ⟨rfl, rfl⟩ ⟨Nat.le_of_ble_eq_true rfl, Nat.le_of_ble_eq_true rfl⟩ ⟨Nat.zero_le _, Nat.zero_le _⟩ rfl rfl (Nat.le_of_ble_eq_true rfl) (lv_sub hl [] rfl) dX4_loudest_8 (fun H locs hw => ?_)
    refine lv_if_ne (tgt := 20) hx hb dX4_loudest_11 (by decide) (fun hc => ?_) (fun hc => ?_)
    · replace h := p_f hc h
      refine lv_aload_n hx hb dX4_loudest_20 rfl (lv_at hl 0 rfl) ?_
      obtain ⟨z1, hq, h⟩ := p_bd h
      refine w_Vv C hw (As := []) (rest := []) (c4_lends l G x m z1 hq) kv_X4_lends ml_X4_168 ⟨rfl, rfl⟩ ⟨Nat.le_of_ble_eq_true rfl, Nat.le_of_ble_eq_true rfl⟩ ⟨Nat.zero_le _, Nat.zero_le _⟩ (w_recv C hw (wk_model G x m) rfl) rfl rfl (Nat.le_of_ble_eq_true rfl) (lv_sub hl [] rfl) dX4_loudest_21 (fun H locs hw => ?_)
      refine lv_aload_n hx hb dX4_loudest_24 rfl (lv_at hl 0 rfl) ?_
      refine lv_iload_n hx hb dX4_loudest_25 rfl (lv_at hl 1 rfl) ?_
      obtain ⟨v2, hq, h⟩ := p_bd h
      refine w_Vi C hw (As := [.int a1]) (rest := []) (c4_loudAt l G x z1 a1 v2 hq) kv_X4_loudAt ml_X4_72 ⟨rfl, rfl⟩ ⟨Nat.le_of_ble_eq_true rfl, Nat.le_of_ble_eq_true rfl⟩ ⟨Nat.zero_le _, Nat.zero_le _⟩ (w_recv C hw (wk_model G x z1) rfl) rfl rfl (Nat.le_of_ble_eq_true rfl) (lv_sub hl [] rfl) dX4_loudest_26 (fun H locs hw => ?_)
      refine lv_istore_n (lv' := [(3, .int v2), (0, .ref (gq G 25)), (1, .int a1), (2, .int a2)]) hx hb dX4_loudest_29 rfl hl (by decide) rfl (fun ls hl => ?_)
      refine lv_iconst (v := (0 : Int32)) hx hb dX4_loudest_30 (by decide) ?_
      refine lv_istore (lv' := [(4, .int (0 : Int32)), (3, .int v2), (0, .ref (gq G 25)), (1, .int a1), (2, .int a2)]) hx hb dX4_loudest_31 hl (by decide) rfl (fun ls hl => ?_)
      exact L33 fu a1 a2 v2 (0 : Int32) z1 _ _ _ (lv_sub hl [2, 3, 4, 1, 0] rfl) hw h
    · replace h := p_t hc h
      exact B14 m _ _ _ (lv_sub hl [0] rfl) hw h

def f4_heightOf  (a1 : Int32) (m : St) : Option (Int32) :=
  (f4_its a1 (1 : Int32) m).bind fun v1 =>
  (f4_part v1 (0 : Int32) m).bind fun v2 =>
  some v2
set_option maxHeartbeats 4000000 in
set_option maxRecDepth 100000 in
theorem c4_heightOf (l : Launch) (G : GT)  (x m : St) (a1 : Int32) (r : Int32) (h : f4_heightOf a1 m = some r) : Mt l yX4_heightOf cX4_heightOf 2 (some .int) (rmF 1 22) G x m [.ref (gq G 25), .int a1] (some (.int r)) x m := by
  refine Mt.of (by decide) (Nat.le_of_ble_eq_true rfl) ?_
  intro p e s mm args below meth c C ls hl hw
  have hx := C.1
  have hb := C.2.1
  have hown := C.2.2.2.2.1
  replace hl : lv_has ls 2 [(0, .ref (gq G 25)), (1, .int a1)] := hl
  unfold f4_heightOf at h
  refine lv_aload_n hx hb dX4_heightOf_0 rfl (lv_at hl 0 rfl) ?_
  refine lv_aload_n hx hb dX4_heightOf_1 rfl (lv_at hl 0 rfl) ?_
  refine lv_iload_n hx hb dX4_heightOf_2 rfl (lv_at hl 1 rfl) ?_
  refine lv_iconst (v := (1 : Int32)) hx hb dX4_heightOf_3 (by decide) ?_
  obtain ⟨v1, hq, h⟩ := p_bd h
  refine w_Vi C hw (As := [.int a1, .int (1 : Int32)]) (rest := [.ref (gq G 25)]) (c4_its l G x m a1 (1 : Int32) v1 hq) kv_X4_its ml_X4_69 ⟨rfl, rfl⟩ ⟨Nat.le_of_ble_eq_true rfl, Nat.le_of_ble_eq_true rfl⟩ ⟨Nat.zero_le _, Nat.zero_le _⟩ (w_recv C hw (wk_model G x m) rfl) rfl rfl (Nat.le_of_ble_eq_true rfl) (lv_sub hl [] rfl) dX4_heightOf_4 (fun H locs hw => ?_)
  refine lv_iconst (v := (0 : Int32)) hx hb dX4_heightOf_7 (by decide) ?_
  obtain ⟨v2, hq, h⟩ := p_bd h
  refine w_Vi C hw (As := [.int v1, .int (0 : Int32)]) (rest := []) (c4_part l G x m v1 (0 : Int32) v2 hq) kv_X4_part ml_X4_63 ⟨rfl, rfl⟩ ⟨Nat.le_of_ble_eq_true rfl, Nat.le_of_ble_eq_true rfl⟩ ⟨Nat.zero_le _, Nat.zero_le _⟩ (w_recv C hw (wk_model G x m) rfl) rfl rfl (Nat.le_of_ble_eq_true rfl) (lv_sub hl [] rfl) dX4_heightOf_8 (fun H locs hw => ?_)
  replace h := Option.some.inj h
  subst h
  exact w_iret C hw (v := v2) rfl rfl dX4_heightOf_11

def f4_overtakes_b62   (b3 : Int32) (m : St) : Option (Int32 × St) :=
  (f4_laysBack m).bind fun z9 =>
  if (100 : Int32) < b3 then
    (f4_finds (3 : Int32) z9).bind fun q => match q with
    | (v11, z10) =>
      some (v11, z10)
  else
    some (b3, z9)
def f4_overtakes_L33   : Nat → Int32 → Int32 → Int32 → St → Option (Int32 × St)
  | 0, _, _, _, _ => none
  | n + 1, b1, b2, b3, m =>
    if (100 : Int32) < b3 then
      f4_overtakes_b62 b3 m
    else
      (f4_heightOf b1 m).bind fun v6 =>
      (f4_heightOf b2 m).bind fun v7 =>
      if v6 < v7 then
        f4_overtakes_b62 b3 m
      else
        (f4_aMinute m).bind fun z8 =>
        (f4_overtakes_L33 n) b1 b2 (b3 + (1 : Int32)) z8
theorem f4_overtakes_L33_0   (b1 : Int32) (b2 : Int32) (b3 : Int32) (m : St) : f4_overtakes_L33  0 b1 b2 b3 m = none := rfl
theorem f4_overtakes_L33_s   (n : Nat) (b1 : Int32) (b2 : Int32) (b3 : Int32) (m : St) : f4_overtakes_L33  (n + 1) b1 b2 b3 m =
    if (100 : Int32) < b3 then
      f4_overtakes_b62 b3 m
    else
      (f4_heightOf b1 m).bind fun v6 =>
      (f4_heightOf b2 m).bind fun v7 =>
      if v6 < v7 then
        f4_overtakes_b62 b3 m
      else
        (f4_aMinute m).bind fun z8 =>
        (f4_overtakes_L33 n) b1 b2 (b3 + (1 : Int32)) z8 := rfl
def f4_overtakes_b21    (m : St) : Option (Int32 × St) :=
  (f4_finds (0 : Int32) m).bind fun q => match q with
  | (v5, z4) =>
    some (v5, z4)
def f4_overtakes  (a1 : Int32) (a2 : Int32) (m : St) : Option (Int32 × St) :=
  (f4_isWhisper a1 m).bind fun v1 =>
  if v1 = 0 then
    f4_overtakes_b21 m
  else
    (f4_isWhisper a2 m).bind fun v2 =>
    if v2 = 0 then
      f4_overtakes_b21 m
    else
      if a1 = a2 then
        f4_overtakes_b21 m
      else
        (f4_lends m).bind fun z3 =>
        f4_overtakes_L33 fu a1 a2 (0 : Int32) z3
set_option maxHeartbeats 4000000 in
set_option maxRecDepth 100000 in
theorem c4_overtakes (l : Launch) (G : GT)  (x m : St) (a1 : Int32) (a2 : Int32) (r : Int32 × St) (h : f4_overtakes a1 a2 m = some r) : Mt l yX4_overtakes cX4_overtakes 4 (some .int) (rmF 5 113) G x m [.ref (gq G 25), .int a1, .int a2] (some (.int r.1)) x r.2 := by
  refine Mt.of (by decide) (Nat.le_of_ble_eq_true rfl) ?_
  intro p e s mm args below meth c C ls hl hw
  have hx := C.1
  have hb := C.2.1
  have hown := C.2.2.2.2.1
  replace hl : lv_has ls 4 [(0, .ref (gq G 25)), (1, .int a1), (2, .int a2)] := hl
  have B62 : ∀ (b3 : Int32) (m : St) (H : Heap) (locs : List Loc) (ls : Array Slot), lv_has ls 4 [(0, .ref (gq G 25)), (3, .int b3)] → Wd G s x m H locs → f4_overtakes_b62 b3 m = some r → W p l e (rmF 5 113) s mm args below meth c H locs 0 0 (QE below G (some (.int r.1)) x r.2 args s) (F0 mm 62 ls []) := by
    intro b3 m H locs ls hl hw h
    unfold f4_overtakes_b62 at h
    refine lv_aload_n hx hb dX4_overtakes_62 rfl (lv_at hl 0 rfl) ?_
    obtain ⟨z9, hq, h⟩ := p_bd h
    refine w_Vv C hw (As := []) (rest := []) (c4_laysBack l G x m z9 hq) kv_X4_laysBack ml_X4_171 ⟨rfl, rfl⟩ ⟨Nat.le_of_ble_eq_true rfl, Nat.le_of_ble_eq_true rfl⟩ ⟨Nat.zero_le _, Nat.zero_le _⟩ (w_recv C hw (wk_model G x m) rfl) rfl rfl (Nat.le_of_ble_eq_true rfl) (lv_sub hl [] rfl) dX4_overtakes_63 (fun H locs hw => ?_)
    refine lv_iload_n hx hb dX4_overtakes_66 rfl (lv_at hl 1 rfl) ?_
    refine lv_bipush (v := (100 : Int32)) hx hb dX4_overtakes_67 (by decide) ?_
    refine lv_icmp_gt (tgt := 76) hx hb dX4_overtakes_69 (by decide) (fun hc => ?_) (fun hc => ?_)
    · replace h := p_t hc h
      refine lv_aload_n hx hb dX4_overtakes_76 rfl (lv_at hl 0 rfl) ?_
      refine lv_iconst (v := (3 : Int32)) hx hb dX4_overtakes_77 (by decide) ?_
      obtain ⟨⟨v11, z10⟩, hq, h⟩ := p_bd h
      dsimp only at h
      refine w_Vi C hw (As := [.int (3 : Int32)]) (rest := []) (c4_finds l G x z9 (3 : Int32) (v11, z10) hq) kv_X4_finds ml_X4_82 ⟨rfl, rfl⟩ ⟨Nat.le_of_ble_eq_true rfl, Nat.le_of_ble_eq_true rfl⟩ ⟨Nat.zero_le _, Nat.zero_le _⟩ (w_recv C hw (wk_model G x z9) rfl) rfl rfl (Nat.le_of_ble_eq_true rfl) (lv_sub hl [] rfl) dX4_overtakes_78 (fun H locs hw => ?_)
      replace h := Option.some.inj h
      subst h
      exact w_iret C hw (v := v11) rfl rfl dX4_overtakes_81
    · replace h := p_f hc h
      refine lv_iload_n hx hb dX4_overtakes_72 rfl (lv_at hl 1 rfl) ?_
      refine lv_goto (tgt := 81) hx hb dX4_overtakes_73 (by decide) ?_
      replace h := Option.some.inj h
      subst h
      exact w_iret C hw (v := b3) rfl rfl dX4_overtakes_81
  have L33 : ∀ (n33 : Nat) (b1 : Int32) (b2 : Int32) (b3 : Int32) (m : St) (H : Heap) (locs : List Loc) (ls : Array Slot), lv_has ls 4 [(0, .ref (gq G 25)), (1, .int b1), (2, .int b2), (3, .int b3)] → Wd G s x m H locs → f4_overtakes_L33 n33 b1 b2 b3 m = some r → W p l e (rmF 5 113) s mm args below meth c H locs 0 0 (QE below G (some (.int r.1)) x r.2 args s) (F0 mm 33 ls []) := by
    intro n33
    induction n33 with
    | zero =>
      intro b1 b2 b3 m H locs ls hl hw h
      rw [f4_overtakes_L33_0] at h
      exact absurd h.symm (Option.some_ne_none _)
    | succ n33 ih33 =>
      intro b1 b2 b3 m H locs ls hl hw h
      rw [f4_overtakes_L33_s] at h
      refine lv_iload_n hx hb dX4_overtakes_33 rfl (lv_at hl 3 rfl) ?_
      refine lv_bipush (v := (100 : Int32)) hx hb dX4_overtakes_34 (by decide) ?_
      refine lv_icmp_gt (tgt := 62) hx hb dX4_overtakes_36 (by decide) (fun hc => ?_) (fun hc => ?_)
      · replace h := p_t hc h
        exact B62 b3 m _ _ _ (lv_sub hl [0, 3] rfl) hw h
      · replace h := p_f hc h
        refine lv_aload_n hx hb dX4_overtakes_39 rfl (lv_at hl 0 rfl) ?_
        refine lv_iload_n hx hb dX4_overtakes_40 rfl (lv_at hl 1 rfl) ?_
        obtain ⟨v6, hq, h⟩ := p_bd h
        refine w_Vi C hw (As := [.int b1]) (rest := []) (c4_heightOf l G x m b1 v6 hq) kv_X4_heightOf ml_X4_187 ⟨rfl, rfl⟩ ⟨Nat.le_of_ble_eq_true rfl, Nat.le_of_ble_eq_true rfl⟩ ⟨Nat.zero_le _, Nat.zero_le _⟩ (w_recv C hw (wk_model G x m) rfl) rfl rfl (Nat.le_of_ble_eq_true rfl) (lv_sub hl [] rfl) dX4_overtakes_41 (fun H locs hw => ?_)
        refine lv_aload_n hx hb dX4_overtakes_44 rfl (lv_at hl 0 rfl) ?_
        refine lv_iload_n hx hb dX4_overtakes_45 rfl (lv_at hl 2 rfl) ?_
        obtain ⟨v7, hq, h⟩ := p_bd h
        refine w_Vi C hw (As := [.int b2]) (rest := [.int v6]) (c4_heightOf l G x m b2 v7 hq) kv_X4_heightOf ml_X4_187 ⟨rfl, rfl⟩ ⟨Nat.le_of_ble_eq_true rfl, Nat.le_of_ble_eq_true rfl⟩ ⟨Nat.zero_le _, Nat.zero_le _⟩ (w_recv C hw (wk_model G x m) rfl) rfl rfl (Nat.le_of_ble_eq_true rfl) (lv_sub hl [] rfl) dX4_overtakes_46 (fun H locs hw => ?_)
        refine lv_icmp_lt (tgt := 62) hx hb dX4_overtakes_49 (by decide) (fun hc => ?_) (fun hc => ?_)
        · replace h := p_t hc h
          exact B62 b3 m _ _ _ (lv_sub hl [0, 3] rfl) hw h
        · replace h := p_f hc h
          refine lv_aload_n hx hb dX4_overtakes_52 rfl (lv_at hl 0 rfl) ?_
          obtain ⟨z8, hq, h⟩ := p_bd h
          refine w_Vv C hw (As := []) (rest := []) (c4_aMinute l G x m z8 hq) kv_X4_aMinute ml_X4_146 ⟨rfl, rfl⟩ ⟨Nat.le_of_ble_eq_true rfl, Nat.le_of_ble_eq_true rfl⟩ ⟨Nat.zero_le _, Nat.zero_le _⟩ (w_recv C hw (wk_model G x m) rfl) rfl rfl (Nat.le_of_ble_eq_true rfl) (lv_sub hl [] rfl) dX4_overtakes_53 (fun H locs hw => ?_)
          refine lv_iinc (v := (b3 + (1 : Int32))) (lv' := [(3, .int (b3 + (1 : Int32))), (0, .ref (gq G 25)), (1, .int b1), (2, .int b2)]) hx hb dX4_overtakes_56 hl (k := 3) rfl rfl (by decide) rfl (fun ls hl => ?_)
          refine lv_goto (tgt := 33) hx hb dX4_overtakes_59 (by decide) ?_
          exact ih33 b1 b2 (b3 + (1 : Int32)) z8 _ _ _ (lv_sub hl [1, 2, 3, 0] rfl) hw h
  have B21 : ∀  (m : St) (H : Heap) (locs : List Loc) (ls : Array Slot), lv_has ls 4 [(0, .ref (gq G 25))] → Wd G s x m H locs → f4_overtakes_b21 m = some r → W p l e (rmF 5 113) s mm args below meth c H locs 0 0 (QE below G (some (.int r.1)) x r.2 args s) (F0 mm 21 ls []) := by
    intro  m H locs ls hl hw h
    unfold f4_overtakes_b21 at h
    refine lv_aload_n hx hb dX4_overtakes_21 rfl (lv_at hl 0 rfl) ?_
    refine lv_iconst (v := (0 : Int32)) hx hb dX4_overtakes_22 (by decide) ?_
    obtain ⟨⟨v5, z4⟩, hq, h⟩ := p_bd h
    dsimp only at h
    refine w_Vi C hw (As := [.int (0 : Int32)]) (rest := []) (c4_finds l G x m (0 : Int32) (v5, z4) hq) kv_X4_finds ml_X4_82 ⟨rfl, rfl⟩ ⟨Nat.le_of_ble_eq_true rfl, Nat.le_of_ble_eq_true rfl⟩ ⟨Nat.zero_le _, Nat.zero_le _⟩ (w_recv C hw (wk_model G x m) rfl) rfl rfl (Nat.le_of_ble_eq_true rfl) (lv_sub hl [] rfl) dX4_overtakes_23 (fun H locs hw => ?_)
    replace h := Option.some.inj h
    subst h
    exact w_iret C hw (v := v5) rfl rfl dX4_overtakes_26
  unfold f4_overtakes at h
  refine lv_aload_n hx hb dX4_overtakes_0 rfl (lv_at hl 0 rfl) ?_
  refine lv_iload_n hx hb dX4_overtakes_1 rfl (lv_at hl 1 rfl) ?_
  obtain ⟨v1, hq, h⟩ := p_bd h
  refine w_Vi C hw (As := [.int a1]) (rest := []) (c4_isWhisper l G x m a1 v1 hq) kv_X4_isWhisper ml_X4_117 ⟨rfl, rfl⟩ ⟨Nat.le_of_ble_eq_true rfl, Nat.le_of_ble_eq_true rfl⟩ ⟨Nat.zero_le _, Nat.zero_le _⟩ (w_recv C hw (wk_model G x m) rfl) rfl rfl (Nat.le_of_ble_eq_true rfl) (lv_sub hl [] rfl) dX4_overtakes_2 (fun H locs hw => ?_)
  refine lv_if_eq (tgt := 21) hx hb dX4_overtakes_5 (by decide) (fun hc => ?_) (fun hc => ?_)
  · replace h := p_t hc h
    exact B21 m _ _ _ (lv_sub hl [0] rfl) hw h
  · replace h := p_f hc h
    refine lv_aload_n hx hb dX4_overtakes_8 rfl (lv_at hl 0 rfl) ?_
    refine lv_iload_n hx hb dX4_overtakes_9 rfl (lv_at hl 2 rfl) ?_
    obtain ⟨v2, hq, h⟩ := p_bd h
    refine w_Vi C hw (As := [.int a2]) (rest := []) (c4_isWhisper l G x m a2 v2 hq) kv_X4_isWhisper ml_X4_117 ⟨rfl, rfl⟩ ⟨Nat.le_of_ble_eq_true rfl, Nat.le_of_ble_eq_true rfl⟩ ⟨Nat.zero_le _, Nat.zero_le _⟩ (w_recv C hw (wk_model G x m) rfl) rfl rfl (Nat.le_of_ble_eq_true rfl) (lv_sub hl [] rfl) dX4_overtakes_10 (fun H locs hw => ?_)
    refine lv_if_eq (tgt := 21) hx hb dX4_overtakes_13 (by decide) (fun hc => ?_) (fun hc => ?_)
    · replace h := p_t hc h
      exact B21 m _ _ _ (lv_sub hl [0] rfl) hw h
    · replace h := p_f hc h
      refine lv_iload_n hx hb dX4_overtakes_16 rfl (lv_at hl 1 rfl) ?_
      refine lv_iload_n hx hb dX4_overtakes_17 rfl (lv_at hl 2 rfl) ?_
      refine lv_icmp_ne (tgt := 27) hx hb dX4_overtakes_18 (by decide) (fun hc => ?_) (fun hc => ?_)
      · replace h := p_f hc h
        refine lv_aload_n hx hb dX4_overtakes_27 rfl (lv_at hl 0 rfl) ?_
        obtain ⟨z3, hq, h⟩ := p_bd h
        refine w_Vv C hw (As := []) (rest := []) (c4_lends l G x m z3 hq) kv_X4_lends ml_X4_168 ⟨rfl, rfl⟩ ⟨Nat.le_of_ble_eq_true rfl, Nat.le_of_ble_eq_true rfl⟩ ⟨Nat.zero_le _, Nat.zero_le _⟩ (w_recv C hw (wk_model G x m) rfl) rfl rfl (Nat.le_of_ble_eq_true rfl) (lv_sub hl [] rfl) dX4_overtakes_28 (fun H locs hw => ?_)
        refine lv_iconst (v := (0 : Int32)) hx hb dX4_overtakes_31 (by decide) ?_
        refine lv_istore_n (lv' := [(3, .int (0 : Int32)), (0, .ref (gq G 25)), (1, .int a1), (2, .int a2)]) hx hb dX4_overtakes_32 rfl hl (by decide) rfl (fun ls hl => ?_)
        exact L33 fu a1 a2 (0 : Int32) z3 _ _ _ (lv_sub hl [1, 2, 3, 0] rfl) hw h
      · replace h := p_t hc h
        exact B21 m _ _ _ (lv_sub hl [0] rfl) hw h

def f4_kindFor_b65  (k30 : Int32 → Int32 → Int32 → Int32 → Int32 → St → Option (Int32 × St)) (b1 : Int32) (b2 : Int32) (b4 : Int32) (b5 : Int32) (b6 : Int32) (w0 : Int32) (m : St) : Option (Int32 × St) :=
  k30 b1 b2 w0 (if b6 < b4 then b6 else b4) (b5 + (1 : Int32)) m
def f4_kindFor_L30   : Nat → Int32 → Int32 → Int32 → Int32 → Int32 → St → Option (Int32 × St)
  | 0, _, _, _, _, _, _ => none
  | n + 1, b1, b2, b3, b4, b5, m =>
    if (6 : Int32) < b5 then
      (f4_sets b1 (0 : Int32) b2 m).bind fun z5 =>
      if 0 ≤ b3 then
        some (b3, z5)
      else
        (f4_finds (3 : Int32) z5).bind fun q => match q with
        | (v7, z6) =>
          some (v7, z6)
    else
      (f4_sets b1 (0 : Int32) b5 m).bind fun z8 =>
      (f4_comesHome b1 z8).bind fun q => match q with
      | (v10, z9) =>
        if b4 ≤ v10 then
          f4_kindFor_b65 (f4_kindFor_L30 n) b1 b2 b4 b5 v10 b3 z9
        else
          f4_kindFor_b65 (f4_kindFor_L30 n) b1 b2 b4 b5 v10 b5 z9
theorem f4_kindFor_L30_0   (b1 : Int32) (b2 : Int32) (b3 : Int32) (b4 : Int32) (b5 : Int32) (m : St) : f4_kindFor_L30  0 b1 b2 b3 b4 b5 m = none := rfl
theorem f4_kindFor_L30_s   (n : Nat) (b1 : Int32) (b2 : Int32) (b3 : Int32) (b4 : Int32) (b5 : Int32) (m : St) : f4_kindFor_L30  (n + 1) b1 b2 b3 b4 b5 m =
    if (6 : Int32) < b5 then
      (f4_sets b1 (0 : Int32) b2 m).bind fun z5 =>
      if 0 ≤ b3 then
        some (b3, z5)
      else
        (f4_finds (3 : Int32) z5).bind fun q => match q with
        | (v7, z6) =>
          some (v7, z6)
    else
      (f4_sets b1 (0 : Int32) b5 m).bind fun z8 =>
      (f4_comesHome b1 z8).bind fun q => match q with
      | (v10, z9) =>
        if b4 ≤ v10 then
          f4_kindFor_b65 (f4_kindFor_L30 n) b1 b2 b4 b5 v10 b3 z9
        else
          f4_kindFor_b65 (f4_kindFor_L30 n) b1 b2 b4 b5 v10 b5 z9 := rfl
def f4_kindFor  (a1 : Int32) (m : St) : Option (Int32 × St) :=
  (f4_isWhisper a1 m).bind fun v1 =>
  if v1 = 0 then
    (f4_finds (0 : Int32) m).bind fun q => match q with
    | (v4, z3) =>
      some (v4, z3)
  else
    (f4_its a1 (0 : Int32) m).bind fun v2 =>
    f4_kindFor_L30 fu a1 v2 (-1 : Int32) (101 : Int32) (0 : Int32) m
set_option maxHeartbeats 4000000 in
set_option maxRecDepth 100000 in
theorem c4_kindFor (l : Launch) (G : GT)  (x m : St) (a1 : Int32) (r : Int32 × St) (h : f4_kindFor a1 m = some r) : Mt l yX4_kindFor cX4_kindFor 7 (some .int) (rmF 6 135) G x m [.ref (gq G 25), .int a1] (some (.int r.1)) x r.2 := by
  refine Mt.of (by decide) (Nat.le_of_ble_eq_true rfl) ?_
  intro p e s mm args below meth c C ls hl hw
  have hx := C.1
  have hb := C.2.1
  have hown := C.2.2.2.2.1
  replace hl : lv_has ls 7 [(0, .ref (gq G 25)), (1, .int a1)] := hl
  have L30 : ∀ (n30 : Nat) (b1 : Int32) (b2 : Int32) (b3 : Int32) (b4 : Int32) (b5 : Int32) (m : St) (H : Heap) (locs : List Loc) (ls : Array Slot), lv_has ls 7 [(0, .ref (gq G 25)), (1, .int b1), (2, .int b2), (3, .int b3), (4, .int b4), (5, .int b5)] → Wd G s x m H locs → f4_kindFor_L30 n30 b1 b2 b3 b4 b5 m = some r → W p l e (rmF 6 135) s mm args below meth c H locs 0 0 (QE below G (some (.int r.1)) x r.2 args s) (F0 mm 30 ls []) := by
    intro n30
    induction n30 with
    | zero =>
      intro b1 b2 b3 b4 b5 m H locs ls hl hw h
      rw [f4_kindFor_L30_0] at h
      exact absurd h.symm (Option.some_ne_none _)
    | succ n30 ih30 =>
      have B65 : ∀ (b1 : Int32) (b2 : Int32) (b4 : Int32) (b5 : Int32) (b6 : Int32) (w0 : Int32) (m : St) (H : Heap) (locs : List Loc) (ls : Array Slot), lv_has ls 7 [(0, .ref (gq G 25)), (1, .int b1), (2, .int b2), (4, .int b4), (5, .int b5), (6, .int b6)] → Wd G s x m H locs → f4_kindFor_b65 (f4_kindFor_L30 n30) b1 b2 b4 b5 b6 w0 m = some r → W p l e (rmF 6 135) s mm args below meth c H locs 0 0 (QE below G (some (.int r.1)) x r.2 args s) (F0 mm 65 ls [.int w0]) := by
        intro b1 b2 b4 b5 b6 w0 m H locs ls hl hw h
        unfold f4_kindFor_b65 at h
        refine lv_istore_n (lv' := [(3, .int w0), (0, .ref (gq G 25)), (1, .int b1), (2, .int b2), (4, .int b4), (5, .int b5), (6, .int b6)]) hx hb dX4_kindFor_65 rfl hl (by decide) rfl (fun ls hl => ?_)
        refine lv_iload hx hb dX4_kindFor_66 (lv_at hl 4 rfl) ?_
        refine lv_iload hx hb dX4_kindFor_68 (lv_at hl 6 rfl) ?_
        refine w_min C (lv_sub hl [] rfl) ml_X4_44 k_min ⟨Nat.le_of_ble_eq_true rfl, Nat.le_of_ble_eq_true rfl⟩ ⟨Nat.zero_le _, Nat.zero_le _⟩ (Nat.le_of_ble_eq_true rfl) dX4_kindFor_70 ?_
        refine lv_istore (lv' := [(4, .int (if b6 < b4 then b6 else b4)), (3, .int w0), (0, .ref (gq G 25)), (1, .int b1), (2, .int b2), (5, .int b5), (6, .int b6)]) hx hb dX4_kindFor_73 hl (by decide) rfl (fun ls hl => ?_)
        refine lv_iinc (v := (b5 + (1 : Int32))) (lv' := [(5, .int (b5 + (1 : Int32))), (4, .int (if b6 < b4 then b6 else b4)), (3, .int w0), (0, .ref (gq G 25)), (1, .int b1), (2, .int b2), (6, .int b6)]) hx hb dX4_kindFor_75 hl (k := 5) rfl rfl (by decide) rfl (fun ls hl => ?_)
        refine lv_goto (tgt := 30) hx hb dX4_kindFor_78 (by decide) ?_
        exact ih30 b1 b2 w0 (if b6 < b4 then b6 else b4) (b5 + (1 : Int32)) m _ _ _ (lv_sub hl [3, 4, 5, 2, 1, 0] rfl) hw h
      intro b1 b2 b3 b4 b5 m H locs ls hl hw h
      rw [f4_kindFor_L30_s] at h
      refine lv_iload hx hb dX4_kindFor_30 (lv_at hl 5 rfl) ?_
      refine lv_bipush (v := (6 : Int32)) hx hb dX4_kindFor_32 (by decide) ?_
      refine lv_icmp_gt (tgt := 81) hx hb dX4_kindFor_34 (by decide) (fun hc => ?_) (fun hc => ?_)
      · replace h := p_t hc h
        refine lv_aload_n hx hb dX4_kindFor_81 rfl (lv_at hl 0 rfl) ?_
        refine lv_iload_n hx hb dX4_kindFor_82 rfl (lv_at hl 1 rfl) ?_
        refine lv_iconst (v := (0 : Int32)) hx hb dX4_kindFor_83 (by decide) ?_
        refine lv_iload_n hx hb dX4_kindFor_84 rfl (lv_at hl 2 rfl) ?_
        obtain ⟨z5, hq, h⟩ := p_bd h
        refine w_Vv C hw (As := [.int b1, .int (0 : Int32), .int b2]) (rest := []) (c4_sets l G x m b1 (0 : Int32) b2 z5 hq) kv_X4_sets ml_X4_107 ⟨rfl, rfl⟩ ⟨Nat.le_of_ble_eq_true rfl, Nat.le_of_ble_eq_true rfl⟩ ⟨Nat.zero_le _, Nat.zero_le _⟩ (w_recv C hw (wk_model G x m) rfl) rfl rfl (Nat.le_of_ble_eq_true rfl) (lv_sub hl [] rfl) dX4_kindFor_85 (fun H locs hw => ?_)
        refine lv_iload_n hx hb dX4_kindFor_88 rfl (lv_at hl 3 rfl) ?_
        refine lv_if_ge (tgt := 100) hx hb dX4_kindFor_89 (by decide) (fun hc => ?_) (fun hc => ?_)
        · replace h := p_t hc h
          refine lv_iload_n hx hb dX4_kindFor_100 rfl (lv_at hl 3 rfl) ?_
          replace h := Option.some.inj h
          subst h
          exact w_iret C hw (v := b3) rfl rfl dX4_kindFor_101
        · replace h := p_f hc h
          refine lv_aload_n hx hb dX4_kindFor_92 rfl (lv_at hl 0 rfl) ?_
          refine lv_iconst (v := (3 : Int32)) hx hb dX4_kindFor_93 (by decide) ?_
          obtain ⟨⟨v7, z6⟩, hq, h⟩ := p_bd h
          dsimp only at h
          refine w_Vi C hw (As := [.int (3 : Int32)]) (rest := []) (c4_finds l G x z5 (3 : Int32) (v7, z6) hq) kv_X4_finds ml_X4_82 ⟨rfl, rfl⟩ ⟨Nat.le_of_ble_eq_true rfl, Nat.le_of_ble_eq_true rfl⟩ ⟨Nat.zero_le _, Nat.zero_le _⟩ (w_recv C hw (wk_model G x z5) rfl) rfl rfl (Nat.le_of_ble_eq_true rfl) (lv_sub hl [] rfl) dX4_kindFor_94 (fun H locs hw => ?_)
          refine lv_goto (tgt := 101) hx hb dX4_kindFor_97 (by decide) ?_
          replace h := Option.some.inj h
          subst h
          exact w_iret C hw (v := v7) rfl rfl dX4_kindFor_101
      · replace h := p_f hc h
        refine lv_aload_n hx hb dX4_kindFor_37 rfl (lv_at hl 0 rfl) ?_
        refine lv_iload_n hx hb dX4_kindFor_38 rfl (lv_at hl 1 rfl) ?_
        refine lv_iconst (v := (0 : Int32)) hx hb dX4_kindFor_39 (by decide) ?_
        refine lv_iload hx hb dX4_kindFor_40 (lv_at hl 5 rfl) ?_
        obtain ⟨z8, hq, h⟩ := p_bd h
        refine w_Vv C hw (As := [.int b1, .int (0 : Int32), .int b5]) (rest := []) (c4_sets l G x m b1 (0 : Int32) b5 z8 hq) kv_X4_sets ml_X4_107 ⟨rfl, rfl⟩ ⟨Nat.le_of_ble_eq_true rfl, Nat.le_of_ble_eq_true rfl⟩ ⟨Nat.zero_le _, Nat.zero_le _⟩ (w_recv C hw (wk_model G x m) rfl) rfl rfl (Nat.le_of_ble_eq_true rfl) (lv_sub hl [] rfl) dX4_kindFor_42 (fun H locs hw => ?_)
        refine lv_aload_n hx hb dX4_kindFor_45 rfl (lv_at hl 0 rfl) ?_
        refine lv_iload_n hx hb dX4_kindFor_46 rfl (lv_at hl 1 rfl) ?_
        obtain ⟨⟨v10, z9⟩, hq, h⟩ := p_bd h
        dsimp only at h
        refine w_Vi C hw (As := [.int b1]) (rest := []) (c4_comesHome l G x z8 b1 (v10, z9) hq) kv_X4_comesHome ml_X4_184 ⟨rfl, rfl⟩ ⟨Nat.le_of_ble_eq_true rfl, Nat.le_of_ble_eq_true rfl⟩ ⟨Nat.zero_le _, Nat.zero_le _⟩ (w_recv C hw (wk_model G x z8) rfl) rfl rfl (Nat.le_of_ble_eq_true rfl) (lv_sub hl [] rfl) dX4_kindFor_47 (fun H locs hw => ?_)
        refine lv_istore (lv' := [(6, .int v10), (0, .ref (gq G 25)), (1, .int b1), (2, .int b2), (3, .int b3), (4, .int b4), (5, .int b5)]) hx hb dX4_kindFor_50 hl (by decide) rfl (fun ls hl => ?_)
        refine lv_iload hx hb dX4_kindFor_52 (lv_at hl 0 rfl) ?_
        refine lv_iload hx hb dX4_kindFor_54 (lv_at hl 5 rfl) ?_
        refine lv_icmp_ge (tgt := 64) hx hb dX4_kindFor_56 (by decide) (fun hc => ?_) (fun hc => ?_)
        · replace h := p_t hc h
          refine lv_iload_n hx hb dX4_kindFor_64 rfl (lv_at hl 4 rfl) ?_
          exact B65 b1 b2 b4 b5 v10 b3 z9 _ _ _ (lv_sub hl [1, 2, 3, 5, 6, 0] rfl) hw h
        · replace h := p_f hc h
          refine lv_iload hx hb dX4_kindFor_59 (lv_at hl 6 rfl) ?_
          refine lv_goto (tgt := 65) hx hb dX4_kindFor_61 (by decide) ?_
          exact B65 b1 b2 b4 b5 v10 b5 z9 _ _ _ (lv_sub hl [1, 2, 3, 5, 6, 0] rfl) hw h
  unfold f4_kindFor at h
  refine lv_aload_n hx hb dX4_kindFor_0 rfl (lv_at hl 0 rfl) ?_
  refine lv_iload_n hx hb dX4_kindFor_1 rfl (lv_at hl 1 rfl) ?_
  obtain ⟨v1, hq, h⟩ := p_bd h
  refine w_Vi C hw (As := [.int a1]) (rest := []) (c4_isWhisper l G x m a1 v1 hq) kv_X4_isWhisper ml_X4_117 ⟨rfl, rfl⟩ ⟨Nat.le_of_ble_eq_true rfl, Nat.le_of_ble_eq_true rfl⟩ ⟨Nat.zero_le _, Nat.zero_le _⟩ (w_recv C hw (wk_model G x m) rfl) rfl rfl (Nat.le_of_ble_eq_true rfl) (lv_sub hl [] rfl) dX4_kindFor_2 (fun H locs hw => ?_)
  refine lv_if_ne (tgt := 14) hx hb dX4_kindFor_5 (by decide) (fun hc => ?_) (fun hc => ?_)
  · replace h := p_f hc h
    refine lv_aload_n hx hb dX4_kindFor_14 rfl (lv_at hl 0 rfl) ?_
    refine lv_iload_n hx hb dX4_kindFor_15 rfl (lv_at hl 1 rfl) ?_
    refine lv_iconst (v := (0 : Int32)) hx hb dX4_kindFor_16 (by decide) ?_
    obtain ⟨v2, hq, h⟩ := p_bd h
    refine w_Vi C hw (As := [.int a1, .int (0 : Int32)]) (rest := []) (c4_its l G x m a1 (0 : Int32) v2 hq) kv_X4_its ml_X4_69 ⟨rfl, rfl⟩ ⟨Nat.le_of_ble_eq_true rfl, Nat.le_of_ble_eq_true rfl⟩ ⟨Nat.zero_le _, Nat.zero_le _⟩ (w_recv C hw (wk_model G x m) rfl) rfl rfl (Nat.le_of_ble_eq_true rfl) (lv_sub hl [] rfl) dX4_kindFor_17 (fun H locs hw => ?_)
    refine lv_istore_n (lv' := [(2, .int v2), (0, .ref (gq G 25)), (1, .int a1)]) hx hb dX4_kindFor_20 rfl hl (by decide) rfl (fun ls hl => ?_)
    refine lv_iconst (v := (-1 : Int32)) hx hb dX4_kindFor_21 (by decide) ?_
    refine lv_istore_n (lv' := [(3, .int (-1 : Int32)), (2, .int v2), (0, .ref (gq G 25)), (1, .int a1)]) hx hb dX4_kindFor_22 rfl hl (by decide) rfl (fun ls hl => ?_)
    refine lv_bipush (v := (101 : Int32)) hx hb dX4_kindFor_23 (by decide) ?_
    refine lv_istore (lv' := [(4, .int (101 : Int32)), (3, .int (-1 : Int32)), (2, .int v2), (0, .ref (gq G 25)), (1, .int a1)]) hx hb dX4_kindFor_25 hl (by decide) rfl (fun ls hl => ?_)
    refine lv_iconst (v := (0 : Int32)) hx hb dX4_kindFor_27 (by decide) ?_
    refine lv_istore (lv' := [(5, .int (0 : Int32)), (4, .int (101 : Int32)), (3, .int (-1 : Int32)), (2, .int v2), (0, .ref (gq G 25)), (1, .int a1)]) hx hb dX4_kindFor_28 hl (by decide) rfl (fun ls hl => ?_)
    exact L30 fu a1 v2 (-1 : Int32) (101 : Int32) (0 : Int32) m _ _ _ (lv_sub hl [4, 5, 3, 2, 1, 0] rfl) hw h
  · replace h := p_t hc h
    refine lv_aload_n hx hb dX4_kindFor_8 rfl (lv_at hl 0 rfl) ?_
    refine lv_iconst (v := (0 : Int32)) hx hb dX4_kindFor_9 (by decide) ?_
    obtain ⟨⟨v4, z3⟩, hq, h⟩ := p_bd h
    dsimp only at h
    refine w_Vi C hw (As := [.int (0 : Int32)]) (rest := []) (c4_finds l G x m (0 : Int32) (v4, z3) hq) kv_X4_finds ml_X4_82 ⟨rfl, rfl⟩ ⟨Nat.le_of_ble_eq_true rfl, Nat.le_of_ble_eq_true rfl⟩ ⟨Nat.zero_le _, Nat.zero_le _⟩ (w_recv C hw (wk_model G x m) rfl) rfl rfl (Nat.le_of_ble_eq_true rfl) (lv_sub hl [] rfl) dX4_kindFor_10 (fun H locs hw => ?_)
    replace h := Option.some.inj h
    subst h
    exact w_iret C hw (v := v4) rfl rfl dX4_kindFor_13

def f4_goesFrom  (a1 : Int32) (a2 : Int32) (m : St) : Option (Int32 × St) :=
  (f4_lends m).bind fun z1 =>
  (f4_sets a1 (1 : Int32) a2 z1).bind fun z2 =>
  (f4_minutes (100 : Int32) (up (up z2 25 5 ((1 : Int32) <<< (a2 &&& 31))) 25 6 a1)).bind fun z3 =>
  (f4_laysBack z3).bind fun z4 =>
  some ((z4 25 5), z4)
set_option maxHeartbeats 4000000 in
set_option maxRecDepth 100000 in
theorem c4_goesFrom (l : Launch) (G : GT)  (x m : St) (a1 : Int32) (a2 : Int32) (r : Int32 × St) (h : f4_goesFrom a1 a2 m = some r) : Mt l yX4_goesFrom cX4_goesFrom 3 (some .int) (rmF 6 135) G x m [.ref (gq G 25), .int a1, .int a2] (some (.int r.1)) x r.2 := by
  refine Mt.of (by decide) (Nat.le_of_ble_eq_true rfl) ?_
  intro p e s mm args below meth c C ls hl hw
  have hx := C.1
  have hb := C.2.1
  have hown := C.2.2.2.2.1
  replace hl : lv_has ls 3 [(0, .ref (gq G 25)), (1, .int a1), (2, .int a2)] := hl
  unfold f4_goesFrom at h
  refine lv_aload_n hx hb dX4_goesFrom_0 rfl (lv_at hl 0 rfl) ?_
  obtain ⟨z1, hq, h⟩ := p_bd h
  refine w_Vv C hw (As := []) (rest := []) (c4_lends l G x m z1 hq) kv_X4_lends ml_X4_168 ⟨rfl, rfl⟩ ⟨Nat.le_of_ble_eq_true rfl, Nat.le_of_ble_eq_true rfl⟩ ⟨Nat.zero_le _, Nat.zero_le _⟩ (w_recv C hw (wk_model G x m) rfl) rfl rfl (Nat.le_of_ble_eq_true rfl) (lv_sub hl [] rfl) dX4_goesFrom_1 (fun H locs hw => ?_)
  refine lv_aload_n hx hb dX4_goesFrom_4 rfl (lv_at hl 0 rfl) ?_
  refine lv_iload_n hx hb dX4_goesFrom_5 rfl (lv_at hl 1 rfl) ?_
  refine lv_iconst (v := (1 : Int32)) hx hb dX4_goesFrom_6 (by decide) ?_
  refine lv_iload_n hx hb dX4_goesFrom_7 rfl (lv_at hl 2 rfl) ?_
  obtain ⟨z2, hq, h⟩ := p_bd h
  refine w_Vv C hw (As := [.int a1, .int (1 : Int32), .int a2]) (rest := []) (c4_sets l G x z1 a1 (1 : Int32) a2 z2 hq) kv_X4_sets ml_X4_107 ⟨rfl, rfl⟩ ⟨Nat.le_of_ble_eq_true rfl, Nat.le_of_ble_eq_true rfl⟩ ⟨Nat.zero_le _, Nat.zero_le _⟩ (w_recv C hw (wk_model G x z1) rfl) rfl rfl (Nat.le_of_ble_eq_true rfl) (lv_sub hl [] rfl) dX4_goesFrom_8 (fun H locs hw => ?_)
  refine lv_aload_n hx hb dX4_goesFrom_11 rfl (lv_at hl 0 rfl) ?_
  refine lv_iconst (v := (1 : Int32)) hx hb dX4_goesFrom_12 (by decide) ?_
  refine lv_iload_n hx hb dX4_goesFrom_13 rfl (lv_at hl 2 rfl) ?_
  refine lv_ishl hx hb dX4_goesFrom_14 ?_
  refine w_put C hw (k := 5) tyX4 tyX4_ok nmX4 (wk_model G x z2) rfl it_4 (by decide) fl_X4_135 rfl (ty := .int) rfl rfl rfl (Nat.le_of_ble_eq_true rfl) (ws_model_5 G x z2 _) dX4_goesFrom_15 (fun H locs hw => ?_)
  refine lv_aload_n hx hb dX4_goesFrom_18 rfl (lv_at hl 0 rfl) ?_
  refine lv_iload_n hx hb dX4_goesFrom_19 rfl (lv_at hl 1 rfl) ?_
  refine w_put C hw (k := 6) tyX4 tyX4_ok nmX4 (wk_model G x (up z2 25 5 ((1 : Int32) <<< (a2 &&& 31)))) rfl it_4 (by decide) fl_X4_139 rfl (ty := .int) rfl rfl rfl (Nat.le_of_ble_eq_true rfl) (ws_model_6 G x (up z2 25 5 ((1 : Int32) <<< (a2 &&& 31))) _) dX4_goesFrom_20 (fun H locs hw => ?_)
  refine lv_aload_n hx hb dX4_goesFrom_23 rfl (lv_at hl 0 rfl) ?_
  refine lv_bipush (v := (100 : Int32)) hx hb dX4_goesFrom_24 (by decide) ?_
  obtain ⟨z3, hq, h⟩ := p_bd h
  refine w_Vv C hw (As := [.int (100 : Int32)]) (rest := []) (c4_minutes l G x (up (up z2 25 5 ((1 : Int32) <<< (a2 &&& 31))) 25 6 a1) (100 : Int32) z3 hq) kv_X4_minutes ml_X4_152 ⟨rfl, rfl⟩ ⟨Nat.le_of_ble_eq_true rfl, Nat.le_of_ble_eq_true rfl⟩ ⟨Nat.zero_le _, Nat.zero_le _⟩ (w_recv C hw (wk_model G x (up (up z2 25 5 ((1 : Int32) <<< (a2 &&& 31))) 25 6 a1)) rfl) rfl rfl (Nat.le_of_ble_eq_true rfl) (lv_sub hl [] rfl) dX4_goesFrom_26 (fun H locs hw => ?_)
  refine lv_aload_n hx hb dX4_goesFrom_29 rfl (lv_at hl 0 rfl) ?_
  obtain ⟨z4, hq, h⟩ := p_bd h
  refine w_Vv C hw (As := []) (rest := []) (c4_laysBack l G x z3 z4 hq) kv_X4_laysBack ml_X4_171 ⟨rfl, rfl⟩ ⟨Nat.le_of_ble_eq_true rfl, Nat.le_of_ble_eq_true rfl⟩ ⟨Nat.zero_le _, Nat.zero_le _⟩ (w_recv C hw (wk_model G x z3) rfl) rfl rfl (Nat.le_of_ble_eq_true rfl) (lv_sub hl [] rfl) dX4_goesFrom_30 (fun H locs hw => ?_)
  refine lv_aload_n hx hb dX4_goesFrom_33 rfl (lv_at hl 0 rfl) ?_
  refine w_get C hw (v := .int (z4 25 5)) (k := 5) (wk_model G x z4) rfl it_4 (by decide) fl_X4_135 rfl dX4_goesFrom_34 ?_
  replace h := Option.some.inj h
  subst h
  exact w_iret C hw (v := (z4 25 5)) rfl rfl dX4_goesFrom_37

def f4_goesBy  (a1 : Int32) (m : St) : Option (Int32 × St) :=
  (f4_isWhisper a1 m).bind fun v1 =>
  if v1 = 0 then
    (f4_finds (0 : Int32) m).bind fun q => match q with
    | (v3, z2) =>
      some (v3, z2)
  else
    (f4_its a1 (1 : Int32) m).bind fun v4 =>
    (f4_goesFrom a1 v4 m).bind fun q => match q with
    | (v6, z5) =>
      some (v6, z5)
set_option maxHeartbeats 4000000 in
set_option maxRecDepth 100000 in
theorem c4_goesBy (l : Launch) (G : GT)  (x m : St) (a1 : Int32) (r : Int32 × St) (h : f4_goesBy a1 m = some r) : Mt l yX4_goesBy cX4_goesBy 2 (some .int) (rmF 7 157) G x m [.ref (gq G 25), .int a1] (some (.int r.1)) x r.2 := by
  refine Mt.of (by decide) (Nat.le_of_ble_eq_true rfl) ?_
  intro p e s mm args below meth c C ls hl hw
  have hx := C.1
  have hb := C.2.1
  have hown := C.2.2.2.2.1
  replace hl : lv_has ls 2 [(0, .ref (gq G 25)), (1, .int a1)] := hl
  unfold f4_goesBy at h
  refine lv_aload_n hx hb dX4_goesBy_0 rfl (lv_at hl 0 rfl) ?_
  refine lv_iload_n hx hb dX4_goesBy_1 rfl (lv_at hl 1 rfl) ?_
  obtain ⟨v1, hq, h⟩ := p_bd h
  refine w_Vi C hw (As := [.int a1]) (rest := []) (c4_isWhisper l G x m a1 v1 hq) kv_X4_isWhisper ml_X4_117 ⟨rfl, rfl⟩ ⟨Nat.le_of_ble_eq_true rfl, Nat.le_of_ble_eq_true rfl⟩ ⟨Nat.zero_le _, Nat.zero_le _⟩ (w_recv C hw (wk_model G x m) rfl) rfl rfl (Nat.le_of_ble_eq_true rfl) (lv_sub hl [] rfl) dX4_goesBy_2 (fun H locs hw => ?_)
  refine lv_if_eq (tgt := 22) hx hb dX4_goesBy_5 (by decide) (fun hc => ?_) (fun hc => ?_)
  · replace h := p_t hc h
    refine lv_aload_n hx hb dX4_goesBy_22 rfl (lv_at hl 0 rfl) ?_
    refine lv_iconst (v := (0 : Int32)) hx hb dX4_goesBy_23 (by decide) ?_
    obtain ⟨⟨v3, z2⟩, hq, h⟩ := p_bd h
    dsimp only at h
    refine w_Vi C hw (As := [.int (0 : Int32)]) (rest := []) (c4_finds l G x m (0 : Int32) (v3, z2) hq) kv_X4_finds ml_X4_82 ⟨rfl, rfl⟩ ⟨Nat.le_of_ble_eq_true rfl, Nat.le_of_ble_eq_true rfl⟩ ⟨Nat.zero_le _, Nat.zero_le _⟩ (w_recv C hw (wk_model G x m) rfl) rfl rfl (Nat.le_of_ble_eq_true rfl) (lv_sub hl [] rfl) dX4_goesBy_24 (fun H locs hw => ?_)
    replace h := Option.some.inj h
    subst h
    exact w_iret C hw (v := v3) rfl rfl dX4_goesBy_27
  · replace h := p_f hc h
    refine lv_aload_n hx hb dX4_goesBy_8 rfl (lv_at hl 0 rfl) ?_
    refine lv_iload_n hx hb dX4_goesBy_9 rfl (lv_at hl 1 rfl) ?_
    refine lv_aload_n hx hb dX4_goesBy_10 rfl (lv_at hl 0 rfl) ?_
    refine lv_iload_n hx hb dX4_goesBy_11 rfl (lv_at hl 1 rfl) ?_
    refine lv_iconst (v := (1 : Int32)) hx hb dX4_goesBy_12 (by decide) ?_
    obtain ⟨v4, hq, h⟩ := p_bd h
    refine w_Vi C hw (As := [.int a1, .int (1 : Int32)]) (rest := [.int a1, .ref (gq G 25)]) (c4_its l G x m a1 (1 : Int32) v4 hq) kv_X4_its ml_X4_69 ⟨rfl, rfl⟩ ⟨Nat.le_of_ble_eq_true rfl, Nat.le_of_ble_eq_true rfl⟩ ⟨Nat.zero_le _, Nat.zero_le _⟩ (w_recv C hw (wk_model G x m) rfl) rfl rfl (Nat.le_of_ble_eq_true rfl) (lv_sub hl [] rfl) dX4_goesBy_13 (fun H locs hw => ?_)
    obtain ⟨⟨v6, z5⟩, hq, h⟩ := p_bd h
    dsimp only at h
    refine w_Vi C hw (As := [.int a1, .int v4]) (rest := []) (c4_goesFrom l G x m a1 v4 (v6, z5) hq) kv_X4_goesFrom ml_X4_190 ⟨rfl, rfl⟩ ⟨Nat.le_of_ble_eq_true rfl, Nat.le_of_ble_eq_true rfl⟩ ⟨Nat.zero_le _, Nat.zero_le _⟩ (w_recv C hw (wk_model G x m) rfl) rfl rfl (Nat.le_of_ble_eq_true rfl) (lv_sub hl [] rfl) dX4_goesBy_16 (fun H locs hw => ?_)
    refine lv_goto (tgt := 27) hx hb dX4_goesBy_19 (by decide) ?_
    replace h := Option.some.inj h
    subst h
    exact w_iret C hw (v := v6) rfl rfl dX4_goesBy_27

def f4_findPlaces_b93  (k13 : Int32 → Int32 → Int32 → Int32 → St → Option (St)) (b1 : Int32) (b2 : Int32) (b3 : Int32) (b4 : Int32) (m : St) : Option (St) :=
  k13 b1 b2 b3 (b4 + (1 : Int32)) m
def f4_findPlaces_b90  (k13 : Int32 → Int32 → Int32 → Int32 → St → Option (St)) (b1 : Int32) (b2 : Int32) (b3 : Int32) (b4 : Int32) (w1 : Int32) (m : St) : Option (St) :=
  f4_findPlaces_b93 k13 b1 b2 b3 b4 (up m 25 7 w1)
def f4_findPlaces_b81  (k13 : Int32 → Int32 → Int32 → Int32 → St → Option (St)) (b1 : Int32) (b2 : Int32) (b3 : Int32) (b4 : Int32) (m : St) : Option (St) :=
  f4_findPlaces_b90 k13 b1 b2 b3 b4 b4 m
def f4_findPlaces_L13   : Nat → Int32 → Int32 → Int32 → Int32 → St → Option (St)
  | 0, _, _, _, _, _ => none
  | n + 1, b1, b2, b3, b4, m =>
    if (16 : Int32) ≤ b4 then
      some m
    else
      (f4_goesFrom b1 b4 m).bind fun q => match q with
      | (v2, z1) =>
        if (v2 &&& b2) = b2 then
          if (v2 &&& b3) = 0 then
            if ((up z1 25 8 ((z1 25 8) + (1 : Int32))) 25 7) < 0 then
              f4_findPlaces_b81 (f4_findPlaces_L13 n) b1 b2 b3 b4 (up z1 25 8 ((z1 25 8) + (1 : Int32)))
            else
              (f4_part b4 (0 : Int32) (up z1 25 8 ((z1 25 8) + (1 : Int32)))).bind fun v3 =>
              (f4_part ((up z1 25 8 ((z1 25 8) + (1 : Int32))) 25 7) (0 : Int32) (up z1 25 8 ((z1 25 8) + (1 : Int32)))).bind fun v4 =>
              if v3 ≤ v4 then
                f4_findPlaces_b90 (f4_findPlaces_L13 n) b1 b2 b3 b4 ((up z1 25 8 ((z1 25 8) + (1 : Int32))) 25 7) (up z1 25 8 ((z1 25 8) + (1 : Int32)))
              else
                f4_findPlaces_b81 (f4_findPlaces_L13 n) b1 b2 b3 b4 (up z1 25 8 ((z1 25 8) + (1 : Int32)))
          else
            f4_findPlaces_b93 (f4_findPlaces_L13 n) b1 b2 b3 b4 z1
        else
          f4_findPlaces_b93 (f4_findPlaces_L13 n) b1 b2 b3 b4 z1
theorem f4_findPlaces_L13_0   (b1 : Int32) (b2 : Int32) (b3 : Int32) (b4 : Int32) (m : St) : f4_findPlaces_L13  0 b1 b2 b3 b4 m = none := rfl
theorem f4_findPlaces_L13_s   (n : Nat) (b1 : Int32) (b2 : Int32) (b3 : Int32) (b4 : Int32) (m : St) : f4_findPlaces_L13  (n + 1) b1 b2 b3 b4 m =
    if (16 : Int32) ≤ b4 then
      some m
    else
      (f4_goesFrom b1 b4 m).bind fun q => match q with
      | (v2, z1) =>
        if (v2 &&& b2) = b2 then
          if (v2 &&& b3) = 0 then
            if ((up z1 25 8 ((z1 25 8) + (1 : Int32))) 25 7) < 0 then
              f4_findPlaces_b81 (f4_findPlaces_L13 n) b1 b2 b3 b4 (up z1 25 8 ((z1 25 8) + (1 : Int32)))
            else
              (f4_part b4 (0 : Int32) (up z1 25 8 ((z1 25 8) + (1 : Int32)))).bind fun v3 =>
              (f4_part ((up z1 25 8 ((z1 25 8) + (1 : Int32))) 25 7) (0 : Int32) (up z1 25 8 ((z1 25 8) + (1 : Int32)))).bind fun v4 =>
              if v3 ≤ v4 then
                f4_findPlaces_b90 (f4_findPlaces_L13 n) b1 b2 b3 b4 ((up z1 25 8 ((z1 25 8) + (1 : Int32))) 25 7) (up z1 25 8 ((z1 25 8) + (1 : Int32)))
              else
                f4_findPlaces_b81 (f4_findPlaces_L13 n) b1 b2 b3 b4 (up z1 25 8 ((z1 25 8) + (1 : Int32)))
          else
            f4_findPlaces_b93 (f4_findPlaces_L13 n) b1 b2 b3 b4 z1
        else
          f4_findPlaces_b93 (f4_findPlaces_L13 n) b1 b2 b3 b4 z1 := rfl
def f4_findPlaces  (a1 : Int32) (a2 : Int32) (a3 : Int32) (m : St) : Option (St) :=
  f4_findPlaces_L13 fu a1 a2 a3 (0 : Int32) (up (up m 25 7 (-1 : Int32)) 25 8 (0 : Int32))
set_option maxHeartbeats 4000000 in
set_option maxRecDepth 100000 in
theorem c4_findPlaces (l : Launch) (G : GT)  (x m : St) (a1 : Int32) (a2 : Int32) (a3 : Int32) (r : St) (h : f4_findPlaces a1 a2 a3 m = some r) : Mt l yX4_findPlaces cX4_findPlaces 6 none (rmF 7 157) G x m [.ref (gq G 25), .int a1, .int a2, .int a3] none x r := by
  refine Mt.of (by decide) (Nat.le_of_ble_eq_true rfl) ?_
  intro p e s mm args below meth c C ls hl hw
  have hx := C.1
  have hb := C.2.1
  have hown := C.2.2.2.2.1
  replace hl : lv_has ls 6 [(0, .ref (gq G 25)), (1, .int a1), (2, .int a2), (3, .int a3)] := hl
  have L13 : ∀ (n13 : Nat) (b1 : Int32) (b2 : Int32) (b3 : Int32) (b4 : Int32) (m : St) (H : Heap) (locs : List Loc) (ls : Array Slot), lv_has ls 6 [(0, .ref (gq G 25)), (1, .int b1), (2, .int b2), (3, .int b3), (4, .int b4)] → Wd G s x m H locs → f4_findPlaces_L13 n13 b1 b2 b3 b4 m = some r → W p l e (rmF 7 157) s mm args below meth c H locs 0 0 (QE below G none x r args s) (F0 mm 13 ls []) := by
    intro n13
    induction n13 with
    | zero =>
      intro b1 b2 b3 b4 m H locs ls hl hw h
      rw [f4_findPlaces_L13_0] at h
      exact absurd h.symm (Option.some_ne_none _)
    | succ n13 ih13 =>
      have B93 : ∀ (b1 : Int32) (b2 : Int32) (b3 : Int32) (b4 : Int32) (m : St) (H : Heap) (locs : List Loc) (ls : Array Slot), lv_has ls 6 [(0, .ref (gq G 25)), (1, .int b1), (2, .int b2), (3, .int b3), (4, .int b4)] → Wd G s x m H locs → f4_findPlaces_b93 (f4_findPlaces_L13 n13) b1 b2 b3 b4 m = some r → W p l e (rmF 7 157) s mm args below meth c H locs 0 0 (QE below G none x r args s) (F0 mm 93 ls []) := by
        intro b1 b2 b3 b4 m H locs ls hl hw h
        unfold f4_findPlaces_b93 at h
        refine lv_iinc (v := (b4 + (1 : Int32))) (lv' := [(4, .int (b4 + (1 : Int32))), (0, .ref (gq G 25)), (1, .int b1), (2, .int b2), (3, .int b3)]) hx hb dX4_findPlaces_93 hl (k := 4) rfl rfl (by decide) rfl (fun ls hl => ?_)
        refine lv_goto (tgt := 13) hx hb dX4_findPlaces_96 (by decide) ?_
        exact ih13 b1 b2 b3 (b4 + (1 : Int32)) m _ _ _ (lv_sub hl [1, 2, 3, 4, 0] rfl) hw h
      have B90 : ∀ (b1 : Int32) (b2 : Int32) (b3 : Int32) (b4 : Int32) (w1 : Int32) (m : St) (H : Heap) (locs : List Loc) (ls : Array Slot), lv_has ls 6 [(0, .ref (gq G 25)), (1, .int b1), (2, .int b2), (3, .int b3), (4, .int b4)] → Wd G s x m H locs → f4_findPlaces_b90 (f4_findPlaces_L13 n13) b1 b2 b3 b4 w1 m = some r → W p l e (rmF 7 157) s mm args below meth c H locs 0 0 (QE below G none x r args s) (F0 mm 90 ls [.int w1, .ref (gq G 25)]) := by
        intro b1 b2 b3 b4 w1 m H locs ls hl hw h
        unfold f4_findPlaces_b90 at h
        refine w_put C hw (k := 7) tyX4 tyX4_ok nmX4 (wk_model G x m) rfl it_4 (by decide) fl_X4_193 rfl (ty := .int) rfl rfl rfl (Nat.le_of_ble_eq_true rfl) (ws_model_7 G x m _) dX4_findPlaces_90 (fun H locs hw => ?_)
        exact B93 b1 b2 b3 b4 (up m 25 7 w1) _ _ _ (lv_sub hl [0, 1, 2, 3, 4] rfl) hw h
      have B81 : ∀ (b1 : Int32) (b2 : Int32) (b3 : Int32) (b4 : Int32) (m : St) (H : Heap) (locs : List Loc) (ls : Array Slot), lv_has ls 6 [(0, .ref (gq G 25)), (1, .int b1), (2, .int b2), (3, .int b3), (4, .int b4)] → Wd G s x m H locs → f4_findPlaces_b81 (f4_findPlaces_L13 n13) b1 b2 b3 b4 m = some r → W p l e (rmF 7 157) s mm args below meth c H locs 0 0 (QE below G none x r args s) (F0 mm 81 ls [.ref (gq G 25)]) := by
        intro b1 b2 b3 b4 m H locs ls hl hw h
        unfold f4_findPlaces_b81 at h
        refine lv_iload hx hb dX4_findPlaces_81 (lv_at hl 4 rfl) ?_
        refine lv_goto (tgt := 90) hx hb dX4_findPlaces_83 (by decide) ?_
        exact B90 b1 b2 b3 b4 b4 m _ _ _ (lv_sub hl [0, 1, 2, 3, 4] rfl) hw h
      intro b1 b2 b3 b4 m H locs ls hl hw h
      rw [f4_findPlaces_L13_s] at h
      refine lv_iload hx hb dX4_findPlaces_13 (lv_at hl 4 rfl) ?_
      refine lv_bipush (v := (16 : Int32)) hx hb dX4_findPlaces_15 (by decide) ?_
      refine lv_icmp_ge (tgt := 99) hx hb dX4_findPlaces_17 (by decide) (fun hc => ?_) (fun hc => ?_)
      · replace h := p_t hc h
        replace h := Option.some.inj h
        subst h
        exact w_vret C hw rfl dX4_findPlaces_99
      · replace h := p_f hc h
        refine lv_aload_n hx hb dX4_findPlaces_20 rfl (lv_at hl 0 rfl) ?_
        refine lv_iload_n hx hb dX4_findPlaces_21 rfl (lv_at hl 1 rfl) ?_
        refine lv_iload hx hb dX4_findPlaces_22 (lv_at hl 4 rfl) ?_
        obtain ⟨⟨v2, z1⟩, hq, h⟩ := p_bd h
        dsimp only at h
        refine w_Vi C hw (As := [.int b1, .int b4]) (rest := []) (c4_goesFrom l G x m b1 b4 (v2, z1) hq) kv_X4_goesFrom ml_X4_190 ⟨rfl, rfl⟩ ⟨Nat.le_of_ble_eq_true rfl, Nat.le_of_ble_eq_true rfl⟩ ⟨Nat.zero_le _, Nat.zero_le _⟩ (w_recv C hw (wk_model G x m) rfl) rfl rfl (Nat.le_of_ble_eq_true rfl) (lv_sub hl [] rfl) dX4_findPlaces_24 (fun H locs hw => ?_)
        refine lv_istore (lv' := [(5, .int v2), (0, .ref (gq G 25)), (1, .int b1), (2, .int b2), (3, .int b3), (4, .int b4)]) hx hb dX4_findPlaces_27 hl (by decide) rfl (fun ls hl => ?_)
        refine lv_iload hx hb dX4_findPlaces_29 (lv_at hl 0 rfl) ?_
        refine lv_iload_n hx hb dX4_findPlaces_31 rfl (lv_at hl 3 rfl) ?_
        refine lv_iand hx hb dX4_findPlaces_32 ?_
        refine lv_iload_n hx hb dX4_findPlaces_33 rfl (lv_at hl 3 rfl) ?_
        refine lv_icmp_ne (tgt := 93) hx hb dX4_findPlaces_34 (by decide) (fun hc => ?_) (fun hc => ?_)
        · replace h := p_f hc h
          exact B93 b1 b2 b3 b4 z1 _ _ _ (lv_sub hl [1, 2, 3, 4, 5] rfl) hw h
        · replace h := p_t hc h
          refine lv_iload hx hb dX4_findPlaces_37 (lv_at hl 0 rfl) ?_
          refine lv_iload_n hx hb dX4_findPlaces_39 rfl (lv_at hl 4 rfl) ?_
          refine lv_iand hx hb dX4_findPlaces_40 ?_
          refine lv_if_ne (tgt := 93) hx hb dX4_findPlaces_41 (by decide) (fun hc => ?_) (fun hc => ?_)
          · replace h := p_f hc h
            exact B93 b1 b2 b3 b4 z1 _ _ _ (lv_sub hl [1, 2, 3, 4, 5] rfl) hw h
          · replace h := p_t hc h
            refine lv_aload_n hx hb dX4_findPlaces_44 rfl (lv_at hl 1 rfl) ?_
            refine lv_dup hx hb dX4_findPlaces_45 rfl ?_
            refine w_get C hw (v := .int (z1 25 8)) (k := 8) (wk_model G x z1) rfl it_4 (by decide) fl_X4_196 rfl dX4_findPlaces_46 ?_
            refine lv_iconst (v := (1 : Int32)) hx hb dX4_findPlaces_49 (by decide) ?_
            refine lv_iadd hx hb dX4_findPlaces_50 ?_
            refine w_put C hw (k := 8) tyX4 tyX4_ok nmX4 (wk_model G x z1) rfl it_4 (by decide) fl_X4_196 rfl (ty := .int) rfl rfl rfl (Nat.le_of_ble_eq_true rfl) (ws_model_8 G x z1 _) dX4_findPlaces_51 (fun H locs hw => ?_)
            refine lv_aload_n hx hb dX4_findPlaces_54 rfl (lv_at hl 1 rfl) ?_
            refine lv_aload_n hx hb dX4_findPlaces_55 rfl (lv_at hl 1 rfl) ?_
            refine w_get C hw (v := .int ((up z1 25 8 ((z1 25 8) + (1 : Int32))) 25 7)) (k := 7) (wk_model G x (up z1 25 8 ((z1 25 8) + (1 : Int32)))) rfl it_4 (by decide) fl_X4_193 rfl dX4_findPlaces_56 ?_
            refine lv_if_lt (tgt := 81) hx hb dX4_findPlaces_59 (by decide) (fun hc => ?_) (fun hc => ?_)
            · replace h := p_t hc h
              exact B81 b1 b2 b3 b4 (up z1 25 8 ((z1 25 8) + (1 : Int32))) _ _ _ (lv_sub hl [1, 2, 3, 4, 5] rfl) hw h
            · replace h := p_f hc h
              refine lv_aload_n hx hb dX4_findPlaces_62 rfl (lv_at hl 1 rfl) ?_
              refine lv_iload hx hb dX4_findPlaces_63 (lv_at hl 5 rfl) ?_
              refine lv_iconst (v := (0 : Int32)) hx hb dX4_findPlaces_65 (by decide) ?_
              obtain ⟨v3, hq, h⟩ := p_bd h
              refine w_Vi C hw (As := [.int b4, .int (0 : Int32)]) (rest := [.ref (gq G 25)]) (c4_part l G x (up z1 25 8 ((z1 25 8) + (1 : Int32))) b4 (0 : Int32) v3 hq) kv_X4_part ml_X4_63 ⟨rfl, rfl⟩ ⟨Nat.le_of_ble_eq_true rfl, Nat.le_of_ble_eq_true rfl⟩ ⟨Nat.zero_le _, Nat.zero_le _⟩ (w_recv C hw (wk_model G x (up z1 25 8 ((z1 25 8) + (1 : Int32)))) rfl) rfl rfl (Nat.le_of_ble_eq_true rfl) (lv_sub hl [] rfl) dX4_findPlaces_66 (fun H locs hw => ?_)
              refine lv_aload_n hx hb dX4_findPlaces_69 rfl (lv_at hl 1 rfl) ?_
              refine lv_aload_n hx hb dX4_findPlaces_70 rfl (lv_at hl 1 rfl) ?_
              refine w_get C hw (v := .int ((up z1 25 8 ((z1 25 8) + (1 : Int32))) 25 7)) (k := 7) (wk_model G x (up z1 25 8 ((z1 25 8) + (1 : Int32)))) rfl it_4 (by decide) fl_X4_193 rfl dX4_findPlaces_71 ?_
              refine lv_iconst (v := (0 : Int32)) hx hb dX4_findPlaces_74 (by decide) ?_
              obtain ⟨v4, hq, h⟩ := p_bd h
              refine w_Vi C hw (As := [.int ((up z1 25 8 ((z1 25 8) + (1 : Int32))) 25 7), .int (0 : Int32)]) (rest := [.int v3, .ref (gq G 25)]) (c4_part l G x (up z1 25 8 ((z1 25 8) + (1 : Int32))) ((up z1 25 8 ((z1 25 8) + (1 : Int32))) 25 7) (0 : Int32) v4 hq) kv_X4_part ml_X4_63 ⟨rfl, rfl⟩ ⟨Nat.le_of_ble_eq_true rfl, Nat.le_of_ble_eq_true rfl⟩ ⟨Nat.zero_le _, Nat.zero_le _⟩ (w_recv C hw (wk_model G x (up z1 25 8 ((z1 25 8) + (1 : Int32)))) rfl) rfl rfl (Nat.le_of_ble_eq_true rfl) (lv_sub hl [] rfl) dX4_findPlaces_75 (fun H locs hw => ?_)
              refine lv_icmp_le (tgt := 86) hx hb dX4_findPlaces_78 (by decide) (fun hc => ?_) (fun hc => ?_)
              · replace h := p_t hc h
                refine lv_aload_n hx hb dX4_findPlaces_86 rfl (lv_at hl 1 rfl) ?_
                refine w_get C hw (v := .int ((up z1 25 8 ((z1 25 8) + (1 : Int32))) 25 7)) (k := 7) (wk_model G x (up z1 25 8 ((z1 25 8) + (1 : Int32)))) rfl it_4 (by decide) fl_X4_193 rfl dX4_findPlaces_87 ?_
                exact B90 b1 b2 b3 b4 ((up z1 25 8 ((z1 25 8) + (1 : Int32))) 25 7) (up z1 25 8 ((z1 25 8) + (1 : Int32))) _ _ _ (lv_sub hl [1, 2, 3, 4, 5] rfl) hw h
              · replace h := p_f hc h
                exact B81 b1 b2 b3 b4 (up z1 25 8 ((z1 25 8) + (1 : Int32))) _ _ _ (lv_sub hl [1, 2, 3, 4, 5] rfl) hw h
  unfold f4_findPlaces at h
  refine lv_aload_n hx hb dX4_findPlaces_0 rfl (lv_at hl 0 rfl) ?_
  refine lv_iconst (v := (-1 : Int32)) hx hb dX4_findPlaces_1 (by decide) ?_
  refine w_put C hw (k := 7) tyX4 tyX4_ok nmX4 (wk_model G x m) rfl it_4 (by decide) fl_X4_193 rfl (ty := .int) rfl rfl rfl (Nat.le_of_ble_eq_true rfl) (ws_model_7 G x m _) dX4_findPlaces_2 (fun H locs hw => ?_)
  refine lv_aload_n hx hb dX4_findPlaces_5 rfl (lv_at hl 0 rfl) ?_
  refine lv_iconst (v := (0 : Int32)) hx hb dX4_findPlaces_6 (by decide) ?_
  refine w_put C hw (k := 8) tyX4 tyX4_ok nmX4 (wk_model G x (up m 25 7 (-1 : Int32))) rfl it_4 (by decide) fl_X4_196 rfl (ty := .int) rfl rfl rfl (Nat.le_of_ble_eq_true rfl) (ws_model_8 G x (up m 25 7 (-1 : Int32)) _) dX4_findPlaces_7 (fun H locs hw => ?_)
  refine lv_iconst (v := (0 : Int32)) hx hb dX4_findPlaces_10 (by decide) ?_
  refine lv_istore (lv' := [(4, .int (0 : Int32)), (0, .ref (gq G 25)), (1, .int a1), (2, .int a2), (3, .int a3)]) hx hb dX4_findPlaces_11 hl (by decide) rfl (fun ls hl => ?_)
  exact L13 fu a1 a2 a3 (0 : Int32) (up (up m 25 7 (-1 : Int32)) 25 8 (0 : Int32)) _ _ _ (lv_sub hl [1, 2, 3, 4, 0] rfl) hw h

def f4_arePlaces  (a1 : Int32) (a2 : Int32) (a3 : Int32) (m : St) : Option (Int32) :=
  (f4_isWhisper a1 m).bind fun v1 =>
  if v1 = 0 then
    some (0 : Int32)
  else
    if (f4_isSet a2) = 0 then
      some (0 : Int32)
    else
      if (f4_isSet a3) = 0 then
        some (0 : Int32)
      else
        some (1 : Int32)
set_option maxHeartbeats 4000000 in
set_option maxRecDepth 100000 in
theorem c4_arePlaces (l : Launch) (G : GT)  (x m : St) (a1 : Int32) (a2 : Int32) (a3 : Int32) (r : Int32) (h : f4_arePlaces a1 a2 a3 m = some r) : Mt l yX4_arePlaces cX4_arePlaces 4 (some .boolean) (rmF 2 46) G x m [.ref (gq G 25), .int a1, .int a2, .int a3] (some (.int r)) x m := by
  refine Mt.of (by decide) (Nat.le_of_ble_eq_true rfl) ?_
  intro p e s mm args below meth c C ls hl hw
  have hx := C.1
  have hb := C.2.1
  have hown := C.2.2.2.2.1
  replace hl : lv_has ls 4 [(0, .ref (gq G 25)), (1, .int a1), (2, .int a2), (3, .int a3)] := hl
  unfold f4_arePlaces at h
  refine lv_aload_n hx hb dX4_arePlaces_0 rfl (lv_at hl 0 rfl) ?_
  refine lv_iload_n hx hb dX4_arePlaces_1 rfl (lv_at hl 1 rfl) ?_
  obtain ⟨v1, hq, h⟩ := p_bd h
  refine w_Vi C hw (As := [.int a1]) (rest := []) (c4_isWhisper l G x m a1 v1 hq) kv_X4_isWhisper ml_X4_117 ⟨rfl, rfl⟩ ⟨Nat.le_of_ble_eq_true rfl, Nat.le_of_ble_eq_true rfl⟩ ⟨Nat.zero_le _, Nat.zero_le _⟩ (w_recv C hw (wk_model G x m) rfl) rfl rfl (Nat.le_of_ble_eq_true rfl) (lv_sub hl [] rfl) dX4_arePlaces_2 (fun H locs hw => ?_)
  refine lv_if_eq (tgt := 26) hx hb dX4_arePlaces_5 (by decide) (fun hc => ?_) (fun hc => ?_)
  · replace h := p_t hc h
    refine lv_iconst (v := (0 : Int32)) hx hb dX4_arePlaces_26 (by decide) ?_
    replace h := Option.some.inj h
    subst h
    exact w_iret C hw (v := (0 : Int32)) rfl rfl dX4_arePlaces_27
  · replace h := p_f hc h
    refine lv_iload_n hx hb dX4_arePlaces_8 rfl (lv_at hl 2 rfl) ?_
    refine w_Si C hw (As := [.int a2]) (rest := []) (c4_isSet l G x m a2 _ rfl) ks_X4_isSet ml_X4_132 ⟨rfl, rfl⟩ ⟨Nat.le_of_ble_eq_true rfl, Nat.le_of_ble_eq_true rfl⟩ ⟨Nat.zero_le _, Nat.zero_le _⟩ rfl rfl (Nat.le_of_ble_eq_true rfl) (lv_sub hl [] rfl) dX4_arePlaces_9 (fun H locs hw => ?_)
    refine lv_if_eq (tgt := 26) hx hb dX4_arePlaces_12 (by decide) (fun hc => ?_) (fun hc => ?_)
    · replace h := p_t hc h
      refine lv_iconst (v := (0 : Int32)) hx hb dX4_arePlaces_26 (by decide) ?_
      replace h := Option.some.inj h
      subst h
      exact w_iret C hw (v := (0 : Int32)) rfl rfl dX4_arePlaces_27
    · replace h := p_f hc h
      refine lv_iload_n hx hb dX4_arePlaces_15 rfl (lv_at hl 3 rfl) ?_
      refine w_Si C hw (As := [.int a3]) (rest := []) (c4_isSet l G x m a3 _ rfl) ks_X4_isSet ml_X4_132 ⟨rfl, rfl⟩ ⟨Nat.le_of_ble_eq_true rfl, Nat.le_of_ble_eq_true rfl⟩ ⟨Nat.zero_le _, Nat.zero_le _⟩ rfl rfl (Nat.le_of_ble_eq_true rfl) (lv_sub hl [] rfl) dX4_arePlaces_16 (fun H locs hw => ?_)
      refine lv_if_eq (tgt := 26) hx hb dX4_arePlaces_19 (by decide) (fun hc => ?_) (fun hc => ?_)
      · replace h := p_t hc h
        refine lv_iconst (v := (0 : Int32)) hx hb dX4_arePlaces_26 (by decide) ?_
        replace h := Option.some.inj h
        subst h
        exact w_iret C hw (v := (0 : Int32)) rfl rfl dX4_arePlaces_27
      · replace h := p_f hc h
        refine lv_iconst (v := (1 : Int32)) hx hb dX4_arePlaces_22 (by decide) ?_
        refine lv_goto (tgt := 27) hx hb dX4_arePlaces_23 (by decide) ?_
        replace h := Option.some.inj h
        subst h
        exact w_iret C hw (v := (1 : Int32)) rfl rfl dX4_arePlaces_27

def f4_where  (a1 : Int32) (a2 : Int32) (a3 : Int32) (m : St) : Option (Int32 × St) :=
  (f4_arePlaces a1 a2 a3 m).bind fun v1 =>
  if v1 = 0 then
    (f4_finds (0 : Int32) m).bind fun q => match q with
    | (v6, z5) =>
      some (v6, z5)
  else
    (f4_findPlaces a1 a2 a3 m).bind fun z2 =>
    if 0 ≤ (z2 25 7) then
      some ((z2 25 7), z2)
    else
      (f4_finds (3 : Int32) z2).bind fun q => match q with
      | (v4, z3) =>
        some (v4, z3)
set_option maxHeartbeats 4000000 in
set_option maxRecDepth 100000 in
theorem c4_where (l : Launch) (G : GT)  (x m : St) (a1 : Int32) (a2 : Int32) (a3 : Int32) (r : Int32 × St) (h : f4_where a1 a2 a3 m = some r) : Mt l yX4_where cX4_where 4 (some .int) (rmF 8 182) G x m [.ref (gq G 25), .int a1, .int a2, .int a3] (some (.int r.1)) x r.2 := by
  refine Mt.of (by decide) (Nat.le_of_ble_eq_true rfl) ?_
  intro p e s mm args below meth c C ls hl hw
  have hx := C.1
  have hb := C.2.1
  have hown := C.2.2.2.2.1
  replace hl : lv_has ls 4 [(0, .ref (gq G 25)), (1, .int a1), (2, .int a2), (3, .int a3)] := hl
  unfold f4_where at h
  refine lv_aload_n hx hb dX4_where_0 rfl (lv_at hl 0 rfl) ?_
  refine lv_iload_n hx hb dX4_where_1 rfl (lv_at hl 1 rfl) ?_
  refine lv_iload_n hx hb dX4_where_2 rfl (lv_at hl 2 rfl) ?_
  refine lv_iload_n hx hb dX4_where_3 rfl (lv_at hl 3 rfl) ?_
  obtain ⟨v1, hq, h⟩ := p_bd h
  refine w_Vi C hw (As := [.int a1, .int a2, .int a3]) (rest := []) (c4_arePlaces l G x m a1 a2 a3 v1 hq) kv_X4_arePlaces ml_X4_199 ⟨rfl, rfl⟩ ⟨Nat.le_of_ble_eq_true rfl, Nat.le_of_ble_eq_true rfl⟩ ⟨Nat.zero_le _, Nat.zero_le _⟩ (w_recv C hw (wk_model G x m) rfl) rfl rfl (Nat.le_of_ble_eq_true rfl) (lv_sub hl [] rfl) dX4_where_4 (fun H locs hw => ?_)
  refine lv_if_ne (tgt := 16) hx hb dX4_where_7 (by decide) (fun hc => ?_) (fun hc => ?_)
  · replace h := p_f hc h
    refine lv_aload_n hx hb dX4_where_16 rfl (lv_at hl 0 rfl) ?_
    refine lv_iload_n hx hb dX4_where_17 rfl (lv_at hl 1 rfl) ?_
    refine lv_iload_n hx hb dX4_where_18 rfl (lv_at hl 2 rfl) ?_
    refine lv_iload_n hx hb dX4_where_19 rfl (lv_at hl 3 rfl) ?_
    obtain ⟨z2, hq, h⟩ := p_bd h
    refine w_Vv C hw (As := [.int a1, .int a2, .int a3]) (rest := []) (c4_findPlaces l G x m a1 a2 a3 z2 hq) kv_X4_findPlaces ml_X4_203 ⟨rfl, rfl⟩ ⟨Nat.le_of_ble_eq_true rfl, Nat.le_of_ble_eq_true rfl⟩ ⟨Nat.zero_le _, Nat.zero_le _⟩ (w_recv C hw (wk_model G x m) rfl) rfl rfl (Nat.le_of_ble_eq_true rfl) (lv_sub hl [] rfl) dX4_where_20 (fun H locs hw => ?_)
    refine lv_aload_n hx hb dX4_where_23 rfl (lv_at hl 0 rfl) ?_
    refine w_get C hw (v := .int (z2 25 7)) (k := 7) (wk_model G x z2) rfl it_4 (by decide) fl_X4_193 rfl dX4_where_24 ?_
    refine lv_if_ge (tgt := 38) hx hb dX4_where_27 (by decide) (fun hc => ?_) (fun hc => ?_)
    · replace h := p_t hc h
      refine lv_aload_n hx hb dX4_where_38 rfl (lv_at hl 0 rfl) ?_
      refine w_get C hw (v := .int (z2 25 7)) (k := 7) (wk_model G x z2) rfl it_4 (by decide) fl_X4_193 rfl dX4_where_39 ?_
      replace h := Option.some.inj h
      subst h
      exact w_iret C hw (v := (z2 25 7)) rfl rfl dX4_where_42
    · replace h := p_f hc h
      refine lv_aload_n hx hb dX4_where_30 rfl (lv_at hl 0 rfl) ?_
      refine lv_iconst (v := (3 : Int32)) hx hb dX4_where_31 (by decide) ?_
      obtain ⟨⟨v4, z3⟩, hq, h⟩ := p_bd h
      dsimp only at h
      refine w_Vi C hw (As := [.int (3 : Int32)]) (rest := []) (c4_finds l G x z2 (3 : Int32) (v4, z3) hq) kv_X4_finds ml_X4_82 ⟨rfl, rfl⟩ ⟨Nat.le_of_ble_eq_true rfl, Nat.le_of_ble_eq_true rfl⟩ ⟨Nat.zero_le _, Nat.zero_le _⟩ (w_recv C hw (wk_model G x z2) rfl) rfl rfl (Nat.le_of_ble_eq_true rfl) (lv_sub hl [] rfl) dX4_where_32 (fun H locs hw => ?_)
      refine lv_goto (tgt := 42) hx hb dX4_where_35 (by decide) ?_
      replace h := Option.some.inj h
      subst h
      exact w_iret C hw (v := v4) rfl rfl dX4_where_42
  · replace h := p_t hc h
    refine lv_aload_n hx hb dX4_where_10 rfl (lv_at hl 0 rfl) ?_
    refine lv_iconst (v := (0 : Int32)) hx hb dX4_where_11 (by decide) ?_
    obtain ⟨⟨v6, z5⟩, hq, h⟩ := p_bd h
    dsimp only at h
    refine w_Vi C hw (As := [.int (0 : Int32)]) (rest := []) (c4_finds l G x m (0 : Int32) (v6, z5) hq) kv_X4_finds ml_X4_82 ⟨rfl, rfl⟩ ⟨Nat.le_of_ble_eq_true rfl, Nat.le_of_ble_eq_true rfl⟩ ⟨Nat.zero_le _, Nat.zero_le _⟩ (w_recv C hw (wk_model G x m) rfl) rfl rfl (Nat.le_of_ble_eq_true rfl) (lv_sub hl [] rfl) dX4_where_12 (fun H locs hw => ?_)
    replace h := Option.some.inj h
    subst h
    exact w_iret C hw (v := v6) rfl rfl dX4_where_15

def f4_places  (a1 : Int32) (a2 : Int32) (a3 : Int32) (m : St) : Option (Int32 × St) :=
  (f4_arePlaces a1 a2 a3 m).bind fun v1 =>
  if v1 = 0 then
    (f4_finds (0 : Int32) m).bind fun q => match q with
    | (v4, z3) =>
      some (v4, z3)
  else
    (f4_findPlaces a1 a2 a3 m).bind fun z2 =>
    some ((z2 25 8), z2)
set_option maxHeartbeats 4000000 in
set_option maxRecDepth 100000 in
theorem c4_places (l : Launch) (G : GT)  (x m : St) (a1 : Int32) (a2 : Int32) (a3 : Int32) (r : Int32 × St) (h : f4_places a1 a2 a3 m = some r) : Mt l yX4_places cX4_places 4 (some .int) (rmF 8 182) G x m [.ref (gq G 25), .int a1, .int a2, .int a3] (some (.int r.1)) x r.2 := by
  refine Mt.of (by decide) (Nat.le_of_ble_eq_true rfl) ?_
  intro p e s mm args below meth c C ls hl hw
  have hx := C.1
  have hb := C.2.1
  have hown := C.2.2.2.2.1
  replace hl : lv_has ls 4 [(0, .ref (gq G 25)), (1, .int a1), (2, .int a2), (3, .int a3)] := hl
  unfold f4_places at h
  refine lv_aload_n hx hb dX4_places_0 rfl (lv_at hl 0 rfl) ?_
  refine lv_iload_n hx hb dX4_places_1 rfl (lv_at hl 1 rfl) ?_
  refine lv_iload_n hx hb dX4_places_2 rfl (lv_at hl 2 rfl) ?_
  refine lv_iload_n hx hb dX4_places_3 rfl (lv_at hl 3 rfl) ?_
  obtain ⟨v1, hq, h⟩ := p_bd h
  refine w_Vi C hw (As := [.int a1, .int a2, .int a3]) (rest := []) (c4_arePlaces l G x m a1 a2 a3 v1 hq) kv_X4_arePlaces ml_X4_199 ⟨rfl, rfl⟩ ⟨Nat.le_of_ble_eq_true rfl, Nat.le_of_ble_eq_true rfl⟩ ⟨Nat.zero_le _, Nat.zero_le _⟩ (w_recv C hw (wk_model G x m) rfl) rfl rfl (Nat.le_of_ble_eq_true rfl) (lv_sub hl [] rfl) dX4_places_4 (fun H locs hw => ?_)
  refine lv_if_ne (tgt := 16) hx hb dX4_places_7 (by decide) (fun hc => ?_) (fun hc => ?_)
  · replace h := p_f hc h
    refine lv_aload_n hx hb dX4_places_16 rfl (lv_at hl 0 rfl) ?_
    refine lv_iload_n hx hb dX4_places_17 rfl (lv_at hl 1 rfl) ?_
    refine lv_iload_n hx hb dX4_places_18 rfl (lv_at hl 2 rfl) ?_
    refine lv_iload_n hx hb dX4_places_19 rfl (lv_at hl 3 rfl) ?_
    obtain ⟨z2, hq, h⟩ := p_bd h
    refine w_Vv C hw (As := [.int a1, .int a2, .int a3]) (rest := []) (c4_findPlaces l G x m a1 a2 a3 z2 hq) kv_X4_findPlaces ml_X4_203 ⟨rfl, rfl⟩ ⟨Nat.le_of_ble_eq_true rfl, Nat.le_of_ble_eq_true rfl⟩ ⟨Nat.zero_le _, Nat.zero_le _⟩ (w_recv C hw (wk_model G x m) rfl) rfl rfl (Nat.le_of_ble_eq_true rfl) (lv_sub hl [] rfl) dX4_places_20 (fun H locs hw => ?_)
    refine lv_aload_n hx hb dX4_places_23 rfl (lv_at hl 0 rfl) ?_
    refine w_get C hw (v := .int (z2 25 8)) (k := 8) (wk_model G x z2) rfl it_4 (by decide) fl_X4_196 rfl dX4_places_24 ?_
    replace h := Option.some.inj h
    subst h
    exact w_iret C hw (v := (z2 25 8)) rfl rfl dX4_places_27
  · replace h := p_t hc h
    refine lv_aload_n hx hb dX4_places_10 rfl (lv_at hl 0 rfl) ?_
    refine lv_iconst (v := (0 : Int32)) hx hb dX4_places_11 (by decide) ?_
    obtain ⟨⟨v4, z3⟩, hq, h⟩ := p_bd h
    dsimp only at h
    refine w_Vi C hw (As := [.int (0 : Int32)]) (rest := []) (c4_finds l G x m (0 : Int32) (v4, z3) hq) kv_X4_finds ml_X4_82 ⟨rfl, rfl⟩ ⟨Nat.le_of_ble_eq_true rfl, Nat.le_of_ble_eq_true rfl⟩ ⟨Nat.zero_le _, Nat.zero_le _⟩ (w_recv C hw (wk_model G x m) rfl) rfl rfl (Nat.le_of_ble_eq_true rfl) (lv_sub hl [] rfl) dX4_places_12 (fun H locs hw => ?_)
    replace h := Option.some.inj h
    subst h
    exact w_iret C hw (v := v4) rfl rfl dX4_places_15

def f4_isShort  (a1 : Int32) : Int32 :=
  (f4_in (a1.toInt64) (0 : Int64) (40 : Int64))
theorem bz_X4_isShort  (a1 : Int32) : f4_isShort a1 = 0 ∨ f4_isShort a1 = 1 := by
  unfold f4_isShort
  repeat' split
  all_goals first | exact Or.inl rfl | exact Or.inr rfl | exact bz_X4_in _ _ _ 
set_option maxHeartbeats 4000000 in
set_option maxRecDepth 100000 in
theorem c4_isShort (l : Launch) (G : GT)  (x m : St) (a1 : Int32) (r : Int32) (h : f4_isShort a1 = r) : Mt l yX4_isShort cX4_isShort 1 (some .boolean) (rmF 1 25) G x m [.int a1] (some (.int r)) x m := by
  refine Mt.of (by decide) (Nat.le_of_ble_eq_true rfl) ?_
  intro p e s mm args below meth c C ls hl hw
  have hx := C.1
  have hb := C.2.1
  have hown := C.2.2.2.2.1
  replace hl : lv_has ls 1 [(0, .int a1)] := hl
  unfold f4_isShort at h
  refine lv_iload_n hx hb dX4_isShort_0 rfl (lv_at hl 0 rfl) ?_
  refine lv_i2l hx hb dX4_isShort_1 rfl ?_
  refine lv_lconst (v := (0 : Int64)) hx hb dX4_isShort_2 (by decide) ?_
  refine lv_ldc2 hx hb hown (C.w kl_X4_206) dX4_isShort_3 ?_
  refine w_Si C hw (As := [.long (a1.toInt64), .long (0 : Int64), .long (40 : Int64)]) (rest := []) (c4_in l G x m (a1.toInt64) (0 : Int64) (40 : Int64) _ rfl) ks_X4_in ml_X4_57 ⟨rfl, rfl⟩ ⟨Nat.le_of_ble_eq_true rfl, Nat.le_of_ble_eq_true rfl⟩ ⟨Nat.zero_le _, Nat.zero_le _⟩ rfl rfl (Nat.le_of_ble_eq_true rfl) (lv_sub hl [] rfl) dX4_isShort_6 (fun H locs hw => ?_)
  subst h
  exact w_iret C hw (v := (f4_in (a1.toInt64) (0 : Int64) (40 : Int64))) rfl (nz_b (bz_X4_in (a1.toInt64) (0 : Int64) (40 : Int64))) dX4_isShort_9

def f4_weightFor_b91   (b1 : Int32) (b4 : Int32) (b5 : Int32) (b6 : Int32) (m : St) : Option (Int32 × St) :=
  (f4_sets b1 (2 : Int32) b4 m).bind fun z9 =>
  if b6 = 0 then
    (f4_finds (3 : Int32) z9).bind fun q => match q with
    | (v11, z10) =>
      some (v11, z10)
  else
    some (b5, z9)
def f4_weightFor_b86  (k42 : Int32 → Int32 → Int32 → Int32 → Int32 → Int32 → St → Option (Int32 × St)) (b1 : Int32) (b2 : Int32) (b3 : Int32) (b4 : Int32) (b5 : Int32) (w0 : Int32) (m : St) : Option (Int32 × St) :=
  k42 b1 b2 b3 b4 b5 w0 m
def f4_weightFor_L42   : Nat → Int32 → Int32 → Int32 → Int32 → Int32 → Int32 → St → Option (Int32 × St)
  | 0, _, _, _, _, _, _, _ => none
  | n + 1, b1, b2, b3, b4, b5, b6, m =>
    if (999 : Int32) ≤ b5 then
      f4_weightFor_b91 b1 b4 b5 b6 m
    else
      if b6 = 0 then
        (f4_sets b1 (2 : Int32) (b5 + (1 : Int32)) m).bind fun z5 =>
        (f4_loudBy b2 b3 z5).bind fun q => match q with
        | (v7, z6) =>
          (f4_part b2 (4 : Int32) z6).bind fun v8 =>
          if v7 < v8 then
            f4_weightFor_b86 (f4_weightFor_L42 n) b1 b2 b3 b4 (b5 + (1 : Int32)) (0 : Int32) z6
          else
            f4_weightFor_b86 (f4_weightFor_L42 n) b1 b2 b3 b4 (b5 + (1 : Int32)) (1 : Int32) z6
      else
        f4_weightFor_b91 b1 b4 b5 b6 m
theorem f4_weightFor_L42_0   (b1 : Int32) (b2 : Int32) (b3 : Int32) (b4 : Int32) (b5 : Int32) (b6 : Int32) (m : St) : f4_weightFor_L42  0 b1 b2 b3 b4 b5 b6 m = none := rfl
theorem f4_weightFor_L42_s   (n : Nat) (b1 : Int32) (b2 : Int32) (b3 : Int32) (b4 : Int32) (b5 : Int32) (b6 : Int32) (m : St) : f4_weightFor_L42  (n + 1) b1 b2 b3 b4 b5 b6 m =
    if (999 : Int32) ≤ b5 then
      f4_weightFor_b91 b1 b4 b5 b6 m
    else
      if b6 = 0 then
        (f4_sets b1 (2 : Int32) (b5 + (1 : Int32)) m).bind fun z5 =>
        (f4_loudBy b2 b3 z5).bind fun q => match q with
        | (v7, z6) =>
          (f4_part b2 (4 : Int32) z6).bind fun v8 =>
          if v7 < v8 then
            f4_weightFor_b86 (f4_weightFor_L42 n) b1 b2 b3 b4 (b5 + (1 : Int32)) (0 : Int32) z6
          else
            f4_weightFor_b86 (f4_weightFor_L42 n) b1 b2 b3 b4 (b5 + (1 : Int32)) (1 : Int32) z6
      else
        f4_weightFor_b91 b1 b4 b5 b6 m := rfl
def f4_weightFor_b22    (m : St) : Option (Int32 × St) :=
  (f4_finds (0 : Int32) m).bind fun q => match q with
  | (v4, z3) =>
    some (v4, z3)
def f4_weightFor  (a1 : Int32) (a2 : Int32) (a3 : Int32) (m : St) : Option (Int32 × St) :=
  (f4_isWhisper a1 m).bind fun v1 =>
  if v1 = 0 then
    f4_weightFor_b22 m
  else
    if (f4_isCorner a2) = 0 then
      f4_weightFor_b22 m
    else
      if (f4_isShort a3) = 0 then
        f4_weightFor_b22 m
      else
        (f4_its a1 (2 : Int32) m).bind fun v2 =>
        f4_weightFor_L42 fu a1 a2 a3 v2 (0 : Int32) (0 : Int32) m
set_option maxHeartbeats 4000000 in
set_option maxRecDepth 100000 in
theorem c4_weightFor (l : Launch) (G : GT)  (x m : St) (a1 : Int32) (a2 : Int32) (a3 : Int32) (r : Int32 × St) (h : f4_weightFor a1 a2 a3 m = some r) : Mt l yX4_weightFor cX4_weightFor 7 (some .int) (rmF 7 158) G x m [.ref (gq G 25), .int a1, .int a2, .int a3] (some (.int r.1)) x r.2 := by
  refine Mt.of (by decide) (Nat.le_of_ble_eq_true rfl) ?_
  intro p e s mm args below meth c C ls hl hw
  have hx := C.1
  have hb := C.2.1
  have hown := C.2.2.2.2.1
  replace hl : lv_has ls 7 [(0, .ref (gq G 25)), (1, .int a1), (2, .int a2), (3, .int a3)] := hl
  have B91 : ∀ (b1 : Int32) (b4 : Int32) (b5 : Int32) (b6 : Int32) (m : St) (H : Heap) (locs : List Loc) (ls : Array Slot), lv_has ls 7 [(0, .ref (gq G 25)), (1, .int b1), (4, .int b4), (5, .int b5), (6, .int b6)] → Wd G s x m H locs → f4_weightFor_b91 b1 b4 b5 b6 m = some r → W p l e (rmF 7 158) s mm args below meth c H locs 0 0 (QE below G (some (.int r.1)) x r.2 args s) (F0 mm 91 ls []) := by
    intro b1 b4 b5 b6 m H locs ls hl hw h
    unfold f4_weightFor_b91 at h
    refine lv_aload_n hx hb dX4_weightFor_91 rfl (lv_at hl 0 rfl) ?_
    refine lv_iload_n hx hb dX4_weightFor_92 rfl (lv_at hl 1 rfl) ?_
    refine lv_iconst (v := (2 : Int32)) hx hb dX4_weightFor_93 (by decide) ?_
    refine lv_iload hx hb dX4_weightFor_94 (lv_at hl 2 rfl) ?_
    obtain ⟨z9, hq, h⟩ := p_bd h
    refine w_Vv C hw (As := [.int b1, .int (2 : Int32), .int b4]) (rest := []) (c4_sets l G x m b1 (2 : Int32) b4 z9 hq) kv_X4_sets ml_X4_107 ⟨rfl, rfl⟩ ⟨Nat.le_of_ble_eq_true rfl, Nat.le_of_ble_eq_true rfl⟩ ⟨Nat.zero_le _, Nat.zero_le _⟩ (w_recv C hw (wk_model G x m) rfl) rfl rfl (Nat.le_of_ble_eq_true rfl) (lv_sub hl [] rfl) dX4_weightFor_96 (fun H locs hw => ?_)
    refine lv_iload hx hb dX4_weightFor_99 (lv_at hl 4 rfl) ?_
    refine lv_if_eq (tgt := 109) hx hb dX4_weightFor_101 (by decide) (fun hc => ?_) (fun hc => ?_)
    · replace h := p_t hc h
      refine lv_aload_n hx hb dX4_weightFor_109 rfl (lv_at hl 0 rfl) ?_
      refine lv_iconst (v := (3 : Int32)) hx hb dX4_weightFor_110 (by decide) ?_
      obtain ⟨⟨v11, z10⟩, hq, h⟩ := p_bd h
      dsimp only at h
      refine w_Vi C hw (As := [.int (3 : Int32)]) (rest := []) (c4_finds l G x z9 (3 : Int32) (v11, z10) hq) kv_X4_finds ml_X4_82 ⟨rfl, rfl⟩ ⟨Nat.le_of_ble_eq_true rfl, Nat.le_of_ble_eq_true rfl⟩ ⟨Nat.zero_le _, Nat.zero_le _⟩ (w_recv C hw (wk_model G x z9) rfl) rfl rfl (Nat.le_of_ble_eq_true rfl) (lv_sub hl [] rfl) dX4_weightFor_111 (fun H locs hw => ?_)
      replace h := Option.some.inj h
      subst h
      exact w_iret C hw (v := v11) rfl rfl dX4_weightFor_114
    · replace h := p_f hc h
      refine lv_iload hx hb dX4_weightFor_104 (lv_at hl 3 rfl) ?_
      refine lv_goto (tgt := 114) hx hb dX4_weightFor_106 (by decide) ?_
      replace h := Option.some.inj h
      subst h
      exact w_iret C hw (v := b5) rfl rfl dX4_weightFor_114
  have L42 : ∀ (n42 : Nat) (b1 : Int32) (b2 : Int32) (b3 : Int32) (b4 : Int32) (b5 : Int32) (b6 : Int32) (m : St) (H : Heap) (locs : List Loc) (ls : Array Slot), lv_has ls 7 [(0, .ref (gq G 25)), (1, .int b1), (2, .int b2), (3, .int b3), (4, .int b4), (5, .int b5), (6, .int b6)] → Wd G s x m H locs → f4_weightFor_L42 n42 b1 b2 b3 b4 b5 b6 m = some r → W p l e (rmF 7 158) s mm args below meth c H locs 0 0 (QE below G (some (.int r.1)) x r.2 args s) (F0 mm 42 ls []) := by
    intro n42
    induction n42 with
    | zero =>
      intro b1 b2 b3 b4 b5 b6 m H locs ls hl hw h
      rw [f4_weightFor_L42_0] at h
      exact absurd h.symm (Option.some_ne_none _)
    | succ n42 ih42 =>
      have B86 : ∀ (b1 : Int32) (b2 : Int32) (b3 : Int32) (b4 : Int32) (b5 : Int32) (w0 : Int32) (m : St) (H : Heap) (locs : List Loc) (ls : Array Slot), lv_has ls 7 [(0, .ref (gq G 25)), (1, .int b1), (2, .int b2), (3, .int b3), (4, .int b4), (5, .int b5)] → Wd G s x m H locs → f4_weightFor_b86 (f4_weightFor_L42 n42) b1 b2 b3 b4 b5 w0 m = some r → W p l e (rmF 7 158) s mm args below meth c H locs 0 0 (QE below G (some (.int r.1)) x r.2 args s) (F0 mm 86 ls [.int w0]) := by
        intro b1 b2 b3 b4 b5 w0 m H locs ls hl hw h
        unfold f4_weightFor_b86 at h
        refine lv_istore (lv' := [(6, .int w0), (0, .ref (gq G 25)), (1, .int b1), (2, .int b2), (3, .int b3), (4, .int b4), (5, .int b5)]) hx hb dX4_weightFor_86 hl (by decide) rfl (fun ls hl => ?_)
        refine lv_goto (tgt := 42) hx hb dX4_weightFor_88 (by decide) ?_
        exact ih42 b1 b2 b3 b4 b5 w0 m _ _ _ (lv_sub hl [1, 2, 3, 4, 5, 6, 0] rfl) hw h
      intro b1 b2 b3 b4 b5 b6 m H locs ls hl hw h
      rw [f4_weightFor_L42_s] at h
      refine lv_iload hx hb dX4_weightFor_42 (lv_at hl 5 rfl) ?_
      refine lv_sipush (v := (999 : Int32)) hx hb dX4_weightFor_44 (by decide) ?_
      refine lv_icmp_ge (tgt := 91) hx hb dX4_weightFor_47 (by decide) (fun hc => ?_) (fun hc => ?_)
      · replace h := p_t hc h
        exact B91 b1 b4 b5 b6 m _ _ _ (lv_sub hl [0, 1, 4, 5, 6] rfl) hw h
      · replace h := p_f hc h
        refine lv_iload hx hb dX4_weightFor_50 (lv_at hl 6 rfl) ?_
        refine lv_if_ne (tgt := 91) hx hb dX4_weightFor_52 (by decide) (fun hc => ?_) (fun hc => ?_)
        · replace h := p_f hc h
          exact B91 b1 b4 b5 b6 m _ _ _ (lv_sub hl [0, 1, 4, 5, 6] rfl) hw h
        · replace h := p_t hc h
          refine lv_iinc (v := (b5 + (1 : Int32))) (lv' := [(5, .int (b5 + (1 : Int32))), (0, .ref (gq G 25)), (1, .int b1), (2, .int b2), (3, .int b3), (4, .int b4), (6, .int b6)]) hx hb dX4_weightFor_55 hl (k := 5) rfl rfl (by decide) rfl (fun ls hl => ?_)
          refine lv_aload_n hx hb dX4_weightFor_58 rfl (lv_at hl 1 rfl) ?_
          refine lv_iload_n hx hb dX4_weightFor_59 rfl (lv_at hl 2 rfl) ?_
          refine lv_iconst (v := (2 : Int32)) hx hb dX4_weightFor_60 (by decide) ?_
          refine lv_iload hx hb dX4_weightFor_61 (lv_at hl 0 rfl) ?_
          obtain ⟨z5, hq, h⟩ := p_bd h
          refine w_Vv C hw (As := [.int b1, .int (2 : Int32), .int (b5 + (1 : Int32))]) (rest := []) (c4_sets l G x m b1 (2 : Int32) (b5 + (1 : Int32)) z5 hq) kv_X4_sets ml_X4_107 ⟨rfl, rfl⟩ ⟨Nat.le_of_ble_eq_true rfl, Nat.le_of_ble_eq_true rfl⟩ ⟨Nat.zero_le _, Nat.zero_le _⟩ (w_recv C hw (wk_model G x m) rfl) rfl rfl (Nat.le_of_ble_eq_true rfl) (lv_sub hl [] rfl) dX4_weightFor_63 (fun H locs hw => ?_)
          refine lv_aload_n hx hb dX4_weightFor_66 rfl (lv_at hl 1 rfl) ?_
          refine lv_iload_n hx hb dX4_weightFor_67 rfl (lv_at hl 3 rfl) ?_
          refine lv_iload_n hx hb dX4_weightFor_68 rfl (lv_at hl 4 rfl) ?_
          obtain ⟨⟨v7, z6⟩, hq, h⟩ := p_bd h
          dsimp only at h
          refine w_Vi C hw (As := [.int b2, .int b3]) (rest := []) (c4_loudBy l G x z5 b2 b3 (v7, z6) hq) kv_X4_loudBy ml_X4_174 ⟨rfl, rfl⟩ ⟨Nat.le_of_ble_eq_true rfl, Nat.le_of_ble_eq_true rfl⟩ ⟨Nat.zero_le _, Nat.zero_le _⟩ (w_recv C hw (wk_model G x z5) rfl) rfl rfl (Nat.le_of_ble_eq_true rfl) (lv_sub hl [] rfl) dX4_weightFor_69 (fun H locs hw => ?_)
          refine lv_aload_n hx hb dX4_weightFor_72 rfl (lv_at hl 1 rfl) ?_
          refine lv_iload_n hx hb dX4_weightFor_73 rfl (lv_at hl 3 rfl) ?_
          refine lv_iconst (v := (4 : Int32)) hx hb dX4_weightFor_74 (by decide) ?_
          obtain ⟨v8, hq, h⟩ := p_bd h
          refine w_Vi C hw (As := [.int b2, .int (4 : Int32)]) (rest := [.int v7]) (c4_part l G x z6 b2 (4 : Int32) v8 hq) kv_X4_part ml_X4_63 ⟨rfl, rfl⟩ ⟨Nat.le_of_ble_eq_true rfl, Nat.le_of_ble_eq_true rfl⟩ ⟨Nat.zero_le _, Nat.zero_le _⟩ (w_recv C hw (wk_model G x z6) rfl) rfl rfl (Nat.le_of_ble_eq_true rfl) (lv_sub hl [] rfl) dX4_weightFor_75 (fun H locs hw => ?_)
          refine lv_icmp_lt (tgt := 85) hx hb dX4_weightFor_78 (by decide) (fun hc => ?_) (fun hc => ?_)
          · replace h := p_t hc h
            refine lv_iconst (v := (0 : Int32)) hx hb dX4_weightFor_85 (by decide) ?_
            exact B86 b1 b2 b3 b4 (b5 + (1 : Int32)) (0 : Int32) z6 _ _ _ (lv_sub hl [1, 2, 3, 4, 5, 0] rfl) hw h
          · replace h := p_f hc h
            refine lv_iconst (v := (1 : Int32)) hx hb dX4_weightFor_81 (by decide) ?_
            refine lv_goto (tgt := 86) hx hb dX4_weightFor_82 (by decide) ?_
            exact B86 b1 b2 b3 b4 (b5 + (1 : Int32)) (1 : Int32) z6 _ _ _ (lv_sub hl [1, 2, 3, 4, 5, 0] rfl) hw h
  have B22 : ∀  (m : St) (H : Heap) (locs : List Loc) (ls : Array Slot), lv_has ls 7 [(0, .ref (gq G 25))] → Wd G s x m H locs → f4_weightFor_b22 m = some r → W p l e (rmF 7 158) s mm args below meth c H locs 0 0 (QE below G (some (.int r.1)) x r.2 args s) (F0 mm 22 ls []) := by
    intro  m H locs ls hl hw h
    unfold f4_weightFor_b22 at h
    refine lv_aload_n hx hb dX4_weightFor_22 rfl (lv_at hl 0 rfl) ?_
    refine lv_iconst (v := (0 : Int32)) hx hb dX4_weightFor_23 (by decide) ?_
    obtain ⟨⟨v4, z3⟩, hq, h⟩ := p_bd h
    dsimp only at h
    refine w_Vi C hw (As := [.int (0 : Int32)]) (rest := []) (c4_finds l G x m (0 : Int32) (v4, z3) hq) kv_X4_finds ml_X4_82 ⟨rfl, rfl⟩ ⟨Nat.le_of_ble_eq_true rfl, Nat.le_of_ble_eq_true rfl⟩ ⟨Nat.zero_le _, Nat.zero_le _⟩ (w_recv C hw (wk_model G x m) rfl) rfl rfl (Nat.le_of_ble_eq_true rfl) (lv_sub hl [] rfl) dX4_weightFor_24 (fun H locs hw => ?_)
    replace h := Option.some.inj h
    subst h
    exact w_iret C hw (v := v4) rfl rfl dX4_weightFor_27
  unfold f4_weightFor at h
  refine lv_aload_n hx hb dX4_weightFor_0 rfl (lv_at hl 0 rfl) ?_
  refine lv_iload_n hx hb dX4_weightFor_1 rfl (lv_at hl 1 rfl) ?_
  obtain ⟨v1, hq, h⟩ := p_bd h
  refine w_Vi C hw (As := [.int a1]) (rest := []) (c4_isWhisper l G x m a1 v1 hq) kv_X4_isWhisper ml_X4_117 ⟨rfl, rfl⟩ ⟨Nat.le_of_ble_eq_true rfl, Nat.le_of_ble_eq_true rfl⟩ ⟨Nat.zero_le _, Nat.zero_le _⟩ (w_recv C hw (wk_model G x m) rfl) rfl rfl (Nat.le_of_ble_eq_true rfl) (lv_sub hl [] rfl) dX4_weightFor_2 (fun H locs hw => ?_)
  refine lv_if_eq (tgt := 22) hx hb dX4_weightFor_5 (by decide) (fun hc => ?_) (fun hc => ?_)
  · replace h := p_t hc h
    exact B22 m _ _ _ (lv_sub hl [0] rfl) hw h
  · replace h := p_f hc h
    refine lv_iload_n hx hb dX4_weightFor_8 rfl (lv_at hl 2 rfl) ?_
    refine w_Si C hw (As := [.int a2]) (rest := []) (c4_isCorner l G x m a2 _ rfl) ks_X4_isCorner ml_X4_76 ⟨rfl, rfl⟩ ⟨Nat.le_of_ble_eq_true rfl, Nat.le_of_ble_eq_true rfl⟩ ⟨Nat.zero_le _, Nat.zero_le _⟩ rfl rfl (Nat.le_of_ble_eq_true rfl) (lv_sub hl [] rfl) dX4_weightFor_9 (fun H locs hw => ?_)
    refine lv_if_eq (tgt := 22) hx hb dX4_weightFor_12 (by decide) (fun hc => ?_) (fun hc => ?_)
    · replace h := p_t hc h
      exact B22 m _ _ _ (lv_sub hl [0] rfl) hw h
    · replace h := p_f hc h
      refine lv_iload_n hx hb dX4_weightFor_15 rfl (lv_at hl 3 rfl) ?_
      refine w_Si C hw (As := [.int a3]) (rest := []) (c4_isShort l G x m a3 _ rfl) ks_X4_isShort ml_X4_208 ⟨rfl, rfl⟩ ⟨Nat.le_of_ble_eq_true rfl, Nat.le_of_ble_eq_true rfl⟩ ⟨Nat.zero_le _, Nat.zero_le _⟩ rfl rfl (Nat.le_of_ble_eq_true rfl) (lv_sub hl [] rfl) dX4_weightFor_16 (fun H locs hw => ?_)
      refine lv_if_ne (tgt := 28) hx hb dX4_weightFor_19 (by decide) (fun hc => ?_) (fun hc => ?_)
      · replace h := p_f hc h
        refine lv_aload_n hx hb dX4_weightFor_28 rfl (lv_at hl 0 rfl) ?_
        refine lv_iload_n hx hb dX4_weightFor_29 rfl (lv_at hl 1 rfl) ?_
        refine lv_iconst (v := (2 : Int32)) hx hb dX4_weightFor_30 (by decide) ?_
        obtain ⟨v2, hq, h⟩ := p_bd h
        refine w_Vi C hw (As := [.int a1, .int (2 : Int32)]) (rest := []) (c4_its l G x m a1 (2 : Int32) v2 hq) kv_X4_its ml_X4_69 ⟨rfl, rfl⟩ ⟨Nat.le_of_ble_eq_true rfl, Nat.le_of_ble_eq_true rfl⟩ ⟨Nat.zero_le _, Nat.zero_le _⟩ (w_recv C hw (wk_model G x m) rfl) rfl rfl (Nat.le_of_ble_eq_true rfl) (lv_sub hl [] rfl) dX4_weightFor_31 (fun H locs hw => ?_)
        refine lv_istore (lv' := [(4, .int v2), (0, .ref (gq G 25)), (1, .int a1), (2, .int a2), (3, .int a3)]) hx hb dX4_weightFor_34 hl (by decide) rfl (fun ls hl => ?_)
        refine lv_iconst (v := (0 : Int32)) hx hb dX4_weightFor_36 (by decide) ?_
        refine lv_istore (lv' := [(5, .int (0 : Int32)), (4, .int v2), (0, .ref (gq G 25)), (1, .int a1), (2, .int a2), (3, .int a3)]) hx hb dX4_weightFor_37 hl (by decide) rfl (fun ls hl => ?_)
        refine lv_iconst (v := (0 : Int32)) hx hb dX4_weightFor_39 (by decide) ?_
        refine lv_istore (lv' := [(6, .int (0 : Int32)), (5, .int (0 : Int32)), (4, .int v2), (0, .ref (gq G 25)), (1, .int a1), (2, .int a2), (3, .int a3)]) hx hb dX4_weightFor_40 hl (by decide) rfl (fun ls hl => ?_)
        exact L42 fu a1 a2 a3 v2 (0 : Int32) (0 : Int32) m _ _ _ (lv_sub hl [3, 4, 5, 6, 2, 1, 0] rfl) hw h
      · replace h := p_t hc h
        exact B22 m _ _ _ (lv_sub hl [0] rfl) hw h

def f4_costOf_L4   : Nat → Int32 → Int32 → Int32 → St → Option (Int32)
  | 0, _, _, _, _ => none
  | n + 1, b1, b2, b3, m =>
    if (8 : Int32) ≤ b3 then
      some b2
    else
      (f4_part b3 (3 : Int32) m).bind fun v1 =>
      (f4_costOf_L4 n) b1 (b2 + (((b1 >>> (b3 &&& 31)) &&& (1 : Int32)) * v1)) (b3 + (1 : Int32)) m
theorem f4_costOf_L4_0   (b1 : Int32) (b2 : Int32) (b3 : Int32) (m : St) : f4_costOf_L4  0 b1 b2 b3 m = none := rfl
theorem f4_costOf_L4_s   (n : Nat) (b1 : Int32) (b2 : Int32) (b3 : Int32) (m : St) : f4_costOf_L4  (n + 1) b1 b2 b3 m =
    if (8 : Int32) ≤ b3 then
      some b2
    else
      (f4_part b3 (3 : Int32) m).bind fun v1 =>
      (f4_costOf_L4 n) b1 (b2 + (((b1 >>> (b3 &&& 31)) &&& (1 : Int32)) * v1)) (b3 + (1 : Int32)) m := rfl
def f4_costOf  (a1 : Int32) (m : St) : Option (Int32) :=
  f4_costOf_L4 fu a1 (0 : Int32) (0 : Int32) m
set_option maxHeartbeats 4000000 in
set_option maxRecDepth 100000 in
theorem c4_costOf (l : Launch) (G : GT)  (x m : St) (a1 : Int32) (r : Int32) (h : f4_costOf a1 m = some r) : Mt l yX4_costOf cX4_costOf 4 (some .int) (rmF 1 22) G x m [.ref (gq G 25), .int a1] (some (.int r)) x m := by
  refine Mt.of (by decide) (Nat.le_of_ble_eq_true rfl) ?_
  intro p e s mm args below meth c C ls hl hw
  have hx := C.1
  have hb := C.2.1
  have hown := C.2.2.2.2.1
  replace hl : lv_has ls 4 [(0, .ref (gq G 25)), (1, .int a1)] := hl
  have L4 : ∀ (n4 : Nat) (b1 : Int32) (b2 : Int32) (b3 : Int32) (H : Heap) (locs : List Loc) (ls : Array Slot), lv_has ls 4 [(0, .ref (gq G 25)), (1, .int b1), (2, .int b2), (3, .int b3)] → Wd G s x m H locs → f4_costOf_L4 n4 b1 b2 b3 m = some r → W p l e (rmF 1 22) s mm args below meth c H locs 0 0 (QE below G (some (.int r)) x m args s) (F0 mm 4 ls []) := by
    intro n4
    induction n4 with
    | zero =>
      intro b1 b2 b3  H locs ls hl hw h
      rw [f4_costOf_L4_0] at h
      exact absurd h.symm (Option.some_ne_none _)
    | succ n4 ih4 =>
      intro b1 b2 b3  H locs ls hl hw h
      rw [f4_costOf_L4_s] at h
      refine lv_iload_n hx hb dX4_costOf_4 rfl (lv_at hl 3 rfl) ?_
      refine lv_bipush (v := (8 : Int32)) hx hb dX4_costOf_5 (by decide) ?_
      refine lv_icmp_ge (tgt := 31) hx hb dX4_costOf_7 (by decide) (fun hc => ?_) (fun hc => ?_)
      · replace h := p_t hc h
        refine lv_iload_n hx hb dX4_costOf_31 rfl (lv_at hl 2 rfl) ?_
        replace h := Option.some.inj h
        subst h
        exact w_iret C hw (v := b2) rfl rfl dX4_costOf_32
      · replace h := p_f hc h
        refine lv_iload_n hx hb dX4_costOf_10 rfl (lv_at hl 2 rfl) ?_
        refine lv_iload_n hx hb dX4_costOf_11 rfl (lv_at hl 1 rfl) ?_
        refine lv_iload_n hx hb dX4_costOf_12 rfl (lv_at hl 3 rfl) ?_
        refine lv_ishr hx hb dX4_costOf_13 ?_
        refine lv_iconst (v := (1 : Int32)) hx hb dX4_costOf_14 (by decide) ?_
        refine lv_iand hx hb dX4_costOf_15 ?_
        refine lv_aload_n hx hb dX4_costOf_16 rfl (lv_at hl 0 rfl) ?_
        refine lv_iload_n hx hb dX4_costOf_17 rfl (lv_at hl 3 rfl) ?_
        refine lv_iconst (v := (3 : Int32)) hx hb dX4_costOf_18 (by decide) ?_
        obtain ⟨v1, hq, h⟩ := p_bd h
        refine w_Vi C hw (As := [.int b3, .int (3 : Int32)]) (rest := [.int ((b1 >>> (b3 &&& 31)) &&& (1 : Int32)), .int b2]) (c4_part l G x m b3 (3 : Int32) v1 hq) kv_X4_part ml_X4_63 ⟨rfl, rfl⟩ ⟨Nat.le_of_ble_eq_true rfl, Nat.le_of_ble_eq_true rfl⟩ ⟨Nat.zero_le _, Nat.zero_le _⟩ (w_recv C hw (wk_model G x m) rfl) rfl rfl (Nat.le_of_ble_eq_true rfl) (lv_sub hl [] rfl) dX4_costOf_19 (fun H locs hw => ?_)
        refine lv_imul hx hb dX4_costOf_22 ?_
        refine lv_iadd hx hb dX4_costOf_23 ?_
        refine lv_istore_n (lv' := [(2, .int (b2 + (((b1 >>> (b3 &&& 31)) &&& (1 : Int32)) * v1))), (0, .ref (gq G 25)), (1, .int b1), (3, .int b3)]) hx hb dX4_costOf_24 rfl hl (by decide) rfl (fun ls hl => ?_)
        refine lv_iinc (v := (b3 + (1 : Int32))) (lv' := [(3, .int (b3 + (1 : Int32))), (2, .int (b2 + (((b1 >>> (b3 &&& 31)) &&& (1 : Int32)) * v1))), (0, .ref (gq G 25)), (1, .int b1)]) hx hb dX4_costOf_25 hl (k := 3) rfl rfl (by decide) rfl (fun ls hl => ?_)
        refine lv_goto (tgt := 4) hx hb dX4_costOf_28 (by decide) ?_
        exact ih4 b1 (b2 + (((b1 >>> (b3 &&& 31)) &&& (1 : Int32)) * v1)) (b3 + (1 : Int32)) _ _ _ (lv_sub hl [2, 3, 1, 0] rfl) hw h
  unfold f4_costOf at h
  refine lv_iconst (v := (0 : Int32)) hx hb dX4_costOf_0 (by decide) ?_
  refine lv_istore_n (lv' := [(2, .int (0 : Int32)), (0, .ref (gq G 25)), (1, .int a1)]) hx hb dX4_costOf_1 rfl hl (by decide) rfl (fun ls hl => ?_)
  refine lv_iconst (v := (0 : Int32)) hx hb dX4_costOf_2 (by decide) ?_
  refine lv_istore_n (lv' := [(3, .int (0 : Int32)), (2, .int (0 : Int32)), (0, .ref (gq G 25)), (1, .int a1)]) hx hb dX4_costOf_3 rfl hl (by decide) rfl (fun ls hl => ?_)
  exact L4 fu a1 (0 : Int32) (0 : Int32) _ _ _ (lv_sub hl [2, 3, 1, 0] rfl) hw h

def f4_loudWith_L72   : Nat → Int32 → Int32 → St → Option (Int32 × St)
  | 0, _, _, _ => none
  | n + 1, b5, b6, m =>
    if (8 : Int32) ≤ b6 then
      some (b5, m)
    else
      if b6 < 0 ∨ 8 ≤ b6.toNatClampNeg then none else
      (f4_builds b6 (2 : Int32) (m 30 b6.toNatClampNeg) m).bind fun z5 =>
      (f4_loudWith_L72 n) b5 (b6 + (1 : Int32)) z5
theorem f4_loudWith_L72_0   (b5 : Int32) (b6 : Int32) (m : St) : f4_loudWith_L72  0 b5 b6 m = none := rfl
theorem f4_loudWith_L72_s   (n : Nat) (b5 : Int32) (b6 : Int32) (m : St) : f4_loudWith_L72  (n + 1) b5 b6 m =
    if (8 : Int32) ≤ b6 then
      some (b5, m)
    else
      if b6 < 0 ∨ 8 ≤ b6.toNatClampNeg then none else
      (f4_builds b6 (2 : Int32) (m 30 b6.toNatClampNeg) m).bind fun z5 =>
      (f4_loudWith_L72 n) b5 (b6 + (1 : Int32)) z5 := rfl
def f4_loudWith_b52  (k9 : Int32 → Int32 → Int32 → Int32 → St → Option (Int32 × St)) (b1 : Int32) (b2 : Int32) (b3 : Int32) (b5 : Int32) (w1 : Int32) (w2 : Int32) (w3 : Int32) (m : St) : Option (Int32 × St) :=
  (f4_builds w1 w2 w3 m).bind fun z4 =>
  k9 b1 b2 b3 (b5 + (1 : Int32)) z4
def f4_loudWith_L9   : Nat → Int32 → Int32 → Int32 → Int32 → St → Option (Int32 × St)
  | 0, _, _, _, _, _ => none
  | n + 1, b1, b2, b3, b5, m =>
    if (8 : Int32) ≤ b5 then
      (f4_loudBy b2 b3 m).bind fun q => match q with
      | (v2, z1) =>
        f4_loudWith_L72 fu v2 (0 : Int32) z1
    else
      (f4_part b5 (2 : Int32) m).bind fun v3 =>
      if b5 < 0 ∨ 8 ≤ b5.toNatClampNeg then none else
      if ((b1 >>> (b5 &&& 31)) &&& (1 : Int32)) = (1 : Int32) then
        f4_loudWith_b52 (f4_loudWith_L9 n) b1 b2 b3 b5 b5 (2 : Int32) (9 : Int32) (up m 30 b5.toNatClampNeg v3)
      else
        if b5 < 0 ∨ 8 ≤ b5.toNatClampNeg then none else
        f4_loudWith_b52 (f4_loudWith_L9 n) b1 b2 b3 b5 b5 (2 : Int32) ((up m 30 b5.toNatClampNeg v3) 30 b5.toNatClampNeg) (up m 30 b5.toNatClampNeg v3)
theorem f4_loudWith_L9_0   (b1 : Int32) (b2 : Int32) (b3 : Int32) (b5 : Int32) (m : St) : f4_loudWith_L9  0 b1 b2 b3 b5 m = none := rfl
theorem f4_loudWith_L9_s   (n : Nat) (b1 : Int32) (b2 : Int32) (b3 : Int32) (b5 : Int32) (m : St) : f4_loudWith_L9  (n + 1) b1 b2 b3 b5 m =
    if (8 : Int32) ≤ b5 then
      (f4_loudBy b2 b3 m).bind fun q => match q with
      | (v2, z1) =>
        f4_loudWith_L72 fu v2 (0 : Int32) z1
    else
      (f4_part b5 (2 : Int32) m).bind fun v3 =>
      if b5 < 0 ∨ 8 ≤ b5.toNatClampNeg then none else
      if ((b1 >>> (b5 &&& 31)) &&& (1 : Int32)) = (1 : Int32) then
        f4_loudWith_b52 (f4_loudWith_L9 n) b1 b2 b3 b5 b5 (2 : Int32) (9 : Int32) (up m 30 b5.toNatClampNeg v3)
      else
        if b5 < 0 ∨ 8 ≤ b5.toNatClampNeg then none else
        f4_loudWith_b52 (f4_loudWith_L9 n) b1 b2 b3 b5 b5 (2 : Int32) ((up m 30 b5.toNatClampNeg v3) 30 b5.toNatClampNeg) (up m 30 b5.toNatClampNeg v3) := rfl
def f4_loudWith  (a1 : Int32) (a2 : Int32) (a3 : Int32) (m : St) : Option (Int32 × St) :=
  f4_loudWith_L9 fu a1 a2 a3 (0 : Int32) m
set_option maxHeartbeats 4000000 in
set_option maxRecDepth 100000 in
theorem c4_loudWith (l : Launch) (G : GT)  (x m : St) (a1 : Int32) (a2 : Int32) (a3 : Int32) (r : Int32 × St) (h : f4_loudWith a1 a2 a3 m = some r) : Mt l yX4_loudWith cX4_loudWith 7 (some .int) (rmF 7 158) G x m [.ref (gq G 25), .int a1, .int a2, .int a3] (some (.int r.1)) x r.2 := by
  refine Mt.of (by decide) (Nat.le_of_ble_eq_true rfl) ?_
  intro p e s mm args below meth c C ls hl hw
  have hx := C.1
  have hb := C.2.1
  have hown := C.2.2.2.2.1
  replace hl : lv_has ls 7 [(0, .ref (gq G 25)), (1, .int a1), (2, .int a2), (3, .int a3)] := hl
  have L72 : ∀ (n72 : Nat) (b5 : Int32) (b6 : Int32) (m : St) (H : Heap) (locs : List Loc) (ls : Array Slot), lv_has ls 7 [(0, .ref (gq G 25)), (4, .ref (gq G 30)), (5, .int b5), (6, .int b6)] → Wd G s x m H locs → f4_loudWith_L72 n72 b5 b6 m = some r → W p l e (rmF 7 158) s mm args below meth c H locs 0 0 (QE below G (some (.int r.1)) x r.2 args s) (F0 mm 72 ls []) := by
    intro n72
    induction n72 with
    | zero =>
      intro b5 b6 m H locs ls hl hw h
      rw [f4_loudWith_L72_0] at h
      exact absurd h.symm (Option.some_ne_none _)
    | succ n72 ih72 =>
      intro b5 b6 m H locs ls hl hw h
      rw [f4_loudWith_L72_s] at h
      refine lv_iload hx hb dX4_loudWith_72 (lv_at hl 3 rfl) ?_
      refine lv_bipush (v := (8 : Int32)) hx hb dX4_loudWith_74 (by decide) ?_
      refine lv_icmp_ge (tgt := 97) hx hb dX4_loudWith_76 (by decide) (fun hc => ?_) (fun hc => ?_)
      · replace h := p_t hc h
        refine lv_iload hx hb dX4_loudWith_97 (lv_at hl 2 rfl) ?_
        replace h := Option.some.inj h
        subst h
        exact w_iret C hw (v := b5) rfl rfl dX4_loudWith_99
      · replace h := p_f hc h
        refine lv_aload_n hx hb dX4_loudWith_79 rfl (lv_at hl 0 rfl) ?_
        refine lv_iload hx hb dX4_loudWith_80 (lv_at hl 3 rfl) ?_
        refine lv_iconst (v := (2 : Int32)) hx hb dX4_loudWith_82 (by decide) ?_
        refine lv_aload hx hb dX4_loudWith_83 (lv_at hl 1 rfl) ?_
        refine lv_iload hx hb dX4_loudWith_85 (lv_at hl 3 rfl) ?_
        obtain ⟨hq, h⟩ := p_if h
        refine w_ald C hw (am_30 G x m).1 hq dX4_loudWith_87 ?_
        obtain ⟨z5, hq, h⟩ := p_bd h
        refine w_Vv C hw (As := [.int b6, .int (2 : Int32), .int (m 30 b6.toNatClampNeg)]) (rest := []) (c4_builds l G x m b6 (2 : Int32) (m 30 b6.toNatClampNeg) z5 hq) kv_X4_builds ml_X4_40 ⟨rfl, rfl⟩ ⟨Nat.le_of_ble_eq_true rfl, Nat.le_of_ble_eq_true rfl⟩ ⟨Nat.zero_le _, Nat.zero_le _⟩ (w_recv C hw (wk_model G x m) rfl) rfl rfl (Nat.le_of_ble_eq_true rfl) (lv_sub hl [] rfl) dX4_loudWith_88 (fun H locs hw => ?_)
        refine lv_iinc (v := (b6 + (1 : Int32))) (lv' := [(6, .int (b6 + (1 : Int32))), (0, .ref (gq G 25)), (4, .ref (gq G 30)), (5, .int b5)]) hx hb dX4_loudWith_91 hl (k := 3) rfl rfl (by decide) rfl (fun ls hl => ?_)
        refine lv_goto (tgt := 72) hx hb dX4_loudWith_94 (by decide) ?_
        exact ih72 b5 (b6 + (1 : Int32)) z5 _ _ _ (lv_sub hl [1, 2, 3, 0] rfl) hw h
  have L9 : ∀ (n9 : Nat) (b1 : Int32) (b2 : Int32) (b3 : Int32) (b5 : Int32) (m : St) (H : Heap) (locs : List Loc) (ls : Array Slot), lv_has ls 7 [(0, .ref (gq G 25)), (1, .int b1), (2, .int b2), (3, .int b3), (4, .ref (gq G 30)), (5, .int b5)] → Wd G s x m H locs → f4_loudWith_L9 n9 b1 b2 b3 b5 m = some r → W p l e (rmF 7 158) s mm args below meth c H locs 0 0 (QE below G (some (.int r.1)) x r.2 args s) (F0 mm 9 ls []) := by
    intro n9
    induction n9 with
    | zero =>
      intro b1 b2 b3 b5 m H locs ls hl hw h
      rw [f4_loudWith_L9_0] at h
      exact absurd h.symm (Option.some_ne_none _)
    | succ n9 ih9 =>
      have B52 : ∀ (b1 : Int32) (b2 : Int32) (b3 : Int32) (b5 : Int32) (w1 : Int32) (w2 : Int32) (w3 : Int32) (m : St) (H : Heap) (locs : List Loc) (ls : Array Slot), lv_has ls 7 [(0, .ref (gq G 25)), (1, .int b1), (2, .int b2), (3, .int b3), (4, .ref (gq G 30)), (5, .int b5)] → Wd G s x m H locs → f4_loudWith_b52 (f4_loudWith_L9 n9) b1 b2 b3 b5 w1 w2 w3 m = some r → W p l e (rmF 7 158) s mm args below meth c H locs 0 0 (QE below G (some (.int r.1)) x r.2 args s) (F0 mm 52 ls [.int w3, .int w2, .int w1, .ref (gq G 25)]) := by
        intro b1 b2 b3 b5 w1 w2 w3 m H locs ls hl hw h
        unfold f4_loudWith_b52 at h
        obtain ⟨z4, hq, h⟩ := p_bd h
        refine w_Vv C hw (As := [.int w1, .int w2, .int w3]) (rest := []) (c4_builds l G x m w1 w2 w3 z4 hq) kv_X4_builds ml_X4_40 ⟨rfl, rfl⟩ ⟨Nat.le_of_ble_eq_true rfl, Nat.le_of_ble_eq_true rfl⟩ ⟨Nat.zero_le _, Nat.zero_le _⟩ (w_recv C hw (wk_model G x m) rfl) rfl rfl (Nat.le_of_ble_eq_true rfl) (lv_sub hl [] rfl) dX4_loudWith_52 (fun H locs hw => ?_)
        refine lv_iinc (v := (b5 + (1 : Int32))) (lv' := [(5, .int (b5 + (1 : Int32))), (0, .ref (gq G 25)), (1, .int b1), (2, .int b2), (3, .int b3), (4, .ref (gq G 30))]) hx hb dX4_loudWith_55 hl (k := 5) rfl rfl (by decide) rfl (fun ls hl => ?_)
        refine lv_goto (tgt := 9) hx hb dX4_loudWith_58 (by decide) ?_
        exact ih9 b1 b2 b3 (b5 + (1 : Int32)) z4 _ _ _ (lv_sub hl [1, 2, 3, 4, 5, 0] rfl) hw h
      intro b1 b2 b3 b5 m H locs ls hl hw h
      rw [f4_loudWith_L9_s] at h
      refine lv_iload hx hb dX4_loudWith_9 (lv_at hl 5 rfl) ?_
      refine lv_bipush (v := (8 : Int32)) hx hb dX4_loudWith_11 (by decide) ?_
      refine lv_icmp_ge (tgt := 61) hx hb dX4_loudWith_13 (by decide) (fun hc => ?_) (fun hc => ?_)
      · replace h := p_t hc h
        refine lv_aload_n hx hb dX4_loudWith_61 rfl (lv_at hl 0 rfl) ?_
        refine lv_iload_n hx hb dX4_loudWith_62 rfl (lv_at hl 2 rfl) ?_
        refine lv_iload_n hx hb dX4_loudWith_63 rfl (lv_at hl 3 rfl) ?_
        obtain ⟨⟨v2, z1⟩, hq, h⟩ := p_bd h
        dsimp only at h
        refine w_Vi C hw (As := [.int b2, .int b3]) (rest := []) (c4_loudBy l G x m b2 b3 (v2, z1) hq) kv_X4_loudBy ml_X4_174 ⟨rfl, rfl⟩ ⟨Nat.le_of_ble_eq_true rfl, Nat.le_of_ble_eq_true rfl⟩ ⟨Nat.zero_le _, Nat.zero_le _⟩ (w_recv C hw (wk_model G x m) rfl) rfl rfl (Nat.le_of_ble_eq_true rfl) (lv_sub hl [] rfl) dX4_loudWith_64 (fun H locs hw => ?_)
        refine lv_istore (lv' := [(5, .int v2), (0, .ref (gq G 25)), (1, .int b1), (2, .int b2), (3, .int b3), (4, .ref (gq G 30))]) hx hb dX4_loudWith_67 hl (by decide) rfl (fun ls hl => ?_)
        refine lv_iconst (v := (0 : Int32)) hx hb dX4_loudWith_69 (by decide) ?_
        refine lv_istore (lv' := [(6, .int (0 : Int32)), (5, .int v2), (0, .ref (gq G 25)), (1, .int b1), (2, .int b2), (3, .int b3), (4, .ref (gq G 30))]) hx hb dX4_loudWith_70 hl (by decide) rfl (fun ls hl => ?_)
        exact L72 fu v2 (0 : Int32) z1 _ _ _ (lv_sub hl [2, 6, 1, 0] rfl) hw h
      · replace h := p_f hc h
        refine lv_aload hx hb dX4_loudWith_16 (lv_at hl 4 rfl) ?_
        refine lv_iload hx hb dX4_loudWith_18 (lv_at hl 5 rfl) ?_
        refine lv_aload_n hx hb dX4_loudWith_20 rfl (lv_at hl 0 rfl) ?_
        refine lv_iload hx hb dX4_loudWith_21 (lv_at hl 5 rfl) ?_
        refine lv_iconst (v := (2 : Int32)) hx hb dX4_loudWith_23 (by decide) ?_
        obtain ⟨v3, hq, h⟩ := p_bd h
        refine w_Vi C hw (As := [.int b5, .int (2 : Int32)]) (rest := [.int b5, .ref (gq G 30)]) (c4_part l G x m b5 (2 : Int32) v3 hq) kv_X4_part ml_X4_63 ⟨rfl, rfl⟩ ⟨Nat.le_of_ble_eq_true rfl, Nat.le_of_ble_eq_true rfl⟩ ⟨Nat.zero_le _, Nat.zero_le _⟩ (w_recv C hw (wk_model G x m) rfl) rfl rfl (Nat.le_of_ble_eq_true rfl) (lv_sub hl [] rfl) dX4_loudWith_24 (fun H locs hw => ?_)
        obtain ⟨hq, h⟩ := p_if h
        refine w_astM C hw am_30 hq dX4_loudWith_27 (fun H locs hw => ?_)
        refine lv_aload_n hx hb dX4_loudWith_28 rfl (lv_at hl 0 rfl) ?_
        refine lv_iload hx hb dX4_loudWith_29 (lv_at hl 5 rfl) ?_
        refine lv_iconst (v := (2 : Int32)) hx hb dX4_loudWith_31 (by decide) ?_
        refine lv_iload_n hx hb dX4_loudWith_32 rfl (lv_at hl 1 rfl) ?_
        refine lv_iload hx hb dX4_loudWith_33 (lv_at hl 5 rfl) ?_
        refine lv_ishr hx hb dX4_loudWith_35 ?_
        refine lv_iconst (v := (1 : Int32)) hx hb dX4_loudWith_36 (by decide) ?_
        refine lv_iand hx hb dX4_loudWith_37 ?_
        refine lv_iconst (v := (1 : Int32)) hx hb dX4_loudWith_38 (by decide) ?_
        refine lv_icmp_ne (tgt := 47) hx hb dX4_loudWith_39 (by decide) (fun hc => ?_) (fun hc => ?_)
        · replace h := p_f hc h
          refine lv_aload hx hb dX4_loudWith_47 (lv_at hl 4 rfl) ?_
          refine lv_iload hx hb dX4_loudWith_49 (lv_at hl 5 rfl) ?_
          obtain ⟨hq, h⟩ := p_if h
          refine w_ald C hw (am_30 G x (up m 30 b5.toNatClampNeg v3)).1 hq dX4_loudWith_51 ?_
          exact B52 b1 b2 b3 b5 b5 (2 : Int32) ((up m 30 b5.toNatClampNeg v3) 30 b5.toNatClampNeg) (up m 30 b5.toNatClampNeg v3) _ _ _ (lv_sub hl [0, 1, 2, 3, 4, 5] rfl) hw h
        · replace h := p_t hc h
          refine lv_bipush (v := (9 : Int32)) hx hb dX4_loudWith_42 (by decide) ?_
          refine lv_goto (tgt := 52) hx hb dX4_loudWith_44 (by decide) ?_
          exact B52 b1 b2 b3 b5 b5 (2 : Int32) (9 : Int32) (up m 30 b5.toNatClampNeg v3) _ _ _ (lv_sub hl [0, 1, 2, 3, 4, 5] rfl) hw h
  unfold f4_loudWith at h
  refine lv_aload_n hx hb dX4_loudWith_0 rfl (lv_at hl 0 rfl) ?_
  refine w_get C hw (v := .ref (gq G 30)) (k := 11) (wk_model G x m) rfl it_4 (by decide) fl_X4_22 rfl dX4_loudWith_1 ?_
  refine lv_astore (lv' := [(4, .ref (gq G 30)), (0, .ref (gq G 25)), (1, .int a1), (2, .int a2), (3, .int a3)]) hx hb dX4_loudWith_4 hl (by decide) rfl (fun ls hl => ?_)
  refine lv_iconst (v := (0 : Int32)) hx hb dX4_loudWith_6 (by decide) ?_
  refine lv_istore (lv' := [(5, .int (0 : Int32)), (4, .ref (gq G 30)), (0, .ref (gq G 25)), (1, .int a1), (2, .int a2), (3, .int a3)]) hx hb dX4_loudWith_7 hl (by decide) rfl (fun ls hl => ?_)
  exact L9 fu a1 a2 a3 (0 : Int32) m _ _ _ (lv_sub hl [2, 3, 4, 5, 1, 0] rfl) hw h

def f4_findSand_b64  (k8 : Int32 → Int32 → Int32 → Int32 → St → Option (St)) (b1 : Int32) (b2 : Int32) (b3 : Int32) (b4 : Int32) (m : St) : Option (St) :=
  k8 b1 b2 b3 (b4 + (1 : Int32)) m
def f4_findSand_b36  (k8 : Int32 → Int32 → Int32 → Int32 → St → Option (St)) (b1 : Int32) (b2 : Int32) (b3 : Int32) (b4 : Int32) (m : St) : Option (St) :=
  (f4_loudWith b4 b1 b3 m).bind fun q => match q with
  | (v3, z2) =>
    if b2 < v3 then
      f4_findSand_b64 k8 b1 b2 b3 b4 z2
    else
      (f4_costOf b4 (up z2 25 9 b4)).bind fun v4 =>
      f4_findSand_b64 k8 b1 b2 b3 b4 (up (up z2 25 9 b4) 25 10 v4)
def f4_findSand_L8   : Nat → Int32 → Int32 → Int32 → Int32 → St → Option (St)
  | 0, _, _, _, _, _ => none
  | n + 1, b1, b2, b3, b4, m =>
    if (256 : Int32) ≤ b4 then
      some m
    else
      if (m 25 9) < 0 then
        f4_findSand_b36 (f4_findSand_L8 n) b1 b2 b3 b4 m
      else
        (f4_costOf b4 m).bind fun v1 =>
        if (m 25 10) ≤ v1 then
          f4_findSand_b64 (f4_findSand_L8 n) b1 b2 b3 b4 m
        else
          f4_findSand_b36 (f4_findSand_L8 n) b1 b2 b3 b4 m
theorem f4_findSand_L8_0   (b1 : Int32) (b2 : Int32) (b3 : Int32) (b4 : Int32) (m : St) : f4_findSand_L8  0 b1 b2 b3 b4 m = none := rfl
theorem f4_findSand_L8_s   (n : Nat) (b1 : Int32) (b2 : Int32) (b3 : Int32) (b4 : Int32) (m : St) : f4_findSand_L8  (n + 1) b1 b2 b3 b4 m =
    if (256 : Int32) ≤ b4 then
      some m
    else
      if (m 25 9) < 0 then
        f4_findSand_b36 (f4_findSand_L8 n) b1 b2 b3 b4 m
      else
        (f4_costOf b4 m).bind fun v1 =>
        if (m 25 10) ≤ v1 then
          f4_findSand_b64 (f4_findSand_L8 n) b1 b2 b3 b4 m
        else
          f4_findSand_b36 (f4_findSand_L8 n) b1 b2 b3 b4 m := rfl
def f4_findSand  (a1 : Int32) (a2 : Int32) (a3 : Int32) (m : St) : Option (St) :=
  f4_findSand_L8 fu a1 a2 a3 (0 : Int32) (up m 25 9 (-1 : Int32))
set_option maxHeartbeats 4000000 in
set_option maxRecDepth 100000 in
theorem c4_findSand (l : Launch) (G : GT)  (x m : St) (a1 : Int32) (a2 : Int32) (a3 : Int32) (r : St) (h : f4_findSand a1 a2 a3 m = some r) : Mt l yX4_findSand cX4_findSand 5 none (rmF 8 184) G x m [.ref (gq G 25), .int a1, .int a2, .int a3] none x r := by
  refine Mt.of (by decide) (Nat.le_of_ble_eq_true rfl) ?_
  intro p e s mm args below meth c C ls hl hw
  have hx := C.1
  have hb := C.2.1
  have hown := C.2.2.2.2.1
  replace hl : lv_has ls 5 [(0, .ref (gq G 25)), (1, .int a1), (2, .int a2), (3, .int a3)] := hl
  have L8 : ∀ (n8 : Nat) (b1 : Int32) (b2 : Int32) (b3 : Int32) (b4 : Int32) (m : St) (H : Heap) (locs : List Loc) (ls : Array Slot), lv_has ls 5 [(0, .ref (gq G 25)), (1, .int b1), (2, .int b2), (3, .int b3), (4, .int b4)] → Wd G s x m H locs → f4_findSand_L8 n8 b1 b2 b3 b4 m = some r → W p l e (rmF 8 184) s mm args below meth c H locs 0 0 (QE below G none x r args s) (F0 mm 8 ls []) := by
    intro n8
    induction n8 with
    | zero =>
      intro b1 b2 b3 b4 m H locs ls hl hw h
      rw [f4_findSand_L8_0] at h
      exact absurd h.symm (Option.some_ne_none _)
    | succ n8 ih8 =>
      have B64 : ∀ (b1 : Int32) (b2 : Int32) (b3 : Int32) (b4 : Int32) (m : St) (H : Heap) (locs : List Loc) (ls : Array Slot), lv_has ls 5 [(0, .ref (gq G 25)), (1, .int b1), (2, .int b2), (3, .int b3), (4, .int b4)] → Wd G s x m H locs → f4_findSand_b64 (f4_findSand_L8 n8) b1 b2 b3 b4 m = some r → W p l e (rmF 8 184) s mm args below meth c H locs 0 0 (QE below G none x r args s) (F0 mm 64 ls []) := by
        intro b1 b2 b3 b4 m H locs ls hl hw h
        unfold f4_findSand_b64 at h
        refine lv_iinc (v := (b4 + (1 : Int32))) (lv' := [(4, .int (b4 + (1 : Int32))), (0, .ref (gq G 25)), (1, .int b1), (2, .int b2), (3, .int b3)]) hx hb dX4_findSand_64 hl (k := 4) rfl rfl (by decide) rfl (fun ls hl => ?_)
        refine lv_goto (tgt := 8) hx hb dX4_findSand_67 (by decide) ?_
        exact ih8 b1 b2 b3 (b4 + (1 : Int32)) m _ _ _ (lv_sub hl [1, 2, 3, 4, 0] rfl) hw h
      have B36 : ∀ (b1 : Int32) (b2 : Int32) (b3 : Int32) (b4 : Int32) (m : St) (H : Heap) (locs : List Loc) (ls : Array Slot), lv_has ls 5 [(0, .ref (gq G 25)), (1, .int b1), (2, .int b2), (3, .int b3), (4, .int b4)] → Wd G s x m H locs → f4_findSand_b36 (f4_findSand_L8 n8) b1 b2 b3 b4 m = some r → W p l e (rmF 8 184) s mm args below meth c H locs 0 0 (QE below G none x r args s) (F0 mm 36 ls []) := by
        intro b1 b2 b3 b4 m H locs ls hl hw h
        unfold f4_findSand_b36 at h
        refine lv_aload_n hx hb dX4_findSand_36 rfl (lv_at hl 0 rfl) ?_
        refine lv_iload hx hb dX4_findSand_37 (lv_at hl 4 rfl) ?_
        refine lv_iload_n hx hb dX4_findSand_39 rfl (lv_at hl 1 rfl) ?_
        refine lv_iload_n hx hb dX4_findSand_40 rfl (lv_at hl 3 rfl) ?_
        obtain ⟨⟨v3, z2⟩, hq, h⟩ := p_bd h
        dsimp only at h
        refine w_Vi C hw (As := [.int b4, .int b1, .int b3]) (rest := []) (c4_loudWith l G x m b4 b1 b3 (v3, z2) hq) kv_X4_loudWith ml_X4_220 ⟨rfl, rfl⟩ ⟨Nat.le_of_ble_eq_true rfl, Nat.le_of_ble_eq_true rfl⟩ ⟨Nat.zero_le _, Nat.zero_le _⟩ (w_recv C hw (wk_model G x m) rfl) rfl rfl (Nat.le_of_ble_eq_true rfl) (lv_sub hl [] rfl) dX4_findSand_41 (fun H locs hw => ?_)
        refine lv_iload_n hx hb dX4_findSand_44 rfl (lv_at hl 2 rfl) ?_
        refine lv_icmp_gt (tgt := 64) hx hb dX4_findSand_45 (by decide) (fun hc => ?_) (fun hc => ?_)
        · replace h := p_t hc h
          exact B64 b1 b2 b3 b4 z2 _ _ _ (lv_sub hl [0, 1, 2, 3, 4] rfl) hw h
        · replace h := p_f hc h
          refine lv_aload_n hx hb dX4_findSand_48 rfl (lv_at hl 0 rfl) ?_
          refine lv_iload hx hb dX4_findSand_49 (lv_at hl 4 rfl) ?_
          refine w_put C hw (k := 9) tyX4 tyX4_ok nmX4 (wk_model G x z2) rfl it_4 (by decide) fl_X4_211 rfl (ty := .int) rfl rfl rfl (Nat.le_of_ble_eq_true rfl) (ws_model_9 G x z2 _) dX4_findSand_51 (fun H locs hw => ?_)
          refine lv_aload_n hx hb dX4_findSand_54 rfl (lv_at hl 0 rfl) ?_
          refine lv_aload_n hx hb dX4_findSand_55 rfl (lv_at hl 0 rfl) ?_
          refine lv_iload hx hb dX4_findSand_56 (lv_at hl 4 rfl) ?_
          obtain ⟨v4, hq, h⟩ := p_bd h
          refine w_Vi C hw (As := [.int b4]) (rest := [.ref (gq G 25)]) (c4_costOf l G x (up z2 25 9 b4) b4 v4 hq) kv_X4_costOf ml_X4_214 ⟨rfl, rfl⟩ ⟨Nat.le_of_ble_eq_true rfl, Nat.le_of_ble_eq_true rfl⟩ ⟨Nat.zero_le _, Nat.zero_le _⟩ (w_recv C hw (wk_model G x (up z2 25 9 b4)) rfl) rfl rfl (Nat.le_of_ble_eq_true rfl) (lv_sub hl [] rfl) dX4_findSand_58 (fun H locs hw => ?_)
          refine w_put C hw (k := 10) tyX4 tyX4_ok nmX4 (wk_model G x (up z2 25 9 b4)) rfl it_4 (by decide) fl_X4_217 rfl (ty := .int) rfl rfl rfl (Nat.le_of_ble_eq_true rfl) (ws_model_10 G x (up z2 25 9 b4) _) dX4_findSand_61 (fun H locs hw => ?_)
          exact B64 b1 b2 b3 b4 (up (up z2 25 9 b4) 25 10 v4) _ _ _ (lv_sub hl [0, 1, 2, 3, 4] rfl) hw h
      intro b1 b2 b3 b4 m H locs ls hl hw h
      rw [f4_findSand_L8_s] at h
      refine lv_iload hx hb dX4_findSand_8 (lv_at hl 4 rfl) ?_
      refine lv_sipush (v := (256 : Int32)) hx hb dX4_findSand_10 (by decide) ?_
      refine lv_icmp_ge (tgt := 70) hx hb dX4_findSand_13 (by decide) (fun hc => ?_) (fun hc => ?_)
      · replace h := p_t hc h
        replace h := Option.some.inj h
        subst h
        exact w_vret C hw rfl dX4_findSand_70
      · replace h := p_f hc h
        refine lv_aload_n hx hb dX4_findSand_16 rfl (lv_at hl 0 rfl) ?_
        refine w_get C hw (v := .int (m 25 9)) (k := 9) (wk_model G x m) rfl it_4 (by decide) fl_X4_211 rfl dX4_findSand_17 ?_
        refine lv_if_lt (tgt := 36) hx hb dX4_findSand_20 (by decide) (fun hc => ?_) (fun hc => ?_)
        · replace h := p_t hc h
          exact B36 b1 b2 b3 b4 m _ _ _ (lv_sub hl [0, 1, 2, 3, 4] rfl) hw h
        · replace h := p_f hc h
          refine lv_aload_n hx hb dX4_findSand_23 rfl (lv_at hl 0 rfl) ?_
          refine lv_iload hx hb dX4_findSand_24 (lv_at hl 4 rfl) ?_
          obtain ⟨v1, hq, h⟩ := p_bd h
          refine w_Vi C hw (As := [.int b4]) (rest := []) (c4_costOf l G x m b4 v1 hq) kv_X4_costOf ml_X4_214 ⟨rfl, rfl⟩ ⟨Nat.le_of_ble_eq_true rfl, Nat.le_of_ble_eq_true rfl⟩ ⟨Nat.zero_le _, Nat.zero_le _⟩ (w_recv C hw (wk_model G x m) rfl) rfl rfl (Nat.le_of_ble_eq_true rfl) (lv_sub hl [] rfl) dX4_findSand_26 (fun H locs hw => ?_)
          refine lv_aload_n hx hb dX4_findSand_29 rfl (lv_at hl 0 rfl) ?_
          refine w_get C hw (v := .int (m 25 10)) (k := 10) (wk_model G x m) rfl it_4 (by decide) fl_X4_217 rfl dX4_findSand_30 ?_
          refine lv_icmp_ge (tgt := 64) hx hb dX4_findSand_33 (by decide) (fun hc => ?_) (fun hc => ?_)
          · replace h := p_t hc h
            exact B64 b1 b2 b3 b4 m _ _ _ (lv_sub hl [0, 1, 2, 3, 4] rfl) hw h
          · replace h := p_f hc h
            exact B36 b1 b2 b3 b4 m _ _ _ (lv_sub hl [0, 1, 2, 3, 4] rfl) hw h
  unfold f4_findSand at h
  refine lv_aload_n hx hb dX4_findSand_0 rfl (lv_at hl 0 rfl) ?_
  refine lv_iconst (v := (-1 : Int32)) hx hb dX4_findSand_1 (by decide) ?_
  refine w_put C hw (k := 9) tyX4 tyX4_ok nmX4 (wk_model G x m) rfl it_4 (by decide) fl_X4_211 rfl (ty := .int) rfl rfl rfl (Nat.le_of_ble_eq_true rfl) (ws_model_9 G x m _) dX4_findSand_2 (fun H locs hw => ?_)
  refine lv_iconst (v := (0 : Int32)) hx hb dX4_findSand_5 (by decide) ?_
  refine lv_istore (lv' := [(4, .int (0 : Int32)), (0, .ref (gq G 25)), (1, .int a1), (2, .int a2), (3, .int a3)]) hx hb dX4_findSand_6 hl (by decide) rfl (fun ls hl => ?_)
  exact L8 fu a1 a2 a3 (0 : Int32) (up m 25 9 (-1 : Int32)) _ _ _ (lv_sub hl [1, 2, 3, 4, 0] rfl) hw h

def f4_isQuiet  (a1 : Int32) (a2 : Int32) (a3 : Int32) : Int32 :=
  if (f4_isCorner a1) = 0 then
    (0 : Int32)
  else
    if (f4_in (a2.toInt64) (0 : Int64) (9999 : Int64)) = 0 then
      (0 : Int32)
    else
      if (f4_isShort a3) = 0 then
        (0 : Int32)
      else
        (1 : Int32)
theorem bz_X4_isQuiet  (a1 : Int32) (a2 : Int32) (a3 : Int32) : f4_isQuiet a1 a2 a3 = 0 ∨ f4_isQuiet a1 a2 a3 = 1 := by
  unfold f4_isQuiet
  repeat' split
  all_goals first | exact Or.inl rfl | exact Or.inr rfl | exact bz_X4_in _ _ _  | exact bz_X4_isCorner _  | exact bz_X4_isShort _ 
set_option maxHeartbeats 4000000 in
set_option maxRecDepth 100000 in
theorem c4_isQuiet (l : Launch) (G : GT)  (x m : St) (a1 : Int32) (a2 : Int32) (a3 : Int32) (r : Int32) (h : f4_isQuiet a1 a2 a3 = r) : Mt l yX4_isQuiet cX4_isQuiet 3 (some .boolean) (rmF 2 45) G x m [.int a1, .int a2, .int a3] (some (.int r)) x m := by
  refine Mt.of (by decide) (Nat.le_of_ble_eq_true rfl) ?_
  intro p e s mm args below meth c C ls hl hw
  have hx := C.1
  have hb := C.2.1
  have hown := C.2.2.2.2.1
  replace hl : lv_has ls 3 [(0, .int a1), (1, .int a2), (2, .int a3)] := hl
  unfold f4_isQuiet at h
  refine lv_iload_n hx hb dX4_isQuiet_0 rfl (lv_at hl 0 rfl) ?_
  refine w_Si C hw (As := [.int a1]) (rest := []) (c4_isCorner l G x m a1 _ rfl) ks_X4_isCorner ml_X4_76 ⟨rfl, rfl⟩ ⟨Nat.le_of_ble_eq_true rfl, Nat.le_of_ble_eq_true rfl⟩ ⟨Nat.zero_le _, Nat.zero_le _⟩ rfl rfl (Nat.le_of_ble_eq_true rfl) (lv_sub hl [] rfl) dX4_isQuiet_1 (fun H locs hw => ?_)
  refine lv_if_eq (tgt := 30) hx hb dX4_isQuiet_4 (by decide) (fun hc => ?_) (fun hc => ?_)
  · replace h := p_t hc h
    refine lv_iconst (v := (0 : Int32)) hx hb dX4_isQuiet_30 (by decide) ?_
    subst h
    exact w_iret C hw (v := (0 : Int32)) rfl rfl dX4_isQuiet_31
  · replace h := p_f hc h
    refine lv_iload_n hx hb dX4_isQuiet_7 rfl (lv_at hl 1 rfl) ?_
    refine lv_i2l hx hb dX4_isQuiet_8 rfl ?_
    refine lv_lconst (v := (0 : Int64)) hx hb dX4_isQuiet_9 (by decide) ?_
    refine lv_ldc2 hx hb hown (C.w kl_X4_223) dX4_isQuiet_10 ?_
    refine w_Si C hw (As := [.long (a2.toInt64), .long (0 : Int64), .long (9999 : Int64)]) (rest := []) (c4_in l G x m (a2.toInt64) (0 : Int64) (9999 : Int64) _ rfl) ks_X4_in ml_X4_57 ⟨rfl, rfl⟩ ⟨Nat.le_of_ble_eq_true rfl, Nat.le_of_ble_eq_true rfl⟩ ⟨Nat.zero_le _, Nat.zero_le _⟩ rfl rfl (Nat.le_of_ble_eq_true rfl) (lv_sub hl [] rfl) dX4_isQuiet_13 (fun H locs hw => ?_)
    refine lv_if_eq (tgt := 30) hx hb dX4_isQuiet_16 (by decide) (fun hc => ?_) (fun hc => ?_)
    · replace h := p_t hc h
      refine lv_iconst (v := (0 : Int32)) hx hb dX4_isQuiet_30 (by decide) ?_
      subst h
      exact w_iret C hw (v := (0 : Int32)) rfl rfl dX4_isQuiet_31
    · replace h := p_f hc h
      refine lv_iload_n hx hb dX4_isQuiet_19 rfl (lv_at hl 2 rfl) ?_
      refine w_Si C hw (As := [.int a3]) (rest := []) (c4_isShort l G x m a3 _ rfl) ks_X4_isShort ml_X4_208 ⟨rfl, rfl⟩ ⟨Nat.le_of_ble_eq_true rfl, Nat.le_of_ble_eq_true rfl⟩ ⟨Nat.zero_le _, Nat.zero_le _⟩ rfl rfl (Nat.le_of_ble_eq_true rfl) (lv_sub hl [] rfl) dX4_isQuiet_20 (fun H locs hw => ?_)
      refine lv_if_eq (tgt := 30) hx hb dX4_isQuiet_23 (by decide) (fun hc => ?_) (fun hc => ?_)
      · replace h := p_t hc h
        refine lv_iconst (v := (0 : Int32)) hx hb dX4_isQuiet_30 (by decide) ?_
        subst h
        exact w_iret C hw (v := (0 : Int32)) rfl rfl dX4_isQuiet_31
      · replace h := p_f hc h
        refine lv_iconst (v := (1 : Int32)) hx hb dX4_isQuiet_26 (by decide) ?_
        refine lv_goto (tgt := 31) hx hb dX4_isQuiet_27 (by decide) ?_
        subst h
        exact w_iret C hw (v := (1 : Int32)) rfl rfl dX4_isQuiet_31
