def f4_whisperTold_b59   (b2 : Int32) (m : St) : Option (St) :=
  (f4_takes 8 m).bind fun q => match q with
  | (v10, z9) =>
    if v10 = 0 then
      some z9
    else
      (f4_numberRead (1 : Int32) (999 : Int32) z9).bind fun q => match q with
      | (v12, z11) =>
        (f4_sets b2 (2 : Int32) v12 z11).bind fun z13 =>
        some z13
def f4_whisperTold_b17   (b1 : Int32) (w1 : Int32) (m : St) : Option (St) :=
  (f4_must w1 m).bind fun z1 =>
  if (z1 25 18) = 0 then
    (f4_adds b1 (0 : Int32) (1 : Int32) z1).bind fun q => match q with
    | (v3, z2) =>
      (f4_takes 7 z2).bind fun q => match q with
      | (v5, z4) =>
        if v5 = 0 then
          f4_whisperTold_b59 v3 z4
        else
          (f4_numberRead (0 : Int32) (15 : Int32) z4).bind fun q => match q with
          | (v7, z6) =>
            (f4_sets v3 (1 : Int32) v7 z6).bind fun z8 =>
            f4_whisperTold_b59 v3 z8
  else
    some z1
def f4_whisperTold  (a1 : Int32) (m : St) : Option (St) :=
  if (1 : Int32) < 0 ∨ 119 ≤ (1 : Int32).toNatClampNeg then none else
  if (8 : Int32) ≤ (m 26 (1 : Int32).toNatClampNeg) then
    f4_whisperTold_b17 a1 (0 : Int32) m
  else
    f4_whisperTold_b17 a1 (1 : Int32) m
set_option maxHeartbeats 4000000 in
set_option maxRecDepth 100000 in
theorem c4_whisperTold (l : Launch) (G : GT)  (x m : St) (a1 : Int32) (r : St) (h : f4_whisperTold a1 m = some r) : Mt l yX4_whisperTold cX4_whisperTold 3 none (rmF 6 130) G x m [.ref (gq G 25), .int a1] none x r := by
  refine Mt.of (by decide) (Nat.le_of_ble_eq_true rfl) ?_
  intro p e s mm args below meth c C ls hl hw
  have hx := C.1
  have hb := C.2.1
  have hown := C.2.2.2.2.1
  replace hl : lv_has ls 3 [(0, .ref (gq G 25)), (1, .int a1)] := hl
  have B59 : ∀ (b2 : Int32) (m : St) (H : Heap) (locs : List Loc) (ls : Array Slot), lv_has ls 3 [(0, .ref (gq G 25)), (2, .int b2)] → Wd G s x m H locs → f4_whisperTold_b59 b2 m = some r → W p l e (rmF 6 130) s mm args below meth c H locs 0 0 (QE below G none x r args s) (F0 mm 59 ls []) := by
    intro b2 m H locs ls hl hw h
    unfold f4_whisperTold_b59 at h
    refine lv_aload_n hx hb dX4_whisperTold_59 rfl (lv_at hl 0 rfl) ?_
    refine w_ldcSw C (i := 8) (List.mem_of_getElem? (i := 25) rfl) dX4_whisperTold_60 ?_
    obtain ⟨⟨v10, z9⟩, hq, h⟩ := p_bd h
    dsimp only at h
    refine w_Vi C hw (As := [.ref (gK G 8)]) (rest := []) (c4_takes l G 8 (by decide) x m (v10, z9) hq) kv_X4_takes ml_X4_312 ⟨rfl, rfl⟩ ⟨Nat.le_of_ble_eq_true rfl, Nat.le_of_ble_eq_true rfl⟩ ⟨Nat.zero_le _, Nat.zero_le _⟩ (w_recv C hw (wk_model G x m) rfl) rfl rfl (Nat.le_of_ble_eq_true rfl) (lv_sub hl [] rfl) dX4_whisperTold_63 (fun H locs hw => ?_)
    refine lv_if_eq (tgt := 83) hx hb dX4_whisperTold_66 (by decide) (fun hc => ?_) (fun hc => ?_)
    · replace h := p_t hc h
      replace h := Option.some.inj h
      subst h
      exact w_vret C hw rfl dX4_whisperTold_83
    · replace h := p_f hc h
      refine lv_aload_n hx hb dX4_whisperTold_69 rfl (lv_at hl 0 rfl) ?_
      refine lv_iload_n hx hb dX4_whisperTold_70 rfl (lv_at hl 1 rfl) ?_
      refine lv_iconst (v := (2 : Int32)) hx hb dX4_whisperTold_71 (by decide) ?_
      refine lv_aload_n hx hb dX4_whisperTold_72 rfl (lv_at hl 0 rfl) ?_
      refine lv_iconst (v := (1 : Int32)) hx hb dX4_whisperTold_73 (by decide) ?_
      refine lv_sipush (v := (999 : Int32)) hx hb dX4_whisperTold_74 (by decide) ?_
      obtain ⟨⟨v12, z11⟩, hq, h⟩ := p_bd h
      dsimp only at h
      refine w_Vi C hw (As := [.int (1 : Int32), .int (999 : Int32)]) (rest := [.int (2 : Int32), .int b2, .ref (gq G 25)]) (c4_numberRead l G x z9 (1 : Int32) (999 : Int32) (v12, z11) hq) kv_X4_numberRead ml_X4_315 ⟨rfl, rfl⟩ ⟨Nat.le_of_ble_eq_true rfl, Nat.le_of_ble_eq_true rfl⟩ ⟨Nat.zero_le _, Nat.zero_le _⟩ (w_recv C hw (wk_model G x z9) rfl) rfl rfl (Nat.le_of_ble_eq_true rfl) (lv_sub hl [] rfl) dX4_whisperTold_77 (fun H locs hw => ?_)
      obtain ⟨z13, hq, h⟩ := p_bd h
      refine w_Vv C hw (As := [.int b2, .int (2 : Int32), .int v12]) (rest := []) (c4_sets l G x z11 b2 (2 : Int32) v12 z13 hq) kv_X4_sets ml_X4_107 ⟨rfl, rfl⟩ ⟨Nat.le_of_ble_eq_true rfl, Nat.le_of_ble_eq_true rfl⟩ ⟨Nat.zero_le _, Nat.zero_le _⟩ (w_recv C hw (wk_model G x z11) rfl) rfl rfl (Nat.le_of_ble_eq_true rfl) (lv_sub hl [] rfl) dX4_whisperTold_80 (fun H locs hw => ?_)
      replace h := Option.some.inj h
      subst h
      exact w_vret C hw rfl dX4_whisperTold_83
  have B17 : ∀ (b1 : Int32) (w1 : Int32) (m : St) (H : Heap) (locs : List Loc) (ls : Array Slot), lv_has ls 3 [(0, .ref (gq G 25)), (1, .int b1)] → Wd G s x m H locs → f4_whisperTold_b17 b1 w1 m = some r → W p l e (rmF 6 130) s mm args below meth c H locs 0 0 (QE below G none x r args s) (F0 mm 17 ls [.int w1, .ref (gq G 25)]) := by
    intro b1 w1 m H locs ls hl hw h
    unfold f4_whisperTold_b17 at h
    obtain ⟨z1, hq, h⟩ := p_bd h
    refine w_Vv C hw (As := [.int w1]) (rest := []) (c4_must l G x m w1 z1 hq) kv_X4_must ml_X4_292 ⟨rfl, rfl⟩ ⟨Nat.le_of_ble_eq_true rfl, Nat.le_of_ble_eq_true rfl⟩ ⟨Nat.zero_le _, Nat.zero_le _⟩ (w_recv C hw (wk_model G x m) rfl) rfl rfl (Nat.le_of_ble_eq_true rfl) (lv_sub hl [] rfl) dX4_whisperTold_17 (fun H locs hw => ?_)
    refine lv_aload_n hx hb dX4_whisperTold_20 rfl (lv_at hl 0 rfl) ?_
    refine w_get C hw (v := .int (z1 25 18)) (k := 18) (wk_model G x z1) rfl it_4 (by decide) fl_X4_272 rfl dX4_whisperTold_21 ?_
    refine lv_if_eq (tgt := 28) hx hb dX4_whisperTold_24 (by decide) (fun hc => ?_) (fun hc => ?_)
    · replace h := p_t hc h
      refine lv_aload_n hx hb dX4_whisperTold_28 rfl (lv_at hl 0 rfl) ?_
      refine lv_iload_n hx hb dX4_whisperTold_29 rfl (lv_at hl 1 rfl) ?_
      refine lv_iconst (v := (0 : Int32)) hx hb dX4_whisperTold_30 (by decide) ?_
      refine lv_iconst (v := (1 : Int32)) hx hb dX4_whisperTold_31 (by decide) ?_
      obtain ⟨⟨v3, z2⟩, hq, h⟩ := p_bd h
      dsimp only at h
      refine w_Vi C hw (As := [.int b1, .int (0 : Int32), .int (1 : Int32)]) (rest := []) (c4_adds l G x z1 b1 (0 : Int32) (1 : Int32) (v3, z2) hq) kv_X4_adds ml_X4_113 ⟨rfl, rfl⟩ ⟨Nat.le_of_ble_eq_true rfl, Nat.le_of_ble_eq_true rfl⟩ ⟨Nat.zero_le _, Nat.zero_le _⟩ (w_recv C hw (wk_model G x z1) rfl) rfl rfl (Nat.le_of_ble_eq_true rfl) (lv_sub hl [] rfl) dX4_whisperTold_32 (fun H locs hw => ?_)
      refine lv_istore_n (lv' := [(2, .int v3), (0, .ref (gq G 25)), (1, .int b1)]) hx hb dX4_whisperTold_35 rfl hl (by decide) rfl (fun ls hl => ?_)
      refine lv_aload_n hx hb dX4_whisperTold_36 rfl (lv_at hl 1 rfl) ?_
      refine w_ldcSw C (i := 7) (List.mem_of_getElem? (i := 24) rfl) dX4_whisperTold_37 ?_
      obtain ⟨⟨v5, z4⟩, hq, h⟩ := p_bd h
      dsimp only at h
      refine w_Vi C hw (As := [.ref (gK G 7)]) (rest := []) (c4_takes l G 7 (by decide) x z2 (v5, z4) hq) kv_X4_takes ml_X4_312 ⟨rfl, rfl⟩ ⟨Nat.le_of_ble_eq_true rfl, Nat.le_of_ble_eq_true rfl⟩ ⟨Nat.zero_le _, Nat.zero_le _⟩ (w_recv C hw (wk_model G x z2) rfl) rfl rfl (Nat.le_of_ble_eq_true rfl) (lv_sub hl [] rfl) dX4_whisperTold_40 (fun H locs hw => ?_)
      refine lv_if_eq (tgt := 59) hx hb dX4_whisperTold_43 (by decide) (fun hc => ?_) (fun hc => ?_)
      · replace h := p_t hc h
        exact B59 v3 z4 _ _ _ (lv_sub hl [1, 0] rfl) hw h
      · replace h := p_f hc h
        refine lv_aload_n hx hb dX4_whisperTold_46 rfl (lv_at hl 1 rfl) ?_
        refine lv_iload_n hx hb dX4_whisperTold_47 rfl (lv_at hl 0 rfl) ?_
        refine lv_iconst (v := (1 : Int32)) hx hb dX4_whisperTold_48 (by decide) ?_
        refine lv_aload_n hx hb dX4_whisperTold_49 rfl (lv_at hl 1 rfl) ?_
        refine lv_iconst (v := (0 : Int32)) hx hb dX4_whisperTold_50 (by decide) ?_
        refine lv_bipush (v := (15 : Int32)) hx hb dX4_whisperTold_51 (by decide) ?_
        obtain ⟨⟨v7, z6⟩, hq, h⟩ := p_bd h
        dsimp only at h
        refine w_Vi C hw (As := [.int (0 : Int32), .int (15 : Int32)]) (rest := [.int (1 : Int32), .int v3, .ref (gq G 25)]) (c4_numberRead l G x z4 (0 : Int32) (15 : Int32) (v7, z6) hq) kv_X4_numberRead ml_X4_315 ⟨rfl, rfl⟩ ⟨Nat.le_of_ble_eq_true rfl, Nat.le_of_ble_eq_true rfl⟩ ⟨Nat.zero_le _, Nat.zero_le _⟩ (w_recv C hw (wk_model G x z4) rfl) rfl rfl (Nat.le_of_ble_eq_true rfl) (lv_sub hl [] rfl) dX4_whisperTold_53 (fun H locs hw => ?_)
        obtain ⟨z8, hq, h⟩ := p_bd h
        refine w_Vv C hw (As := [.int v3, .int (1 : Int32), .int v7]) (rest := []) (c4_sets l G x z6 v3 (1 : Int32) v7 z8 hq) kv_X4_sets ml_X4_107 ⟨rfl, rfl⟩ ⟨Nat.le_of_ble_eq_true rfl, Nat.le_of_ble_eq_true rfl⟩ ⟨Nat.zero_le _, Nat.zero_le _⟩ (w_recv C hw (wk_model G x z6) rfl) rfl rfl (Nat.le_of_ble_eq_true rfl) (lv_sub hl [] rfl) dX4_whisperTold_56 (fun H locs hw => ?_)
        exact B59 v3 z8 _ _ _ (lv_sub hl [1, 0] rfl) hw h
    · replace h := p_f hc h
      replace h := Option.some.inj h
      subst h
      exact w_vret C hw rfl dX4_whisperTold_27
  unfold f4_whisperTold at h
  refine lv_aload_n hx hb dX4_whisperTold_0 rfl (lv_at hl 0 rfl) ?_
  refine lv_aload_n hx hb dX4_whisperTold_1 rfl (lv_at hl 0 rfl) ?_
  refine w_get C hw (v := .ref (gq G 26)) (k := 0) (wk_model G x m) rfl it_4 (by decide) fl_X4_9 rfl dX4_whisperTold_2 ?_
  refine lv_iconst (v := (1 : Int32)) hx hb dX4_whisperTold_5 (by decide) ?_
  obtain ⟨hq, h⟩ := p_if h
  refine w_ald C hw (am_26 G x m).1 hq dX4_whisperTold_6 ?_
  refine lv_bipush (v := (8 : Int32)) hx hb dX4_whisperTold_7 (by decide) ?_
  refine lv_icmp_ge (tgt := 16) hx hb dX4_whisperTold_9 (by decide) (fun hc => ?_) (fun hc => ?_)
  · replace h := p_t hc h
    refine lv_iconst (v := (0 : Int32)) hx hb dX4_whisperTold_16 (by decide) ?_
    exact B17 a1 (0 : Int32) m _ _ _ (lv_sub hl [0, 1] rfl) hw h
  · replace h := p_f hc h
    refine lv_iconst (v := (1 : Int32)) hx hb dX4_whisperTold_12 (by decide) ?_
    refine lv_goto (tgt := 17) hx hb dX4_whisperTold_13 (by decide) ?_
    exact B17 a1 (1 : Int32) m _ _ _ (lv_sub hl [0, 1] rfl) hw h

def f4_partTold (i2 : Nat) (a1 : Int32) (a3 : Int32) (m : St) : Option (St) :=
  (f4_takes i2 m).bind fun q => match q with
  | (v2, z1) =>
    if v2 = 0 then
      some z1
    else
      (f4_numberRead (0 : Int32) (f4_mostOf a3) z1).bind fun q => match q with
      | (v4, z3) =>
        if (z3 25 18) = 0 then
          (f4_builds a1 a3 v4 z3).bind fun z5 =>
          some z5
        else
          some z3
set_option maxHeartbeats 4000000 in
set_option maxRecDepth 100000 in
theorem c4_partTold (l : Launch) (G : GT) (i2 : Nat) (hi2 : i2 < 18) (x m : St) (a1 : Int32) (a3 : Int32) (r : St) (h : f4_partTold i2 a1 a3 m = some r) : Mt l yX4_partTold cX4_partTold 5 none (rmF 6 130) G x m [.ref (gq G 25), .int a1, .ref (gK G i2), .int a3] none x r := by
  refine Mt.of (by decide) (Nat.le_of_ble_eq_true rfl) ?_
  intro p e s mm args below meth c C ls hl hw
  have hx := C.1
  have hb := C.2.1
  have hown := C.2.2.2.2.1
  replace hl : lv_has ls 5 [(0, .ref (gq G 25)), (1, .int a1), (2, .ref (gK G i2)), (3, .int a3)] := hl
  unfold f4_partTold at h
  refine lv_aload_n hx hb dX4_partTold_0 rfl (lv_at hl 0 rfl) ?_
  refine lv_aload_n hx hb dX4_partTold_1 rfl (lv_at hl 2 rfl) ?_
  obtain ⟨⟨v2, z1⟩, hq, h⟩ := p_bd h
  dsimp only at h
  refine w_Vi C hw (As := [.ref (gK G i2)]) (rest := []) (c4_takes l G i2 hi2 x m (v2, z1) hq) kv_X4_takes ml_X4_312 ⟨rfl, rfl⟩ ⟨Nat.le_of_ble_eq_true rfl, Nat.le_of_ble_eq_true rfl⟩ ⟨Nat.zero_le _, Nat.zero_le _⟩ (w_recv C hw (wk_model G x m) rfl) rfl rfl (Nat.le_of_ble_eq_true rfl) (lv_sub hl [] rfl) dX4_partTold_2 (fun H locs hw => ?_)
  refine lv_if_eq (tgt := 34) hx hb dX4_partTold_5 (by decide) (fun hc => ?_) (fun hc => ?_)
  · replace h := p_t hc h
    replace h := Option.some.inj h
    subst h
    exact w_vret C hw rfl dX4_partTold_34
  · replace h := p_f hc h
    refine lv_aload_n hx hb dX4_partTold_8 rfl (lv_at hl 0 rfl) ?_
    refine lv_iconst (v := (0 : Int32)) hx hb dX4_partTold_9 (by decide) ?_
    refine lv_iload_n hx hb dX4_partTold_10 rfl (lv_at hl 3 rfl) ?_
    refine w_Si C hw (As := [.int a3]) (rest := [.int (0 : Int32), .ref (gq G 25)]) (c4_mostOf l G x z1 a3 _ rfl) ks_X4_mostOf ml_X4_96 ⟨rfl, rfl⟩ ⟨Nat.le_of_ble_eq_true rfl, Nat.le_of_ble_eq_true rfl⟩ ⟨Nat.zero_le _, Nat.zero_le _⟩ rfl rfl (Nat.le_of_ble_eq_true rfl) (lv_sub hl [] rfl) dX4_partTold_11 (fun H locs hw => ?_)
    obtain ⟨⟨v4, z3⟩, hq, h⟩ := p_bd h
    dsimp only at h
    refine w_Vi C hw (As := [.int (0 : Int32), .int (f4_mostOf a3)]) (rest := []) (c4_numberRead l G x z1 (0 : Int32) (f4_mostOf a3) (v4, z3) hq) kv_X4_numberRead ml_X4_315 ⟨rfl, rfl⟩ ⟨Nat.le_of_ble_eq_true rfl, Nat.le_of_ble_eq_true rfl⟩ ⟨Nat.zero_le _, Nat.zero_le _⟩ (w_recv C hw (wk_model G x z1) rfl) rfl rfl (Nat.le_of_ble_eq_true rfl) (lv_sub hl [] rfl) dX4_partTold_14 (fun H locs hw => ?_)
    refine lv_istore (lv' := [(4, .int v4), (0, .ref (gq G 25)), (1, .int a1), (2, .ref (gK G i2)), (3, .int a3)]) hx hb dX4_partTold_17 hl (by decide) rfl (fun ls hl => ?_)
    refine lv_aload_n hx hb dX4_partTold_19 rfl (lv_at hl 1 rfl) ?_
    refine w_get C hw (v := .int (z3 25 18)) (k := 18) (wk_model G x z3) rfl it_4 (by decide) fl_X4_272 rfl dX4_partTold_20 ?_
    refine lv_if_ne (tgt := 34) hx hb dX4_partTold_23 (by decide) (fun hc => ?_) (fun hc => ?_)
    · replace h := p_f hc h
      replace h := Option.some.inj h
      subst h
      exact w_vret C hw rfl dX4_partTold_34
    · replace h := p_t hc h
      refine lv_aload_n hx hb dX4_partTold_26 rfl (lv_at hl 1 rfl) ?_
      refine lv_iload_n hx hb dX4_partTold_27 rfl (lv_at hl 2 rfl) ?_
      refine lv_iload_n hx hb dX4_partTold_28 rfl (lv_at hl 4 rfl) ?_
      refine lv_iload hx hb dX4_partTold_29 (lv_at hl 0 rfl) ?_
      obtain ⟨z5, hq, h⟩ := p_bd h
      refine w_Vv C hw (As := [.int a1, .int a3, .int v4]) (rest := []) (c4_builds l G x z3 a1 a3 v4 z5 hq) kv_X4_builds ml_X4_40 ⟨rfl, rfl⟩ ⟨Nat.le_of_ble_eq_true rfl, Nat.le_of_ble_eq_true rfl⟩ ⟨Nat.zero_le _, Nat.zero_le _⟩ (w_recv C hw (wk_model G x z3) rfl) rfl rfl (Nat.le_of_ble_eq_true rfl) (lv_sub hl [] rfl) dX4_partTold_31 (fun H locs hw => ?_)
      replace h := Option.some.inj h
      subst h
      exact w_vret C hw rfl dX4_partTold_34

def f4_item   (m : St) : Option (St) :=
  (f4_kindHere m).bind fun v1 =>
  if v1 < 0 then
    (f4_takes 9 m).bind fun q => match q with
    | (v3, z2) =>
      if v3 = 0 then
        (f4_takes 14 z2).bind fun q => match q with
        | (v5, z4) =>
          if v5 = 0 then
            (f4_takes 15 z4).bind fun q => match q with
            | (v7, z6) =>
              if v7 = 0 then
                (f4_isWord 16 z6).bind fun v8 =>
                (f4_must v8 z6).bind fun z9 =>
                if (2 : Int32) < 0 ∨ 119 ≤ (2 : Int32).toNatClampNeg then none else
                some (up z9 26 (2 : Int32).toNatClampNeg (0 : Int32))
              else
                if (2 : Int32) < 0 ∨ 119 ≤ (2 : Int32).toNatClampNeg then none else
                some (up z6 26 (2 : Int32).toNatClampNeg (1 : Int32))
          else
            (f4_numberRead (0 : Int32) (65535 : Int32) z4).bind fun q => match q with
            | (v11, z10) =>
              if (3 : Int32) < 0 ∨ 119 ≤ (3 : Int32).toNatClampNeg then none else
              some (up z10 26 (3 : Int32).toNatClampNeg v11)
      else
        (f4_numberRead (0 : Int32) (15 : Int32) z2).bind fun q => match q with
        | (v13, z12) =>
          (f4_partTold 10 v13 (0 : Int32) z12).bind fun z14 =>
          (f4_partTold 11 v13 (1 : Int32) z14).bind fun z15 =>
          (f4_partTold 12 v13 (2 : Int32) z15).bind fun z16 =>
          (f4_partTold 13 v13 (4 : Int32) z16).bind fun z17 =>
          some z17
  else
    (f4_whisperTold v1 m).bind fun z18 =>
    some z18
set_option maxHeartbeats 4000000 in
set_option maxRecDepth 100000 in
theorem c4_item (l : Launch) (G : GT)  (x m : St)  (r : St) (h : f4_item m = some r) : Mt l yX4_item cX4_item 3 none (rmF 7 154) G x m [.ref (gq G 25)] none x r := by
  refine Mt.of (by decide) (Nat.le_of_ble_eq_true rfl) ?_
  intro p e s mm args below meth c C ls hl hw
  have hx := C.1
  have hb := C.2.1
  have hown := C.2.2.2.2.1
  replace hl : lv_has ls 3 [(0, .ref (gq G 25))] := hl
  unfold f4_item at h
  refine lv_aload_n hx hb dX4_item_0 rfl (lv_at hl 0 rfl) ?_
  obtain ⟨v1, hq, h⟩ := p_bd h
  refine w_Vi C hw (As := []) (rest := []) (c4_kindHere l G x m v1 hq) kv_X4_kindHere ml_X4_320 ⟨rfl, rfl⟩ ⟨Nat.le_of_ble_eq_true rfl, Nat.le_of_ble_eq_true rfl⟩ ⟨Nat.zero_le _, Nat.zero_le _⟩ (w_recv C hw (wk_model G x m) rfl) rfl rfl (Nat.le_of_ble_eq_true rfl) (lv_sub hl [] rfl) dX4_item_1 (fun H locs hw => ?_)
  refine lv_istore_n (lv' := [(1, .int v1), (0, .ref (gq G 25))]) hx hb dX4_item_4 rfl hl (by decide) rfl (fun ls hl => ?_)
  refine lv_iload_n hx hb dX4_item_5 rfl (lv_at hl 0 rfl) ?_
  refine lv_if_lt (tgt := 17) hx hb dX4_item_6 (by decide) (fun hc => ?_) (fun hc => ?_)
  · replace h := p_t hc h
    refine lv_aload_n hx hb dX4_item_17 rfl (lv_at hl 1 rfl) ?_
    refine w_ldcSw C (i := 9) (List.mem_of_getElem? (i := 26) rfl) dX4_item_18 ?_
    obtain ⟨⟨v3, z2⟩, hq, h⟩ := p_bd h
    dsimp only at h
    refine w_Vi C hw (As := [.ref (gK G 9)]) (rest := []) (c4_takes l G 9 (by decide) x m (v3, z2) hq) kv_X4_takes ml_X4_312 ⟨rfl, rfl⟩ ⟨Nat.le_of_ble_eq_true rfl, Nat.le_of_ble_eq_true rfl⟩ ⟨Nat.zero_le _, Nat.zero_le _⟩ (w_recv C hw (wk_model G x m) rfl) rfl rfl (Nat.le_of_ble_eq_true rfl) (lv_sub hl [] rfl) dX4_item_21 (fun H locs hw => ?_)
    refine lv_if_eq (tgt := 74) hx hb dX4_item_24 (by decide) (fun hc => ?_) (fun hc => ?_)
    · replace h := p_t hc h
      refine lv_aload_n hx hb dX4_item_74 rfl (lv_at hl 1 rfl) ?_
      refine w_ldcSw C (i := 14) (List.mem_of_getElem? (i := 31) rfl) dX4_item_75 ?_
      obtain ⟨⟨v5, z4⟩, hq, h⟩ := p_bd h
      dsimp only at h
      refine w_Vi C hw (As := [.ref (gK G 14)]) (rest := []) (c4_takes l G 14 (by decide) x z2 (v5, z4) hq) kv_X4_takes ml_X4_312 ⟨rfl, rfl⟩ ⟨Nat.le_of_ble_eq_true rfl, Nat.le_of_ble_eq_true rfl⟩ ⟨Nat.zero_le _, Nat.zero_le _⟩ (w_recv C hw (wk_model G x z2) rfl) rfl rfl (Nat.le_of_ble_eq_true rfl) (lv_sub hl [] rfl) dX4_item_78 (fun H locs hw => ?_)
      refine lv_if_eq (tgt := 101) hx hb dX4_item_81 (by decide) (fun hc => ?_) (fun hc => ?_)
      · replace h := p_t hc h
        refine lv_aload_n hx hb dX4_item_101 rfl (lv_at hl 1 rfl) ?_
        refine w_ldcSw C (i := 15) (List.mem_of_getElem? (i := 32) rfl) dX4_item_102 ?_
        obtain ⟨⟨v7, z6⟩, hq, h⟩ := p_bd h
        dsimp only at h
        refine w_Vi C hw (As := [.ref (gK G 15)]) (rest := []) (c4_takes l G 15 (by decide) x z4 (v7, z6) hq) kv_X4_takes ml_X4_312 ⟨rfl, rfl⟩ ⟨Nat.le_of_ble_eq_true rfl, Nat.le_of_ble_eq_true rfl⟩ ⟨Nat.zero_le _, Nat.zero_le _⟩ (w_recv C hw (wk_model G x z4) rfl) rfl rfl (Nat.le_of_ble_eq_true rfl) (lv_sub hl [] rfl) dX4_item_105 (fun H locs hw => ?_)
        refine lv_if_eq (tgt := 121) hx hb dX4_item_108 (by decide) (fun hc => ?_) (fun hc => ?_)
        · replace h := p_t hc h
          refine lv_aload_n hx hb dX4_item_121 rfl (lv_at hl 1 rfl) ?_
          refine lv_aload_n hx hb dX4_item_122 rfl (lv_at hl 1 rfl) ?_
          refine w_ldcSw C (i := 16) (List.mem_of_getElem? (i := 33) rfl) dX4_item_123 ?_
          obtain ⟨v8, hq, h⟩ := p_bd h
          refine w_Vi C hw (As := [.ref (gK G 16)]) (rest := [.ref (gq G 25)]) (c4_isWord l G 16 (by decide) x z6 v8 hq) kv_X4_isWord ml_X4_288 ⟨rfl, rfl⟩ ⟨Nat.le_of_ble_eq_true rfl, Nat.le_of_ble_eq_true rfl⟩ ⟨Nat.zero_le _, Nat.zero_le _⟩ (w_recv C hw (wk_model G x z6) rfl) rfl rfl (Nat.le_of_ble_eq_true rfl) (lv_sub hl [] rfl) dX4_item_126 (fun H locs hw => ?_)
          obtain ⟨z9, hq, h⟩ := p_bd h
          refine w_Vv C hw (As := [.int v8]) (rest := []) (c4_must l G x z6 v8 z9 hq) kv_X4_must ml_X4_292 ⟨rfl, rfl⟩ ⟨Nat.le_of_ble_eq_true rfl, Nat.le_of_ble_eq_true rfl⟩ ⟨Nat.zero_le _, Nat.zero_le _⟩ (w_recv C hw (wk_model G x z6) rfl) rfl rfl (Nat.le_of_ble_eq_true rfl) (lv_sub hl [] rfl) dX4_item_129 (fun H locs hw => ?_)
          refine lv_aload_n hx hb dX4_item_132 rfl (lv_at hl 1 rfl) ?_
          refine w_get C hw (v := .ref (gq G 26)) (k := 0) (wk_model G x z9) rfl it_4 (by decide) fl_X4_9 rfl dX4_item_133 ?_
          refine lv_iconst (v := (2 : Int32)) hx hb dX4_item_136 (by decide) ?_
          refine lv_iconst (v := (0 : Int32)) hx hb dX4_item_137 (by decide) ?_
          obtain ⟨hq, h⟩ := p_if h
          refine w_astM C hw am_26 hq dX4_item_138 (fun H locs hw => ?_)
          replace h := Option.some.inj h
          subst h
          exact w_vret C hw rfl dX4_item_139
        · replace h := p_f hc h
          refine lv_aload_n hx hb dX4_item_111 rfl (lv_at hl 1 rfl) ?_
          refine w_get C hw (v := .ref (gq G 26)) (k := 0) (wk_model G x z6) rfl it_4 (by decide) fl_X4_9 rfl dX4_item_112 ?_
          refine lv_iconst (v := (2 : Int32)) hx hb dX4_item_115 (by decide) ?_
          refine lv_iconst (v := (1 : Int32)) hx hb dX4_item_116 (by decide) ?_
          obtain ⟨hq, h⟩ := p_if h
          refine w_astM C hw am_26 hq dX4_item_117 (fun H locs hw => ?_)
          refine lv_goto (tgt := 139) hx hb dX4_item_118 (by decide) ?_
          replace h := Option.some.inj h
          subst h
          exact w_vret C hw rfl dX4_item_139
      · replace h := p_f hc h
        refine lv_aload_n hx hb dX4_item_84 rfl (lv_at hl 1 rfl) ?_
        refine w_get C hw (v := .ref (gq G 26)) (k := 0) (wk_model G x z4) rfl it_4 (by decide) fl_X4_9 rfl dX4_item_85 ?_
        refine lv_iconst (v := (3 : Int32)) hx hb dX4_item_88 (by decide) ?_
        refine lv_aload_n hx hb dX4_item_89 rfl (lv_at hl 1 rfl) ?_
        refine lv_iconst (v := (0 : Int32)) hx hb dX4_item_90 (by decide) ?_
        refine lv_ldcw hx hb hown (C.w kc_X4_342) dX4_item_91 ?_
        obtain ⟨⟨v11, z10⟩, hq, h⟩ := p_bd h
        dsimp only at h
        refine w_Vi C hw (As := [.int (0 : Int32), .int (65535 : Int32)]) (rest := [.int (3 : Int32), .ref (gq G 26)]) (c4_numberRead l G x z4 (0 : Int32) (65535 : Int32) (v11, z10) hq) kv_X4_numberRead ml_X4_315 ⟨rfl, rfl⟩ ⟨Nat.le_of_ble_eq_true rfl, Nat.le_of_ble_eq_true rfl⟩ ⟨Nat.zero_le _, Nat.zero_le _⟩ (w_recv C hw (wk_model G x z4) rfl) rfl rfl (Nat.le_of_ble_eq_true rfl) (lv_sub hl [] rfl) dX4_item_94 (fun H locs hw => ?_)
        obtain ⟨hq, h⟩ := p_if h
        refine w_astM C hw am_26 hq dX4_item_97 (fun H locs hw => ?_)
        refine lv_goto (tgt := 139) hx hb dX4_item_98 (by decide) ?_
        replace h := Option.some.inj h
        subst h
        exact w_vret C hw rfl dX4_item_139
    · replace h := p_f hc h
      refine lv_aload_n hx hb dX4_item_27 rfl (lv_at hl 1 rfl) ?_
      refine lv_iconst (v := (0 : Int32)) hx hb dX4_item_28 (by decide) ?_
      refine lv_bipush (v := (15 : Int32)) hx hb dX4_item_29 (by decide) ?_
      obtain ⟨⟨v13, z12⟩, hq, h⟩ := p_bd h
      dsimp only at h
      refine w_Vi C hw (As := [.int (0 : Int32), .int (15 : Int32)]) (rest := []) (c4_numberRead l G x z2 (0 : Int32) (15 : Int32) (v13, z12) hq) kv_X4_numberRead ml_X4_315 ⟨rfl, rfl⟩ ⟨Nat.le_of_ble_eq_true rfl, Nat.le_of_ble_eq_true rfl⟩ ⟨Nat.zero_le _, Nat.zero_le _⟩ (w_recv C hw (wk_model G x z2) rfl) rfl rfl (Nat.le_of_ble_eq_true rfl) (lv_sub hl [] rfl) dX4_item_31 (fun H locs hw => ?_)
      refine lv_istore_n (lv' := [(2, .int v13), (1, .int v1), (0, .ref (gq G 25))]) hx hb dX4_item_34 rfl hl (by decide) rfl (fun ls hl => ?_)
      refine lv_aload_n hx hb dX4_item_35 rfl (lv_at hl 2 rfl) ?_
      refine lv_iload_n hx hb dX4_item_36 rfl (lv_at hl 0 rfl) ?_
      refine w_ldcSw C (i := 10) (List.mem_of_getElem? (i := 27) rfl) dX4_item_37 ?_
      refine lv_iconst (v := (0 : Int32)) hx hb dX4_item_40 (by decide) ?_
      obtain ⟨z14, hq, h⟩ := p_bd h
      refine w_Vv C hw (As := [.int v13, .ref (gK G 10), .int (0 : Int32)]) (rest := []) (c4_partTold l G 10 (by decide) x z12 v13 (0 : Int32) z14 hq) kv_X4_partTold ml_X4_330 ⟨rfl, rfl⟩ ⟨Nat.le_of_ble_eq_true rfl, Nat.le_of_ble_eq_true rfl⟩ ⟨Nat.zero_le _, Nat.zero_le _⟩ (w_recv C hw (wk_model G x z12) rfl) rfl rfl (Nat.le_of_ble_eq_true rfl) (lv_sub hl [] rfl) dX4_item_41 (fun H locs hw => ?_)
      refine lv_aload_n hx hb dX4_item_44 rfl (lv_at hl 2 rfl) ?_
      refine lv_iload_n hx hb dX4_item_45 rfl (lv_at hl 0 rfl) ?_
      refine w_ldcSw C (i := 11) (List.mem_of_getElem? (i := 28) rfl) dX4_item_46 ?_
      refine lv_iconst (v := (1 : Int32)) hx hb dX4_item_49 (by decide) ?_
      obtain ⟨z15, hq, h⟩ := p_bd h
      refine w_Vv C hw (As := [.int v13, .ref (gK G 11), .int (1 : Int32)]) (rest := []) (c4_partTold l G 11 (by decide) x z14 v13 (1 : Int32) z15 hq) kv_X4_partTold ml_X4_330 ⟨rfl, rfl⟩ ⟨Nat.le_of_ble_eq_true rfl, Nat.le_of_ble_eq_true rfl⟩ ⟨Nat.zero_le _, Nat.zero_le _⟩ (w_recv C hw (wk_model G x z14) rfl) rfl rfl (Nat.le_of_ble_eq_true rfl) (lv_sub hl [] rfl) dX4_item_50 (fun H locs hw => ?_)
      refine lv_aload_n hx hb dX4_item_53 rfl (lv_at hl 2 rfl) ?_
      refine lv_iload_n hx hb dX4_item_54 rfl (lv_at hl 0 rfl) ?_
      refine w_ldcSw C (i := 12) (List.mem_of_getElem? (i := 29) rfl) dX4_item_55 ?_
      refine lv_iconst (v := (2 : Int32)) hx hb dX4_item_58 (by decide) ?_
      obtain ⟨z16, hq, h⟩ := p_bd h
      refine w_Vv C hw (As := [.int v13, .ref (gK G 12), .int (2 : Int32)]) (rest := []) (c4_partTold l G 12 (by decide) x z15 v13 (2 : Int32) z16 hq) kv_X4_partTold ml_X4_330 ⟨rfl, rfl⟩ ⟨Nat.le_of_ble_eq_true rfl, Nat.le_of_ble_eq_true rfl⟩ ⟨Nat.zero_le _, Nat.zero_le _⟩ (w_recv C hw (wk_model G x z15) rfl) rfl rfl (Nat.le_of_ble_eq_true rfl) (lv_sub hl [] rfl) dX4_item_59 (fun H locs hw => ?_)
      refine lv_aload_n hx hb dX4_item_62 rfl (lv_at hl 2 rfl) ?_
      refine lv_iload_n hx hb dX4_item_63 rfl (lv_at hl 0 rfl) ?_
      refine w_ldcSw C (i := 13) (List.mem_of_getElem? (i := 30) rfl) dX4_item_64 ?_
      refine lv_iconst (v := (4 : Int32)) hx hb dX4_item_67 (by decide) ?_
      obtain ⟨z17, hq, h⟩ := p_bd h
      refine w_Vv C hw (As := [.int v13, .ref (gK G 13), .int (4 : Int32)]) (rest := []) (c4_partTold l G 13 (by decide) x z16 v13 (4 : Int32) z17 hq) kv_X4_partTold ml_X4_330 ⟨rfl, rfl⟩ ⟨Nat.le_of_ble_eq_true rfl, Nat.le_of_ble_eq_true rfl⟩ ⟨Nat.zero_le _, Nat.zero_le _⟩ (w_recv C hw (wk_model G x z16) rfl) rfl rfl (Nat.le_of_ble_eq_true rfl) (lv_sub hl [] rfl) dX4_item_68 (fun H locs hw => ?_)
      refine lv_goto (tgt := 139) hx hb dX4_item_71 (by decide) ?_
      replace h := Option.some.inj h
      subst h
      exact w_vret C hw rfl dX4_item_139
  · replace h := p_f hc h
    refine lv_aload_n hx hb dX4_item_9 rfl (lv_at hl 1 rfl) ?_
    refine lv_iload_n hx hb dX4_item_10 rfl (lv_at hl 0 rfl) ?_
    obtain ⟨z18, hq, h⟩ := p_bd h
    refine w_Vv C hw (As := [.int v1]) (rest := []) (c4_whisperTold l G x m v1 z18 hq) kv_X4_whisperTold ml_X4_323 ⟨rfl, rfl⟩ ⟨Nat.le_of_ble_eq_true rfl, Nat.le_of_ble_eq_true rfl⟩ ⟨Nat.zero_le _, Nat.zero_le _⟩ (w_recv C hw (wk_model G x m) rfl) rfl rfl (Nat.le_of_ble_eq_true rfl) (lv_sub hl [] rfl) dX4_item_11 (fun H locs hw => ?_)
    refine lv_goto (tgt := 139) hx hb dX4_item_14 (by decide) ?_
    replace h := Option.some.inj h
    subst h
    exact w_vret C hw rfl dX4_item_139

def f4_text_b63   (b1 : Int32) (m : St) : Option (Int32 × St) :=
  if ((up m 25 15 (0 : Int32)) 25 18) = 0 then
    some (b1, (up m 25 15 (0 : Int32)))
  else
    (f4_laysBack (up m 25 15 (0 : Int32))).bind fun z7 =>
    some (((-1 : Int32) - (z7 25 16)), z7)
def f4_text_L24   : Nat → Int32 → St → Option (Int32 × St)
  | 0, _, _ => none
  | n + 1, b1, m =>
    if (m 25 18) = 0 then
      if (m 25 15) ≤ (m 25 16) then
        f4_text_b63 b1 m
      else
        (f4_isWord 17 m).bind fun v4 =>
        (f4_must v4 m).bind fun z5 =>
        (f4_item z5).bind fun z6 =>
        (f4_text_L24 n) (b1 + (1 : Int32)) z6
    else
      f4_text_b63 b1 m
theorem f4_text_L24_0   (b1 : Int32) (m : St) : f4_text_L24  0 b1 m = none := rfl
theorem f4_text_L24_s   (n : Nat) (b1 : Int32) (m : St) : f4_text_L24  (n + 1) b1 m =
    if (m 25 18) = 0 then
      if (m 25 15) ≤ (m 25 16) then
        f4_text_b63 b1 m
      else
        (f4_isWord 17 m).bind fun v4 =>
        (f4_must v4 m).bind fun z5 =>
        (f4_item z5).bind fun z6 =>
        (f4_text_L24 n) (b1 + (1 : Int32)) z6
    else
      f4_text_b63 b1 m := rfl
def f4_text   (m : St) : Option (Int32 × St) :=
  (f4_lends m).bind fun z1 =>
  (f4_next (up (up z1 25 18 (0 : Int32)) 25 17 (0 : Int32))).bind fun z2 =>
  (f4_item z2).bind fun z3 =>
  f4_text_L24 fu (1 : Int32) z3
set_option maxHeartbeats 4000000 in
set_option maxRecDepth 100000 in
theorem c4_text (l : Launch) (G : GT)  (x m : St)  (r : Int32 × St) (h : f4_text m = some r) : Mt l yX4_text cX4_text 2 (some .int) (rmF 8 176) G x m [.ref (gq G 25)] (some (.int r.1)) x r.2 := by
  refine Mt.of (by decide) (Nat.le_of_ble_eq_true rfl) ?_
  intro p e s mm args below meth c C ls hl hw
  have hx := C.1
  have hb := C.2.1
  have hown := C.2.2.2.2.1
  replace hl : lv_has ls 2 [(0, .ref (gq G 25))] := hl
  have B63 : ∀ (b1 : Int32) (m : St) (H : Heap) (locs : List Loc) (ls : Array Slot), lv_has ls 2 [(0, .ref (gq G 25)), (1, .int b1)] → Wd G s x m H locs → f4_text_b63 b1 m = some r → W p l e (rmF 8 176) s mm args below meth c H locs 0 0 (QE below G (some (.int r.1)) x r.2 args s) (F0 mm 63 ls []) := by
    intro b1 m H locs ls hl hw h
    unfold f4_text_b63 at h
    refine lv_aload_n hx hb dX4_text_63 rfl (lv_at hl 0 rfl) ?_
    refine lv_iconst (v := (0 : Int32)) hx hb dX4_text_64 (by decide) ?_
    refine w_put C hw (k := 15) tyX4 tyX4_ok nmX4 (wk_model G x m) rfl it_4 (by decide) fl_X4_260 rfl (ty := .int) rfl rfl rfl (Nat.le_of_ble_eq_true rfl) (ws_model_15 G x m _) dX4_text_65 (fun H locs hw => ?_)
    refine lv_aload_n hx hb dX4_text_68 rfl (lv_at hl 0 rfl) ?_
    refine w_get C hw (v := .int ((up m 25 15 (0 : Int32)) 25 18)) (k := 18) (wk_model G x (up m 25 15 (0 : Int32))) rfl it_4 (by decide) fl_X4_272 rfl dX4_text_69 ?_
    refine lv_if_eq (tgt := 86) hx hb dX4_text_72 (by decide) (fun hc => ?_) (fun hc => ?_)
    · replace h := p_t hc h
      refine lv_iload_n hx hb dX4_text_86 rfl (lv_at hl 1 rfl) ?_
      replace h := Option.some.inj h
      subst h
      exact w_iret C hw (v := b1) rfl rfl dX4_text_87
    · replace h := p_f hc h
      refine lv_aload_n hx hb dX4_text_75 rfl (lv_at hl 0 rfl) ?_
      obtain ⟨z7, hq, h⟩ := p_bd h
      refine w_Vv C hw (As := []) (rest := []) (c4_laysBack l G x (up m 25 15 (0 : Int32)) z7 hq) kv_X4_laysBack ml_X4_171 ⟨rfl, rfl⟩ ⟨Nat.le_of_ble_eq_true rfl, Nat.le_of_ble_eq_true rfl⟩ ⟨Nat.zero_le _, Nat.zero_le _⟩ (w_recv C hw (wk_model G x (up m 25 15 (0 : Int32))) rfl) rfl rfl (Nat.le_of_ble_eq_true rfl) (lv_sub hl [] rfl) dX4_text_76 (fun H locs hw => ?_)
      refine lv_iconst (v := (-1 : Int32)) hx hb dX4_text_79 (by decide) ?_
      refine lv_aload_n hx hb dX4_text_80 rfl (lv_at hl 0 rfl) ?_
      refine w_get C hw (v := .int (z7 25 16)) (k := 16) (wk_model G x z7) rfl it_4 (by decide) fl_X4_266 rfl dX4_text_81 ?_
      refine lv_isub hx hb dX4_text_84 ?_
      replace h := Option.some.inj h
      subst h
      exact w_iret C hw (v := ((-1 : Int32) - (z7 25 16))) rfl rfl dX4_text_85
  have L24 : ∀ (n24 : Nat) (b1 : Int32) (m : St) (H : Heap) (locs : List Loc) (ls : Array Slot), lv_has ls 2 [(0, .ref (gq G 25)), (1, .int b1)] → Wd G s x m H locs → f4_text_L24 n24 b1 m = some r → W p l e (rmF 8 176) s mm args below meth c H locs 0 0 (QE below G (some (.int r.1)) x r.2 args s) (F0 mm 24 ls []) := by
    intro n24
    induction n24 with
    | zero =>
      intro b1 m H locs ls hl hw h
      rw [f4_text_L24_0] at h
      exact absurd h.symm (Option.some_ne_none _)
    | succ n24 ih24 =>
      intro b1 m H locs ls hl hw h
      rw [f4_text_L24_s] at h
      refine lv_aload_n hx hb dX4_text_24 rfl (lv_at hl 0 rfl) ?_
      refine w_get C hw (v := .int (m 25 18)) (k := 18) (wk_model G x m) rfl it_4 (by decide) fl_X4_272 rfl dX4_text_25 ?_
      refine lv_if_ne (tgt := 63) hx hb dX4_text_28 (by decide) (fun hc => ?_) (fun hc => ?_)
      · replace h := p_f hc h
        exact B63 b1 m _ _ _ (lv_sub hl [0, 1] rfl) hw h
      · replace h := p_t hc h
        refine lv_aload_n hx hb dX4_text_31 rfl (lv_at hl 0 rfl) ?_
        refine w_get C hw (v := .int (m 25 16)) (k := 16) (wk_model G x m) rfl it_4 (by decide) fl_X4_266 rfl dX4_text_32 ?_
        refine lv_aload_n hx hb dX4_text_35 rfl (lv_at hl 0 rfl) ?_
        refine w_get C hw (v := .int (m 25 15)) (k := 15) (wk_model G x m) rfl it_4 (by decide) fl_X4_260 rfl dX4_text_36 ?_
        refine lv_icmp_ge (tgt := 63) hx hb dX4_text_39 (by decide) (fun hc => ?_) (fun hc => ?_)
        · replace h := p_t hc h
          exact B63 b1 m _ _ _ (lv_sub hl [0, 1] rfl) hw h
        · replace h := p_f hc h
          refine lv_aload_n hx hb dX4_text_42 rfl (lv_at hl 0 rfl) ?_
          refine lv_aload_n hx hb dX4_text_43 rfl (lv_at hl 0 rfl) ?_
          refine w_ldcSw C (i := 17) (List.mem_of_getElem? (i := 34) rfl) dX4_text_44 ?_
          obtain ⟨v4, hq, h⟩ := p_bd h
          refine w_Vi C hw (As := [.ref (gK G 17)]) (rest := [.ref (gq G 25)]) (c4_isWord l G 17 (by decide) x m v4 hq) kv_X4_isWord ml_X4_288 ⟨rfl, rfl⟩ ⟨Nat.le_of_ble_eq_true rfl, Nat.le_of_ble_eq_true rfl⟩ ⟨Nat.zero_le _, Nat.zero_le _⟩ (w_recv C hw (wk_model G x m) rfl) rfl rfl (Nat.le_of_ble_eq_true rfl) (lv_sub hl [] rfl) dX4_text_47 (fun H locs hw => ?_)
          obtain ⟨z5, hq, h⟩ := p_bd h
          refine w_Vv C hw (As := [.int v4]) (rest := []) (c4_must l G x m v4 z5 hq) kv_X4_must ml_X4_292 ⟨rfl, rfl⟩ ⟨Nat.le_of_ble_eq_true rfl, Nat.le_of_ble_eq_true rfl⟩ ⟨Nat.zero_le _, Nat.zero_le _⟩ (w_recv C hw (wk_model G x m) rfl) rfl rfl (Nat.le_of_ble_eq_true rfl) (lv_sub hl [] rfl) dX4_text_50 (fun H locs hw => ?_)
          refine lv_aload_n hx hb dX4_text_53 rfl (lv_at hl 0 rfl) ?_
          obtain ⟨z6, hq, h⟩ := p_bd h
          refine w_Vv C hw (As := []) (rest := []) (c4_item l G x z5 z6 hq) kv_X4_item ml_X4_347 ⟨rfl, rfl⟩ ⟨Nat.le_of_ble_eq_true rfl, Nat.le_of_ble_eq_true rfl⟩ ⟨Nat.zero_le _, Nat.zero_le _⟩ (w_recv C hw (wk_model G x z5) rfl) rfl rfl (Nat.le_of_ble_eq_true rfl) (lv_sub hl [] rfl) dX4_text_54 (fun H locs hw => ?_)
          refine lv_iinc (v := (b1 + (1 : Int32))) (lv' := [(1, .int (b1 + (1 : Int32))), (0, .ref (gq G 25))]) hx hb dX4_text_57 hl (k := 1) rfl rfl (by decide) rfl (fun ls hl => ?_)
          refine lv_goto (tgt := 24) hx hb dX4_text_60 (by decide) ?_
          exact ih24 (b1 + (1 : Int32)) z6 _ _ _ (lv_sub hl [1, 0] rfl) hw h
  unfold f4_text at h
  refine lv_aload_n hx hb dX4_text_0 rfl (lv_at hl 0 rfl) ?_
  obtain ⟨z1, hq, h⟩ := p_bd h
  refine w_Vv C hw (As := []) (rest := []) (c4_lends l G x m z1 hq) kv_X4_lends ml_X4_168 ⟨rfl, rfl⟩ ⟨Nat.le_of_ble_eq_true rfl, Nat.le_of_ble_eq_true rfl⟩ ⟨Nat.zero_le _, Nat.zero_le _⟩ (w_recv C hw (wk_model G x m) rfl) rfl rfl (Nat.le_of_ble_eq_true rfl) (lv_sub hl [] rfl) dX4_text_1 (fun H locs hw => ?_)
  refine lv_aload_n hx hb dX4_text_4 rfl (lv_at hl 0 rfl) ?_
  refine lv_iconst (v := (0 : Int32)) hx hb dX4_text_5 (by decide) ?_
  refine w_put C hw (k := 18) tyX4 tyX4_ok nmX4 (wk_model G x z1) rfl it_4 (by decide) fl_X4_272 rfl (ty := .boolean) rfl rfl rfl (Nat.le_of_ble_eq_true rfl) (ws_model_18 G x z1 _) dX4_text_6 (fun H locs hw => ?_)
  refine lv_aload_n hx hb dX4_text_9 rfl (lv_at hl 0 rfl) ?_
  refine lv_iconst (v := (0 : Int32)) hx hb dX4_text_10 (by decide) ?_
  refine w_put C hw (k := 17) tyX4 tyX4_ok nmX4 (wk_model G x (up z1 25 18 (0 : Int32))) rfl it_4 (by decide) fl_X4_263 rfl (ty := .int) rfl rfl rfl (Nat.le_of_ble_eq_true rfl) (ws_model_17 G x (up z1 25 18 (0 : Int32)) _) dX4_text_11 (fun H locs hw => ?_)
  refine lv_aload_n hx hb dX4_text_14 rfl (lv_at hl 0 rfl) ?_
  obtain ⟨z2, hq, h⟩ := p_bd h
  refine w_Vv C hw (As := []) (rest := []) (c4_next l G x (up (up z1 25 18 (0 : Int32)) 25 17 (0 : Int32)) z2 hq) kv_X4_next ml_X4_285 ⟨rfl, rfl⟩ ⟨Nat.le_of_ble_eq_true rfl, Nat.le_of_ble_eq_true rfl⟩ ⟨Nat.zero_le _, Nat.zero_le _⟩ (w_recv C hw (wk_model G x (up (up z1 25 18 (0 : Int32)) 25 17 (0 : Int32))) rfl) rfl rfl (Nat.le_of_ble_eq_true rfl) (lv_sub hl [] rfl) dX4_text_15 (fun H locs hw => ?_)
  refine lv_aload_n hx hb dX4_text_18 rfl (lv_at hl 0 rfl) ?_
  obtain ⟨z3, hq, h⟩ := p_bd h
  refine w_Vv C hw (As := []) (rest := []) (c4_item l G x z2 z3 hq) kv_X4_item ml_X4_347 ⟨rfl, rfl⟩ ⟨Nat.le_of_ble_eq_true rfl, Nat.le_of_ble_eq_true rfl⟩ ⟨Nat.zero_le _, Nat.zero_le _⟩ (w_recv C hw (wk_model G x z2) rfl) rfl rfl (Nat.le_of_ble_eq_true rfl) (lv_sub hl [] rfl) dX4_text_19 (fun H locs hw => ?_)
  refine lv_iconst (v := (1 : Int32)) hx hb dX4_text_22 (by decide) ?_
  refine lv_istore_n (lv' := [(1, .int (1 : Int32)), (0, .ref (gq G 25))]) hx hb dX4_text_23 rfl hl (by decide) rfl (fun ls hl => ?_)
  exact L24 fu (1 : Int32) z3 _ _ _ (lv_sub hl [1, 0] rfl) hw h

def f4_isSpot  (a1 : Int32) : Int32 :=
  (f4_in (a1.toInt64) (0 : Int64) (9 : Int64))
theorem bz_X4_isSpot  (a1 : Int32) : f4_isSpot a1 = 0 ∨ f4_isSpot a1 = 1 := by
  unfold f4_isSpot
  repeat' split
  all_goals first | exact Or.inl rfl | exact Or.inr rfl | exact bz_X4_in _ _ _ 
set_option maxHeartbeats 4000000 in
set_option maxRecDepth 100000 in
theorem c4_isSpot (l : Launch) (G : GT)  (x m : St) (a1 : Int32) (r : Int32) (h : f4_isSpot a1 = r) : Mt l yX4_isSpot cX4_isSpot 1 (some .boolean) (rmF 1 25) G x m [.int a1] (some (.int r)) x m := by
  refine Mt.of (by decide) (Nat.le_of_ble_eq_true rfl) ?_
  intro p e s mm args below meth c C ls hl hw
  have hx := C.1
  have hb := C.2.1
  have hown := C.2.2.2.2.1
  replace hl : lv_has ls 1 [(0, .int a1)] := hl
  unfold f4_isSpot at h
  refine lv_iload_n hx hb dX4_isSpot_0 rfl (lv_at hl 0 rfl) ?_
  refine lv_i2l hx hb dX4_isSpot_1 rfl ?_
  refine lv_lconst (v := (0 : Int64)) hx hb dX4_isSpot_2 (by decide) ?_
  refine lv_ldc2 hx hb hown (C.w kl_X4_352) dX4_isSpot_3 ?_
  refine w_Si C hw (As := [.long (a1.toInt64), .long (0 : Int64), .long (9 : Int64)]) (rest := []) (c4_in l G x m (a1.toInt64) (0 : Int64) (9 : Int64) _ rfl) ks_X4_in ml_X4_57 ⟨rfl, rfl⟩ ⟨Nat.le_of_ble_eq_true rfl, Nat.le_of_ble_eq_true rfl⟩ ⟨Nat.zero_le _, Nat.zero_le _⟩ rfl rfl (Nat.le_of_ble_eq_true rfl) (lv_sub hl [] rfl) dX4_isSpot_6 (fun H locs hw => ?_)
  subst h
  exact w_iret C hw (v := (f4_in (a1.toInt64) (0 : Int64) (9 : Int64))) rfl (nz_b (bz_X4_in (a1.toInt64) (0 : Int64) (9 : Int64))) dX4_isSpot_9

def f4_hold_b26   (b1 : Int32) (b2 : Int32) (m : St) : Option (Int32 × St) :=
  if ((109 : Int32) + b1) < 0 ∨ 119 ≤ ((109 : Int32) + b1).toNatClampNeg then none else
  some ((1 : Int32), (up m 26 ((109 : Int32) + b1).toNatClampNeg b2))
def f4_hold_b20    (m : St) : Option (Int32 × St) :=
  (f4_finds (0 : Int32) m).bind fun q => match q with
  | (v3, z2) =>
    some (v3, z2)
def f4_hold  (a1 : Int32) (a2 : Int32) (m : St) : Option (Int32 × St) :=
  if (f4_isSpot a1) = 0 then
    f4_hold_b20 m
  else
    if a2 = (-1 : Int32) then
      f4_hold_b26 a1 a2 m
    else
      (f4_isWhisper a2 m).bind fun v1 =>
      if v1 = 0 then
        f4_hold_b20 m
      else
        f4_hold_b26 a1 a2 m
set_option maxHeartbeats 4000000 in
set_option maxRecDepth 100000 in
theorem c4_hold (l : Launch) (G : GT)  (x m : St) (a1 : Int32) (a2 : Int32) (r : Int32 × St) (h : f4_hold a1 a2 m = some r) : Mt l yX4_hold cX4_hold 3 (some .int) (rmF 2 46) G x m [.ref (gq G 25), .int a1, .int a2] (some (.int r.1)) x r.2 := by
  refine Mt.of (by decide) (Nat.le_of_ble_eq_true rfl) ?_
  intro p e s mm args below meth c C ls hl hw
  have hx := C.1
  have hb := C.2.1
  have hown := C.2.2.2.2.1
  replace hl : lv_has ls 3 [(0, .ref (gq G 25)), (1, .int a1), (2, .int a2)] := hl
  have B26 : ∀ (b1 : Int32) (b2 : Int32) (m : St) (H : Heap) (locs : List Loc) (ls : Array Slot), lv_has ls 3 [(0, .ref (gq G 25)), (1, .int b1), (2, .int b2)] → Wd G s x m H locs → f4_hold_b26 b1 b2 m = some r → W p l e (rmF 2 46) s mm args below meth c H locs 0 0 (QE below G (some (.int r.1)) x r.2 args s) (F0 mm 26 ls []) := by
    intro b1 b2 m H locs ls hl hw h
    unfold f4_hold_b26 at h
    refine lv_aload_n hx hb dX4_hold_26 rfl (lv_at hl 0 rfl) ?_
    refine w_get C hw (v := .ref (gq G 26)) (k := 0) (wk_model G x m) rfl it_4 (by decide) fl_X4_9 rfl dX4_hold_27 ?_
    refine lv_bipush (v := (109 : Int32)) hx hb dX4_hold_30 (by decide) ?_
    refine lv_iload_n hx hb dX4_hold_32 rfl (lv_at hl 1 rfl) ?_
    refine lv_iadd hx hb dX4_hold_33 ?_
    refine lv_iload_n hx hb dX4_hold_34 rfl (lv_at hl 2 rfl) ?_
    obtain ⟨hq, h⟩ := p_if h
    refine w_astM C hw am_26 hq dX4_hold_35 (fun H locs hw => ?_)
    refine lv_iconst (v := (1 : Int32)) hx hb dX4_hold_36 (by decide) ?_
    replace h := Option.some.inj h
    subst h
    exact w_iret C hw (v := (1 : Int32)) rfl rfl dX4_hold_37
  have B20 : ∀  (m : St) (H : Heap) (locs : List Loc) (ls : Array Slot), lv_has ls 3 [(0, .ref (gq G 25))] → Wd G s x m H locs → f4_hold_b20 m = some r → W p l e (rmF 2 46) s mm args below meth c H locs 0 0 (QE below G (some (.int r.1)) x r.2 args s) (F0 mm 20 ls []) := by
    intro  m H locs ls hl hw h
    unfold f4_hold_b20 at h
    refine lv_aload_n hx hb dX4_hold_20 rfl (lv_at hl 0 rfl) ?_
    refine lv_iconst (v := (0 : Int32)) hx hb dX4_hold_21 (by decide) ?_
    obtain ⟨⟨v3, z2⟩, hq, h⟩ := p_bd h
    dsimp only at h
    refine w_Vi C hw (As := [.int (0 : Int32)]) (rest := []) (c4_finds l G x m (0 : Int32) (v3, z2) hq) kv_X4_finds ml_X4_82 ⟨rfl, rfl⟩ ⟨Nat.le_of_ble_eq_true rfl, Nat.le_of_ble_eq_true rfl⟩ ⟨Nat.zero_le _, Nat.zero_le _⟩ (w_recv C hw (wk_model G x m) rfl) rfl rfl (Nat.le_of_ble_eq_true rfl) (lv_sub hl [] rfl) dX4_hold_22 (fun H locs hw => ?_)
    replace h := Option.some.inj h
    subst h
    exact w_iret C hw (v := v3) rfl rfl dX4_hold_25
  unfold f4_hold at h
  refine lv_iload_n hx hb dX4_hold_0 rfl (lv_at hl 1 rfl) ?_
  refine w_Si C hw (As := [.int a1]) (rest := []) (c4_isSpot l G x m a1 _ rfl) ks_X4_isSpot ml_X4_354 ⟨rfl, rfl⟩ ⟨Nat.le_of_ble_eq_true rfl, Nat.le_of_ble_eq_true rfl⟩ ⟨Nat.zero_le _, Nat.zero_le _⟩ rfl rfl (Nat.le_of_ble_eq_true rfl) (lv_sub hl [] rfl) dX4_hold_1 (fun H locs hw => ?_)
  refine lv_if_eq (tgt := 20) hx hb dX4_hold_4 (by decide) (fun hc => ?_) (fun hc => ?_)
  · replace h := p_t hc h
    exact B20 m _ _ _ (lv_sub hl [0] rfl) hw h
  · replace h := p_f hc h
    refine lv_iload_n hx hb dX4_hold_7 rfl (lv_at hl 2 rfl) ?_
    refine lv_iconst (v := (-1 : Int32)) hx hb dX4_hold_8 (by decide) ?_
    refine lv_icmp_eq (tgt := 26) hx hb dX4_hold_9 (by decide) (fun hc => ?_) (fun hc => ?_)
    · replace h := p_t hc h
      exact B26 a1 a2 m _ _ _ (lv_sub hl [0, 1, 2] rfl) hw h
    · replace h := p_f hc h
      refine lv_aload_n hx hb dX4_hold_12 rfl (lv_at hl 0 rfl) ?_
      refine lv_iload_n hx hb dX4_hold_13 rfl (lv_at hl 2 rfl) ?_
      obtain ⟨v1, hq, h⟩ := p_bd h
      refine w_Vi C hw (As := [.int a2]) (rest := []) (c4_isWhisper l G x m a2 v1 hq) kv_X4_isWhisper ml_X4_117 ⟨rfl, rfl⟩ ⟨Nat.le_of_ble_eq_true rfl, Nat.le_of_ble_eq_true rfl⟩ ⟨Nat.zero_le _, Nat.zero_le _⟩ (w_recv C hw (wk_model G x m) rfl) rfl rfl (Nat.le_of_ble_eq_true rfl) (lv_sub hl [] rfl) dX4_hold_14 (fun H locs hw => ?_)
      refine lv_if_ne (tgt := 26) hx hb dX4_hold_17 (by decide) (fun hc => ?_) (fun hc => ?_)
      · replace h := p_f hc h
        exact B26 a1 a2 m _ _ _ (lv_sub hl [0, 1, 2] rfl) hw h
      · replace h := p_t hc h
        exact B20 m _ _ _ (lv_sub hl [0] rfl) hw h

def f4_as_b14    (m : St) : Option (Int32 × St) :=
  (f4_finds (0 : Int32) m).bind fun q => match q with
  | (v8, z7) =>
    some (v8, z7)
def f4_as  (a1 : Int32) (a2 : Int32) (m : St) : Option (Int32 × St) :=
  if (f4_isSpot a1) = 0 then
    f4_as_b14 m
  else
    if (f4_isKind a2) = 0 then
      f4_as_b14 m
    else
      if ((109 : Int32) + a1) < 0 ∨ 119 ≤ ((109 : Int32) + a1).toNatClampNeg then none else
      if 0 ≤ (m 26 ((109 : Int32) + a1).toNatClampNeg) then
        (f4_its (m 26 ((109 : Int32) + a1).toNatClampNeg) (0 : Int32) m).bind fun v1 =>
        (f4_isUnder v1 a2).bind fun v2 =>
        if v2 = 0 then
          (f4_finds (2 : Int32) m).bind fun q => match q with
          | (v4, z3) =>
            some (v4, z3)
        else
          some ((m 26 ((109 : Int32) + a1).toNatClampNeg), m)
      else
        (f4_finds (5 : Int32) m).bind fun q => match q with
        | (v6, z5) =>
          some (v6, z5)
set_option maxHeartbeats 4000000 in
set_option maxRecDepth 100000 in
theorem c4_as (l : Launch) (G : GT)  (x m : St) (a1 : Int32) (a2 : Int32) (r : Int32 × St) (h : f4_as a1 a2 m = some r) : Mt l yX4_as cX4_as 4 (some .int) (rmF 2 45) G x m [.ref (gq G 25), .int a1, .int a2] (some (.int r.1)) x r.2 := by
  refine Mt.of (by decide) (Nat.le_of_ble_eq_true rfl) ?_
  intro p e s mm args below meth c C ls hl hw
  have hx := C.1
  have hb := C.2.1
  have hown := C.2.2.2.2.1
  replace hl : lv_has ls 4 [(0, .ref (gq G 25)), (1, .int a1), (2, .int a2)] := hl
  have B14 : ∀  (m : St) (H : Heap) (locs : List Loc) (ls : Array Slot), lv_has ls 4 [(0, .ref (gq G 25))] → Wd G s x m H locs → f4_as_b14 m = some r → W p l e (rmF 2 45) s mm args below meth c H locs 0 0 (QE below G (some (.int r.1)) x r.2 args s) (F0 mm 14 ls []) := by
    intro  m H locs ls hl hw h
    unfold f4_as_b14 at h
    refine lv_aload_n hx hb dX4_as_14 rfl (lv_at hl 0 rfl) ?_
    refine lv_iconst (v := (0 : Int32)) hx hb dX4_as_15 (by decide) ?_
    obtain ⟨⟨v8, z7⟩, hq, h⟩ := p_bd h
    dsimp only at h
    refine w_Vi C hw (As := [.int (0 : Int32)]) (rest := []) (c4_finds l G x m (0 : Int32) (v8, z7) hq) kv_X4_finds ml_X4_82 ⟨rfl, rfl⟩ ⟨Nat.le_of_ble_eq_true rfl, Nat.le_of_ble_eq_true rfl⟩ ⟨Nat.zero_le _, Nat.zero_le _⟩ (w_recv C hw (wk_model G x m) rfl) rfl rfl (Nat.le_of_ble_eq_true rfl) (lv_sub hl [] rfl) dX4_as_16 (fun H locs hw => ?_)
    replace h := Option.some.inj h
    subst h
    exact w_iret C hw (v := v8) rfl rfl dX4_as_19
  unfold f4_as at h
  refine lv_iload_n hx hb dX4_as_0 rfl (lv_at hl 1 rfl) ?_
  refine w_Si C hw (As := [.int a1]) (rest := []) (c4_isSpot l G x m a1 _ rfl) ks_X4_isSpot ml_X4_354 ⟨rfl, rfl⟩ ⟨Nat.le_of_ble_eq_true rfl, Nat.le_of_ble_eq_true rfl⟩ ⟨Nat.zero_le _, Nat.zero_le _⟩ rfl rfl (Nat.le_of_ble_eq_true rfl) (lv_sub hl [] rfl) dX4_as_1 (fun H locs hw => ?_)
  refine lv_if_eq (tgt := 14) hx hb dX4_as_4 (by decide) (fun hc => ?_) (fun hc => ?_)
  · replace h := p_t hc h
    exact B14 m _ _ _ (lv_sub hl [0] rfl) hw h
  · replace h := p_f hc h
    refine lv_iload_n hx hb dX4_as_7 rfl (lv_at hl 2 rfl) ?_
    refine w_Si C hw (As := [.int a2]) (rest := []) (c4_isKind l G x m a2 _ rfl) ks_X4_isKind ml_X4_110 ⟨rfl, rfl⟩ ⟨Nat.le_of_ble_eq_true rfl, Nat.le_of_ble_eq_true rfl⟩ ⟨Nat.zero_le _, Nat.zero_le _⟩ rfl rfl (Nat.le_of_ble_eq_true rfl) (lv_sub hl [] rfl) dX4_as_8 (fun H locs hw => ?_)
    refine lv_if_ne (tgt := 20) hx hb dX4_as_11 (by decide) (fun hc => ?_) (fun hc => ?_)
    · replace h := p_f hc h
      refine lv_aload_n hx hb dX4_as_20 rfl (lv_at hl 0 rfl) ?_
      refine w_get C hw (v := .ref (gq G 26)) (k := 0) (wk_model G x m) rfl it_4 (by decide) fl_X4_9 rfl dX4_as_21 ?_
      refine lv_bipush (v := (109 : Int32)) hx hb dX4_as_24 (by decide) ?_
      refine lv_iload_n hx hb dX4_as_26 rfl (lv_at hl 1 rfl) ?_
      refine lv_iadd hx hb dX4_as_27 ?_
      obtain ⟨hq, h⟩ := p_if h
      refine w_ald C hw (am_26 G x m).1 hq dX4_as_28 ?_
      refine lv_istore_n (lv' := [(3, .int (m 26 ((109 : Int32) + a1).toNatClampNeg)), (0, .ref (gq G 25)), (1, .int a1), (2, .int a2)]) hx hb dX4_as_29 rfl hl (by decide) rfl (fun ls hl => ?_)
      refine lv_iload_n hx hb dX4_as_30 rfl (lv_at hl 0 rfl) ?_
      refine lv_if_ge (tgt := 40) hx hb dX4_as_31 (by decide) (fun hc => ?_) (fun hc => ?_)
      · replace h := p_t hc h
        refine lv_aload_n hx hb dX4_as_40 rfl (lv_at hl 1 rfl) ?_
        refine lv_iload_n hx hb dX4_as_41 rfl (lv_at hl 0 rfl) ?_
        refine lv_iconst (v := (0 : Int32)) hx hb dX4_as_42 (by decide) ?_
        obtain ⟨v1, hq, h⟩ := p_bd h
        refine w_Vi C hw (As := [.int (m 26 ((109 : Int32) + a1).toNatClampNeg), .int (0 : Int32)]) (rest := []) (c4_its l G x m (m 26 ((109 : Int32) + a1).toNatClampNeg) (0 : Int32) v1 hq) kv_X4_its ml_X4_69 ⟨rfl, rfl⟩ ⟨Nat.le_of_ble_eq_true rfl, Nat.le_of_ble_eq_true rfl⟩ ⟨Nat.zero_le _, Nat.zero_le _⟩ (w_recv C hw (wk_model G x m) rfl) rfl rfl (Nat.le_of_ble_eq_true rfl) (lv_sub hl [] rfl) dX4_as_43 (fun H locs hw => ?_)
        refine lv_iload_n hx hb dX4_as_46 rfl (lv_at hl 3 rfl) ?_
        obtain ⟨v2, hq, h⟩ := p_bd h
        refine w_Si C hw (As := [.int v1, .int a2]) (rest := []) (c4_isUnder l G x m v1 a2 v2 hq) ks_X4_isUnder ml_X4_357 ⟨rfl, rfl⟩ ⟨Nat.le_of_ble_eq_true rfl, Nat.le_of_ble_eq_true rfl⟩ ⟨Nat.zero_le _, Nat.zero_le _⟩ rfl rfl (Nat.le_of_ble_eq_true rfl) (lv_sub hl [] rfl) dX4_as_47 (fun H locs hw => ?_)
        refine lv_if_eq (tgt := 57) hx hb dX4_as_50 (by decide) (fun hc => ?_) (fun hc => ?_)
        · replace h := p_t hc h
          refine lv_aload_n hx hb dX4_as_57 rfl (lv_at hl 1 rfl) ?_
          refine lv_iconst (v := (2 : Int32)) hx hb dX4_as_58 (by decide) ?_
          obtain ⟨⟨v4, z3⟩, hq, h⟩ := p_bd h
          dsimp only at h
          refine w_Vi C hw (As := [.int (2 : Int32)]) (rest := []) (c4_finds l G x m (2 : Int32) (v4, z3) hq) kv_X4_finds ml_X4_82 ⟨rfl, rfl⟩ ⟨Nat.le_of_ble_eq_true rfl, Nat.le_of_ble_eq_true rfl⟩ ⟨Nat.zero_le _, Nat.zero_le _⟩ (w_recv C hw (wk_model G x m) rfl) rfl rfl (Nat.le_of_ble_eq_true rfl) (lv_sub hl [] rfl) dX4_as_59 (fun H locs hw => ?_)
          replace h := Option.some.inj h
          subst h
          exact w_iret C hw (v := v4) rfl rfl dX4_as_62
        · replace h := p_f hc h
          refine lv_iload_n hx hb dX4_as_53 rfl (lv_at hl 0 rfl) ?_
          refine lv_goto (tgt := 62) hx hb dX4_as_54 (by decide) ?_
          replace h := Option.some.inj h
          subst h
          exact w_iret C hw (v := (m 26 ((109 : Int32) + a1).toNatClampNeg)) rfl rfl dX4_as_62
      · replace h := p_f hc h
        refine lv_aload_n hx hb dX4_as_34 rfl (lv_at hl 1 rfl) ?_
        refine lv_iconst (v := (5 : Int32)) hx hb dX4_as_35 (by decide) ?_
        obtain ⟨⟨v6, z5⟩, hq, h⟩ := p_bd h
        dsimp only at h
        refine w_Vi C hw (As := [.int (5 : Int32)]) (rest := []) (c4_finds l G x m (5 : Int32) (v6, z5) hq) kv_X4_finds ml_X4_82 ⟨rfl, rfl⟩ ⟨Nat.le_of_ble_eq_true rfl, Nat.le_of_ble_eq_true rfl⟩ ⟨Nat.zero_le _, Nat.zero_le _⟩ (w_recv C hw (wk_model G x m) rfl) rfl rfl (Nat.le_of_ble_eq_true rfl) (lv_sub hl [] rfl) dX4_as_36 (fun H locs hw => ?_)
        replace h := Option.some.inj h
        subst h
        exact w_iret C hw (v := v6) rfl rfl dX4_as_39
    · replace h := p_t hc h
      exact B14 m _ _ _ (lv_sub hl [0] rfl) hw h

def f4_sheet_L95   : Nat → Int32 → Int32 → St → Option (Int32 × St)
  | 0, _, _, _ => none
  | n + 1, b1, b5, m =>
    if (40 : Int32) ≤ b5 then
      if b1 < 0 ∨ 4 ≤ b1.toNatClampNeg then none else
      some ((m 33 b1.toNatClampNeg), m)
    else
      if (((40 : Int32) * b1) + b5) < 0 ∨ 160 ≤ (((40 : Int32) * b1) + b5).toNatClampNeg then none else
      (f4_sheet_L95 n) b1 (b5 + (1 : Int32)) (up m 34 (((40 : Int32) * b1) + b5).toNatClampNeg (0 : Int32))
theorem f4_sheet_L95_0   (b1 : Int32) (b5 : Int32) (m : St) : f4_sheet_L95  0 b1 b5 m = none := rfl
theorem f4_sheet_L95_s   (n : Nat) (b1 : Int32) (b5 : Int32) (m : St) : f4_sheet_L95  (n + 1) b1 b5 m =
    if (40 : Int32) ≤ b5 then
      if b1 < 0 ∨ 4 ≤ b1.toNatClampNeg then none else
      some ((m 33 b1.toNatClampNeg), m)
    else
      if (((40 : Int32) * b1) + b5) < 0 ∨ 160 ≤ (((40 : Int32) * b1) + b5).toNatClampNeg then none else
      (f4_sheet_L95 n) b1 (b5 + (1 : Int32)) (up m 34 (((40 : Int32) * b1) + b5).toNatClampNeg (0 : Int32)) := rfl
def f4_sheet_b91   (b1 : Int32) (w1 : Int32) (w2 : Int32) (m : St) : Option (Int32 × St) :=
  if w1 < 0 ∨ 4 ≤ w1.toNatClampNeg then none else
  f4_sheet_L95 fu b1 (0 : Int32) (up m 33 w1.toNatClampNeg w2)
def f4_sheet_b41    (m : St) : Option (Int32 × St) :=
  (f4_finds (0 : Int32) m).bind fun q => match q with
  | (v6, z5) =>
    some (v6, z5)
def f4_sheet_b27   (b1 : Int32) (b2 : Int32) (b3 : Int32) (w0 : Int32) (m : St) : Option (Int32 × St) :=
  if (f4_isSheet b1) = 0 then
    f4_sheet_b41 m
  else
    if w0 = 0 then
      f4_sheet_b41 m
    else
      if 0 ≤ b3 then
        if b3 ≤ (40 : Int32) then
          if b1 < 0 ∨ 4 ≤ b1.toNatClampNeg then none else
          if b2 = 0 then
            f4_sheet_b91 b1 b1 (0 : Int32) (up m 32 b1.toNatClampNeg b2)
          else
            f4_sheet_b91 b1 b1 b3 (up m 32 b1.toNatClampNeg b2)
        else
          (f4_finds (0 : Int32) m).bind fun q => match q with
          | (v2, z1) =>
            some (v2, z1)
      else
        (f4_finds (6 : Int32) m).bind fun q => match q with
        | (v4, z3) =>
          some (v4, z3)
def f4_sheet_b22   (b1 : Int32) (b2 : Int32) (b3 : Int32) (m : St) : Option (Int32 × St) :=
  f4_sheet_b27 b1 b2 b3 (1 : Int32) m
def f4_sheet  (a1 : Int32) (a2 : Int32) (a3 : Int32) (m : St) : Option (Int32 × St) :=
  if a2 = 0 then
    f4_sheet_b22 a1 a2 a3 m
  else
    if a2 = (8 : Int32) then
      f4_sheet_b22 a1 a2 a3 m
    else
      if a2 = (16 : Int32) then
        f4_sheet_b22 a1 a2 a3 m
      else
        if a2 = (32 : Int32) then
          f4_sheet_b22 a1 a2 a3 m
        else
          f4_sheet_b27 a1 a2 a3 (0 : Int32) m
set_option maxHeartbeats 4000000 in
set_option maxRecDepth 100000 in
theorem c4_sheet (l : Launch) (G : GT)  (x m : St) (a1 : Int32) (a2 : Int32) (a3 : Int32) (r : Int32 × St) (h : f4_sheet a1 a2 a3 m = some r) : Mt l yX4_sheet cX4_sheet 6 (some .int) (rmF 2 45) G x m [.ref (gq G 25), .int a1, .int a2, .int a3] (some (.int r.1)) x r.2 := by
  refine Mt.of (by decide) (Nat.le_of_ble_eq_true rfl) ?_
  intro p e s mm args below meth c C ls hl hw
  have hx := C.1
  have hb := C.2.1
  have hown := C.2.2.2.2.1
  replace hl : lv_has ls 6 [(0, .ref (gq G 25)), (1, .int a1), (2, .int a2), (3, .int a3)] := hl
  have L95 : ∀ (n95 : Nat) (b1 : Int32) (b5 : Int32) (m : St) (H : Heap) (locs : List Loc) (ls : Array Slot), lv_has ls 6 [(0, .ref (gq G 25)), (1, .int b1), (5, .int b5)] → Wd G s x m H locs → f4_sheet_L95 n95 b1 b5 m = some r → W p l e (rmF 2 45) s mm args below meth c H locs 0 0 (QE below G (some (.int r.1)) x r.2 args s) (F0 mm 95 ls []) := by
    intro n95
    induction n95 with
    | zero =>
      intro b1 b5 m H locs ls hl hw h
      rw [f4_sheet_L95_0] at h
      exact absurd h.symm (Option.some_ne_none _)
    | succ n95 ih95 =>
      intro b1 b5 m H locs ls hl hw h
      rw [f4_sheet_L95_s] at h
      refine lv_iload hx hb dX4_sheet_95 (lv_at hl 2 rfl) ?_
      refine lv_bipush (v := (40 : Int32)) hx hb dX4_sheet_97 (by decide) ?_
      refine lv_icmp_ge (tgt := 121) hx hb dX4_sheet_99 (by decide) (fun hc => ?_) (fun hc => ?_)
      · replace h := p_t hc h
        refine lv_aload_n hx hb dX4_sheet_121 rfl (lv_at hl 0 rfl) ?_
        refine w_get C hw (v := .ref (gq G 33)) (k := 20) (wk_model G x m) rfl it_4 (by decide) fl_X4_31 rfl dX4_sheet_122 ?_
        refine lv_iload_n hx hb dX4_sheet_125 rfl (lv_at hl 1 rfl) ?_
        obtain ⟨hq, h⟩ := p_if h
        refine w_ald C hw (am_33 G x m).1 hq dX4_sheet_126 ?_
        replace h := Option.some.inj h
        subst h
        exact w_iret C hw (v := (m 33 b1.toNatClampNeg)) rfl rfl dX4_sheet_127
      · replace h := p_f hc h
        refine lv_aload_n hx hb dX4_sheet_102 rfl (lv_at hl 0 rfl) ?_
        refine w_get C hw (v := .ref (gq G 34)) (k := 21) (wk_model G x m) rfl it_4 (by decide) fl_X4_34 rfl dX4_sheet_103 ?_
        refine lv_bipush (v := (40 : Int32)) hx hb dX4_sheet_106 (by decide) ?_
        refine lv_iload_n hx hb dX4_sheet_108 rfl (lv_at hl 1 rfl) ?_
        refine lv_imul hx hb dX4_sheet_109 ?_
        refine lv_iload hx hb dX4_sheet_110 (lv_at hl 2 rfl) ?_
        refine lv_iadd hx hb dX4_sheet_112 ?_
        refine lv_iconst (v := (0 : Int32)) hx hb dX4_sheet_113 (by decide) ?_
        obtain ⟨hq, h⟩ := p_if h
        refine w_astM C hw am_34 hq dX4_sheet_114 (fun H locs hw => ?_)
        refine lv_iinc (v := (b5 + (1 : Int32))) (lv' := [(5, .int (b5 + (1 : Int32))), (0, .ref (gq G 25)), (1, .int b1)]) hx hb dX4_sheet_115 hl (k := 2) rfl rfl (by decide) rfl (fun ls hl => ?_)
        refine lv_goto (tgt := 95) hx hb dX4_sheet_118 (by decide) ?_
        exact ih95 b1 (b5 + (1 : Int32)) (up m 34 (((40 : Int32) * b1) + b5).toNatClampNeg (0 : Int32)) _ _ _ (lv_sub hl [1, 2, 0] rfl) hw h
  have B91 : ∀ (b1 : Int32) (w1 : Int32) (w2 : Int32) (m : St) (H : Heap) (locs : List Loc) (ls : Array Slot), lv_has ls 6 [(0, .ref (gq G 25)), (1, .int b1)] → Wd G s x m H locs → f4_sheet_b91 b1 w1 w2 m = some r → W p l e (rmF 2 45) s mm args below meth c H locs 0 0 (QE below G (some (.int r.1)) x r.2 args s) (F0 mm 91 ls [.int w2, .int w1, .ref (gq G 33)]) := by
    intro b1 w1 w2 m H locs ls hl hw h
    unfold f4_sheet_b91 at h
    obtain ⟨hq, h⟩ := p_if h
    refine w_astM C hw am_33 hq dX4_sheet_91 (fun H locs hw => ?_)
    refine lv_iconst (v := (0 : Int32)) hx hb dX4_sheet_92 (by decide) ?_
    refine lv_istore (lv' := [(5, .int (0 : Int32)), (0, .ref (gq G 25)), (1, .int b1)]) hx hb dX4_sheet_93 hl (by decide) rfl (fun ls hl => ?_)
    exact L95 fu b1 (0 : Int32) (up m 33 w1.toNatClampNeg w2) _ _ _ (lv_sub hl [1, 2, 0] rfl) hw h
  have B41 : ∀  (m : St) (H : Heap) (locs : List Loc) (ls : Array Slot), lv_has ls 6 [(0, .ref (gq G 25))] → Wd G s x m H locs → f4_sheet_b41 m = some r → W p l e (rmF 2 45) s mm args below meth c H locs 0 0 (QE below G (some (.int r.1)) x r.2 args s) (F0 mm 41 ls []) := by
    intro  m H locs ls hl hw h
    unfold f4_sheet_b41 at h
    refine lv_aload_n hx hb dX4_sheet_41 rfl (lv_at hl 0 rfl) ?_
    refine lv_iconst (v := (0 : Int32)) hx hb dX4_sheet_42 (by decide) ?_
    obtain ⟨⟨v6, z5⟩, hq, h⟩ := p_bd h
    dsimp only at h
    refine w_Vi C hw (As := [.int (0 : Int32)]) (rest := []) (c4_finds l G x m (0 : Int32) (v6, z5) hq) kv_X4_finds ml_X4_82 ⟨rfl, rfl⟩ ⟨Nat.le_of_ble_eq_true rfl, Nat.le_of_ble_eq_true rfl⟩ ⟨Nat.zero_le _, Nat.zero_le _⟩ (w_recv C hw (wk_model G x m) rfl) rfl rfl (Nat.le_of_ble_eq_true rfl) (lv_sub hl [] rfl) dX4_sheet_43 (fun H locs hw => ?_)
    replace h := Option.some.inj h
    subst h
    exact w_iret C hw (v := v6) rfl rfl dX4_sheet_46
  have B27 : ∀ (b1 : Int32) (b2 : Int32) (b3 : Int32) (w0 : Int32) (m : St) (H : Heap) (locs : List Loc) (ls : Array Slot), lv_has ls 6 [(0, .ref (gq G 25)), (1, .int b1), (2, .int b2), (3, .int b3)] → Wd G s x m H locs → f4_sheet_b27 b1 b2 b3 w0 m = some r → W p l e (rmF 2 45) s mm args below meth c H locs 0 0 (QE below G (some (.int r.1)) x r.2 args s) (F0 mm 27 ls [.int w0]) := by
    intro b1 b2 b3 w0 m H locs ls hl hw h
    unfold f4_sheet_b27 at h
    refine lv_istore (lv' := [(4, .int w0), (0, .ref (gq G 25)), (1, .int b1), (2, .int b2), (3, .int b3)]) hx hb dX4_sheet_27 hl (by decide) rfl (fun ls hl => ?_)
    refine lv_iload_n hx hb dX4_sheet_29 rfl (lv_at hl 2 rfl) ?_
    refine w_Si C hw (As := [.int b1]) (rest := []) (c4_isSheet l G x m b1 _ rfl) ks_X4_isSheet ml_X4_362 ⟨rfl, rfl⟩ ⟨Nat.le_of_ble_eq_true rfl, Nat.le_of_ble_eq_true rfl⟩ ⟨Nat.zero_le _, Nat.zero_le _⟩ rfl rfl (Nat.le_of_ble_eq_true rfl) (lv_sub hl [] rfl) dX4_sheet_30 (fun H locs hw => ?_)
    refine lv_if_eq (tgt := 41) hx hb dX4_sheet_33 (by decide) (fun hc => ?_) (fun hc => ?_)
    · replace h := p_t hc h
      exact B41 m _ _ _ (lv_sub hl [1] rfl) hw h
    · replace h := p_f hc h
      refine lv_iload hx hb dX4_sheet_36 (lv_at hl 0 rfl) ?_
      refine lv_if_ne (tgt := 47) hx hb dX4_sheet_38 (by decide) (fun hc => ?_) (fun hc => ?_)
      · replace h := p_f hc h
        refine lv_iload_n hx hb dX4_sheet_47 rfl (lv_at hl 4 rfl) ?_
        refine lv_if_ge (tgt := 58) hx hb dX4_sheet_48 (by decide) (fun hc => ?_) (fun hc => ?_)
        · replace h := p_t hc h
          refine lv_iload_n hx hb dX4_sheet_58 rfl (lv_at hl 4 rfl) ?_
          refine lv_bipush (v := (40 : Int32)) hx hb dX4_sheet_59 (by decide) ?_
          refine lv_icmp_le (tgt := 70) hx hb dX4_sheet_61 (by decide) (fun hc => ?_) (fun hc => ?_)
          · replace h := p_t hc h
            refine lv_aload_n hx hb dX4_sheet_70 rfl (lv_at hl 1 rfl) ?_
            refine w_get C hw (v := .ref (gq G 32)) (k := 19) (wk_model G x m) rfl it_4 (by decide) fl_X4_28 rfl dX4_sheet_71 ?_
            refine lv_iload_n hx hb dX4_sheet_74 rfl (lv_at hl 2 rfl) ?_
            refine lv_iload_n hx hb dX4_sheet_75 rfl (lv_at hl 3 rfl) ?_
            obtain ⟨hq, h⟩ := p_if h
            refine w_astM C hw am_32 hq dX4_sheet_76 (fun H locs hw => ?_)
            refine lv_aload_n hx hb dX4_sheet_77 rfl (lv_at hl 1 rfl) ?_
            refine w_get C hw (v := .ref (gq G 33)) (k := 20) (wk_model G x (up m 32 b1.toNatClampNeg b2)) rfl it_4 (by decide) fl_X4_31 rfl dX4_sheet_78 ?_
            refine lv_iload_n hx hb dX4_sheet_81 rfl (lv_at hl 2 rfl) ?_
            refine lv_iload_n hx hb dX4_sheet_82 rfl (lv_at hl 3 rfl) ?_
            refine lv_if_ne (tgt := 90) hx hb dX4_sheet_83 (by decide) (fun hc => ?_) (fun hc => ?_)
            · replace h := p_f hc h
              refine lv_iload_n hx hb dX4_sheet_90 rfl (lv_at hl 4 rfl) ?_
              exact B91 b1 b1 b3 (up m 32 b1.toNatClampNeg b2) _ _ _ (lv_sub hl [1, 2] rfl) hw h
            · replace h := p_t hc h
              refine lv_iconst (v := (0 : Int32)) hx hb dX4_sheet_86 (by decide) ?_
              refine lv_goto (tgt := 91) hx hb dX4_sheet_87 (by decide) ?_
              exact B91 b1 b1 (0 : Int32) (up m 32 b1.toNatClampNeg b2) _ _ _ (lv_sub hl [1, 2] rfl) hw h
          · replace h := p_f hc h
            refine lv_aload_n hx hb dX4_sheet_64 rfl (lv_at hl 1 rfl) ?_
            refine lv_iconst (v := (0 : Int32)) hx hb dX4_sheet_65 (by decide) ?_
            obtain ⟨⟨v2, z1⟩, hq, h⟩ := p_bd h
            dsimp only at h
            refine w_Vi C hw (As := [.int (0 : Int32)]) (rest := []) (c4_finds l G x m (0 : Int32) (v2, z1) hq) kv_X4_finds ml_X4_82 ⟨rfl, rfl⟩ ⟨Nat.le_of_ble_eq_true rfl, Nat.le_of_ble_eq_true rfl⟩ ⟨Nat.zero_le _, Nat.zero_le _⟩ (w_recv C hw (wk_model G x m) rfl) rfl rfl (Nat.le_of_ble_eq_true rfl) (lv_sub hl [] rfl) dX4_sheet_66 (fun H locs hw => ?_)
            replace h := Option.some.inj h
            subst h
            exact w_iret C hw (v := v2) rfl rfl dX4_sheet_69
        · replace h := p_f hc h
          refine lv_aload_n hx hb dX4_sheet_51 rfl (lv_at hl 1 rfl) ?_
          refine lv_bipush (v := (6 : Int32)) hx hb dX4_sheet_52 (by decide) ?_
          obtain ⟨⟨v4, z3⟩, hq, h⟩ := p_bd h
          dsimp only at h
          refine w_Vi C hw (As := [.int (6 : Int32)]) (rest := []) (c4_finds l G x m (6 : Int32) (v4, z3) hq) kv_X4_finds ml_X4_82 ⟨rfl, rfl⟩ ⟨Nat.le_of_ble_eq_true rfl, Nat.le_of_ble_eq_true rfl⟩ ⟨Nat.zero_le _, Nat.zero_le _⟩ (w_recv C hw (wk_model G x m) rfl) rfl rfl (Nat.le_of_ble_eq_true rfl) (lv_sub hl [] rfl) dX4_sheet_54 (fun H locs hw => ?_)
          replace h := Option.some.inj h
          subst h
          exact w_iret C hw (v := v4) rfl rfl dX4_sheet_57
      · replace h := p_t hc h
        exact B41 m _ _ _ (lv_sub hl [1] rfl) hw h
  have B22 : ∀ (b1 : Int32) (b2 : Int32) (b3 : Int32) (m : St) (H : Heap) (locs : List Loc) (ls : Array Slot), lv_has ls 6 [(0, .ref (gq G 25)), (1, .int b1), (2, .int b2), (3, .int b3)] → Wd G s x m H locs → f4_sheet_b22 b1 b2 b3 m = some r → W p l e (rmF 2 45) s mm args below meth c H locs 0 0 (QE below G (some (.int r.1)) x r.2 args s) (F0 mm 22 ls []) := by
    intro b1 b2 b3 m H locs ls hl hw h
    unfold f4_sheet_b22 at h
    refine lv_iconst (v := (1 : Int32)) hx hb dX4_sheet_22 (by decide) ?_
    refine lv_goto (tgt := 27) hx hb dX4_sheet_23 (by decide) ?_
    exact B27 b1 b2 b3 (1 : Int32) m _ _ _ (lv_sub hl [0, 1, 2, 3] rfl) hw h
  unfold f4_sheet at h
  refine lv_iload_n hx hb dX4_sheet_0 rfl (lv_at hl 2 rfl) ?_
  refine lv_if_eq (tgt := 22) hx hb dX4_sheet_1 (by decide) (fun hc => ?_) (fun hc => ?_)
  · replace h := p_t hc h
    exact B22 a1 a2 a3 m _ _ _ (lv_sub hl [0, 1, 2, 3] rfl) hw h
  · replace h := p_f hc h
    refine lv_iload_n hx hb dX4_sheet_4 rfl (lv_at hl 2 rfl) ?_
    refine lv_bipush (v := (8 : Int32)) hx hb dX4_sheet_5 (by decide) ?_
    refine lv_icmp_eq (tgt := 22) hx hb dX4_sheet_7 (by decide) (fun hc => ?_) (fun hc => ?_)
    · replace h := p_t hc h
      exact B22 a1 a2 a3 m _ _ _ (lv_sub hl [0, 1, 2, 3] rfl) hw h
    · replace h := p_f hc h
      refine lv_iload_n hx hb dX4_sheet_10 rfl (lv_at hl 2 rfl) ?_
      refine lv_bipush (v := (16 : Int32)) hx hb dX4_sheet_11 (by decide) ?_
      refine lv_icmp_eq (tgt := 22) hx hb dX4_sheet_13 (by decide) (fun hc => ?_) (fun hc => ?_)
      · replace h := p_t hc h
        exact B22 a1 a2 a3 m _ _ _ (lv_sub hl [0, 1, 2, 3] rfl) hw h
      · replace h := p_f hc h
        refine lv_iload_n hx hb dX4_sheet_16 rfl (lv_at hl 2 rfl) ?_
        refine lv_bipush (v := (32 : Int32)) hx hb dX4_sheet_17 (by decide) ?_
        refine lv_icmp_ne (tgt := 26) hx hb dX4_sheet_19 (by decide) (fun hc => ?_) (fun hc => ?_)
        · replace h := p_f hc h
          refine lv_iconst (v := (0 : Int32)) hx hb dX4_sheet_26 (by decide) ?_
          exact B27 a1 a2 a3 (0 : Int32) m _ _ _ (lv_sub hl [0, 1, 2, 3] rfl) hw h
        · replace h := p_t hc h
          exact B22 a1 a2 a3 m _ _ _ (lv_sub hl [0, 1, 2, 3] rfl) hw h

def f4_write  (a1 : Int32) (a2 : Int32) (a3 : Int32) (m : St) : Option (Int32 × St) :=
  (f4_lacks a1 m).bind fun v1 =>
  if v1 < 0 then
    if a1 < 0 ∨ 4 ≤ a1.toNatClampNeg then none else
    if (f4_in (a2.toInt64) (0 : Int64) (((m 33 a1.toNatClampNeg) - (1 : Int32)).toInt64)) = 0 then
      (f4_finds (0 : Int32) m).bind fun q => match q with
      | (v3, z2) =>
        some (v3, z2)
    else
      if a1 < 0 ∨ 4 ≤ a1.toNatClampNeg then none else
      if (m 32 a1.toNatClampNeg) = (8 : Int32) then
        if (((40 : Int32) * a1) + a2) < 0 ∨ 160 ≤ (((40 : Int32) * a1) + a2).toNatClampNeg then none else
        some ((1 : Int32), (up m 34 (((40 : Int32) * a1) + a2).toNatClampNeg (a3.toInt8.toInt32)))
      else
        if a1 < 0 ∨ 4 ≤ a1.toNatClampNeg then none else
        if (m 32 a1.toNatClampNeg) = (16 : Int32) then
          if (((40 : Int32) * a1) + a2) < 0 ∨ 160 ≤ (((40 : Int32) * a1) + a2).toNatClampNeg then none else
          some ((1 : Int32), (up m 34 (((40 : Int32) * a1) + a2).toNatClampNeg (a3.toInt16.toInt32)))
        else
          if (((40 : Int32) * a1) + a2) < 0 ∨ 160 ≤ (((40 : Int32) * a1) + a2).toNatClampNeg then none else
          some ((1 : Int32), (up m 34 (((40 : Int32) * a1) + a2).toNatClampNeg a3))
  else
    (f4_finds v1 m).bind fun q => match q with
    | (v5, z4) =>
      some (v5, z4)
set_option maxHeartbeats 4000000 in
set_option maxRecDepth 100000 in
theorem c4_write (l : Launch) (G : GT)  (x m : St) (a1 : Int32) (a2 : Int32) (a3 : Int32) (r : Int32 × St) (h : f4_write a1 a2 a3 m = some r) : Mt l yX4_write cX4_write 5 (some .int) (rmF 3 66) G x m [.ref (gq G 25), .int a1, .int a2, .int a3] (some (.int r.1)) x r.2 := by
  refine Mt.of (by decide) (Nat.le_of_ble_eq_true rfl) ?_
  intro p e s mm args below meth c C ls hl hw
  have hx := C.1
  have hb := C.2.1
  have hown := C.2.2.2.2.1
  replace hl : lv_has ls 5 [(0, .ref (gq G 25)), (1, .int a1), (2, .int a2), (3, .int a3)] := hl
  unfold f4_write at h
  refine lv_aload_n hx hb dX4_write_0 rfl (lv_at hl 0 rfl) ?_
  refine lv_iload_n hx hb dX4_write_1 rfl (lv_at hl 1 rfl) ?_
  obtain ⟨v1, hq, h⟩ := p_bd h
  refine w_Vi C hw (As := [.int a1]) (rest := []) (c4_lacks l G x m a1 v1 hq) kv_X4_lacks ml_X4_240 ⟨rfl, rfl⟩ ⟨Nat.le_of_ble_eq_true rfl, Nat.le_of_ble_eq_true rfl⟩ ⟨Nat.zero_le _, Nat.zero_le _⟩ (w_recv C hw (wk_model G x m) rfl) rfl rfl (Nat.le_of_ble_eq_true rfl) (lv_sub hl [] rfl) dX4_write_2 (fun H locs hw => ?_)
  refine lv_istore (lv' := [(4, .int v1), (0, .ref (gq G 25)), (1, .int a1), (2, .int a2), (3, .int a3)]) hx hb dX4_write_5 hl (by decide) rfl (fun ls hl => ?_)
  refine lv_iload hx hb dX4_write_7 (lv_at hl 0 rfl) ?_
  refine lv_if_lt (tgt := 19) hx hb dX4_write_9 (by decide) (fun hc => ?_) (fun hc => ?_)
  · replace h := p_t hc h
    refine lv_iload_n hx hb dX4_write_19 rfl (lv_at hl 3 rfl) ?_
    refine lv_i2l hx hb dX4_write_20 rfl ?_
    refine lv_lconst (v := (0 : Int64)) hx hb dX4_write_21 (by decide) ?_
    refine lv_aload_n hx hb dX4_write_22 rfl (lv_at hl 1 rfl) ?_
    refine w_get C hw (v := .ref (gq G 33)) (k := 20) (wk_model G x m) rfl it_4 (by decide) fl_X4_31 rfl dX4_write_23 ?_
    refine lv_iload_n hx hb dX4_write_26 rfl (lv_at hl 2 rfl) ?_
    obtain ⟨hq, h⟩ := p_if h
    refine w_ald C hw (am_33 G x m).1 hq dX4_write_27 ?_
    refine lv_iconst (v := (1 : Int32)) hx hb dX4_write_28 (by decide) ?_
    refine lv_isub hx hb dX4_write_29 ?_
    refine lv_i2l hx hb dX4_write_30 rfl ?_
    refine w_Si C hw (As := [.long (a2.toInt64), .long (0 : Int64), .long (((m 33 a1.toNatClampNeg) - (1 : Int32)).toInt64)]) (rest := []) (c4_in l G x m (a2.toInt64) (0 : Int64) (((m 33 a1.toNatClampNeg) - (1 : Int32)).toInt64) _ rfl) ks_X4_in ml_X4_57 ⟨rfl, rfl⟩ ⟨Nat.le_of_ble_eq_true rfl, Nat.le_of_ble_eq_true rfl⟩ ⟨Nat.zero_le _, Nat.zero_le _⟩ rfl rfl (Nat.le_of_ble_eq_true rfl) (lv_sub hl [] rfl) dX4_write_31 (fun H locs hw => ?_)
    refine lv_if_ne (tgt := 43) hx hb dX4_write_34 (by decide) (fun hc => ?_) (fun hc => ?_)
    · replace h := p_f hc h
      refine lv_aload_n hx hb dX4_write_43 rfl (lv_at hl 1 rfl) ?_
      refine w_get C hw (v := .ref (gq G 34)) (k := 21) (wk_model G x m) rfl it_4 (by decide) fl_X4_34 rfl dX4_write_44 ?_
      refine lv_bipush (v := (40 : Int32)) hx hb dX4_write_47 (by decide) ?_
      refine lv_iload_n hx hb dX4_write_49 rfl (lv_at hl 2 rfl) ?_
      refine lv_imul hx hb dX4_write_50 ?_
      refine lv_iload_n hx hb dX4_write_51 rfl (lv_at hl 3 rfl) ?_
      refine lv_iadd hx hb dX4_write_52 ?_
      refine lv_aload_n hx hb dX4_write_53 rfl (lv_at hl 1 rfl) ?_
      refine w_get C hw (v := .ref (gq G 32)) (k := 19) (wk_model G x m) rfl it_4 (by decide) fl_X4_28 rfl dX4_write_54 ?_
      refine lv_iload_n hx hb dX4_write_57 rfl (lv_at hl 2 rfl) ?_
      obtain ⟨hq, h⟩ := p_if h
      refine w_ald C hw (am_32 G x m).1 hq dX4_write_58 ?_
      refine lv_bipush (v := (8 : Int32)) hx hb dX4_write_59 (by decide) ?_
      refine lv_icmp_ne (tgt := 69) hx hb dX4_write_61 (by decide) (fun hc => ?_) (fun hc => ?_)
      · replace h := p_f hc h
        refine lv_aload_n hx hb dX4_write_69 rfl (lv_at hl 1 rfl) ?_
        refine w_get C hw (v := .ref (gq G 32)) (k := 19) (wk_model G x m) rfl it_4 (by decide) fl_X4_28 rfl dX4_write_70 ?_
        refine lv_iload_n hx hb dX4_write_73 rfl (lv_at hl 2 rfl) ?_
        obtain ⟨hq, h⟩ := p_if h
        refine w_ald C hw (am_32 G x m).1 hq dX4_write_74 ?_
        refine lv_bipush (v := (16 : Int32)) hx hb dX4_write_75 (by decide) ?_
        refine lv_icmp_ne (tgt := 85) hx hb dX4_write_77 (by decide) (fun hc => ?_) (fun hc => ?_)
        · replace h := p_f hc h
          refine lv_iload_n hx hb dX4_write_85 rfl (lv_at hl 4 rfl) ?_
          obtain ⟨hq, h⟩ := p_if h
          refine w_astM C hw am_34 hq dX4_write_86 (fun H locs hw => ?_)
          refine lv_iconst (v := (1 : Int32)) hx hb dX4_write_87 (by decide) ?_
          replace h := Option.some.inj h
          subst h
          exact w_iret C hw (v := (1 : Int32)) rfl rfl dX4_write_88
        · replace h := p_t hc h
          refine lv_iload_n hx hb dX4_write_80 rfl (lv_at hl 4 rfl) ?_
          refine lv_i2s hx hb dX4_write_81 rfl ?_
          refine lv_goto (tgt := 86) hx hb dX4_write_82 (by decide) ?_
          obtain ⟨hq, h⟩ := p_if h
          refine w_astM C hw am_34 hq dX4_write_86 (fun H locs hw => ?_)
          refine lv_iconst (v := (1 : Int32)) hx hb dX4_write_87 (by decide) ?_
          replace h := Option.some.inj h
          subst h
          exact w_iret C hw (v := (1 : Int32)) rfl rfl dX4_write_88
      · replace h := p_t hc h
        refine lv_iload_n hx hb dX4_write_64 rfl (lv_at hl 4 rfl) ?_
        refine lv_i2b hx hb dX4_write_65 rfl ?_
        refine lv_goto (tgt := 86) hx hb dX4_write_66 (by decide) ?_
        obtain ⟨hq, h⟩ := p_if h
        refine w_astM C hw am_34 hq dX4_write_86 (fun H locs hw => ?_)
        refine lv_iconst (v := (1 : Int32)) hx hb dX4_write_87 (by decide) ?_
        replace h := Option.some.inj h
        subst h
        exact w_iret C hw (v := (1 : Int32)) rfl rfl dX4_write_88
    · replace h := p_t hc h
      refine lv_aload_n hx hb dX4_write_37 rfl (lv_at hl 1 rfl) ?_
      refine lv_iconst (v := (0 : Int32)) hx hb dX4_write_38 (by decide) ?_
      obtain ⟨⟨v3, z2⟩, hq, h⟩ := p_bd h
      dsimp only at h
      refine w_Vi C hw (As := [.int (0 : Int32)]) (rest := []) (c4_finds l G x m (0 : Int32) (v3, z2) hq) kv_X4_finds ml_X4_82 ⟨rfl, rfl⟩ ⟨Nat.le_of_ble_eq_true rfl, Nat.le_of_ble_eq_true rfl⟩ ⟨Nat.zero_le _, Nat.zero_le _⟩ (w_recv C hw (wk_model G x m) rfl) rfl rfl (Nat.le_of_ble_eq_true rfl) (lv_sub hl [] rfl) dX4_write_39 (fun H locs hw => ?_)
      replace h := Option.some.inj h
      subst h
      exact w_iret C hw (v := v3) rfl rfl dX4_write_42
  · replace h := p_f hc h
    refine lv_aload_n hx hb dX4_write_12 rfl (lv_at hl 1 rfl) ?_
    refine lv_iload hx hb dX4_write_13 (lv_at hl 0 rfl) ?_
    obtain ⟨⟨v5, z4⟩, hq, h⟩ := p_bd h
    dsimp only at h
    refine w_Vi C hw (As := [.int v1]) (rest := []) (c4_finds l G x m v1 (v5, z4) hq) kv_X4_finds ml_X4_82 ⟨rfl, rfl⟩ ⟨Nat.le_of_ble_eq_true rfl, Nat.le_of_ble_eq_true rfl⟩ ⟨Nat.zero_le _, Nat.zero_le _⟩ (w_recv C hw (wk_model G x m) rfl) rfl rfl (Nat.le_of_ble_eq_true rfl) (lv_sub hl [] rfl) dX4_write_15 (fun H locs hw => ?_)
    replace h := Option.some.inj h
    subst h
    exact w_iret C hw (v := v5) rfl rfl dX4_write_18

def f4_copy_L172   : Nat → Int32 → Int32 → Int32 → Int32 → St → Option (Int32 × St)
  | 0, _, _, _, _, _ => none
  | n + 1, b3, b4, b5, b7, m =>
    if b5 ≤ b7 then
      some (b5, m)
    else
      if b7 < 0 ∨ 40 ≤ b7.toNatClampNeg then none else
      if ((((40 : Int32) * b3) + b4) + b7) < 0 ∨ 160 ≤ ((((40 : Int32) * b3) + b4) + b7).toNatClampNeg then none else
      (f4_copy_L172 n) b3 b4 b5 (b7 + (1 : Int32)) (up m 34 ((((40 : Int32) * b3) + b4) + b7).toNatClampNeg (m 35 b7.toNatClampNeg))
theorem f4_copy_L172_0   (b3 : Int32) (b4 : Int32) (b5 : Int32) (b7 : Int32) (m : St) : f4_copy_L172  0 b3 b4 b5 b7 m = none := rfl
theorem f4_copy_L172_s   (n : Nat) (b3 : Int32) (b4 : Int32) (b5 : Int32) (b7 : Int32) (m : St) : f4_copy_L172  (n + 1) b3 b4 b5 b7 m =
    if b5 ≤ b7 then
      some (b5, m)
    else
      if b7 < 0 ∨ 40 ≤ b7.toNatClampNeg then none else
      if ((((40 : Int32) * b3) + b4) + b7) < 0 ∨ 160 ≤ ((((40 : Int32) * b3) + b4) + b7).toNatClampNeg then none else
      (f4_copy_L172 n) b3 b4 b5 (b7 + (1 : Int32)) (up m 34 ((((40 : Int32) * b3) + b4) + b7).toNatClampNeg (m 35 b7.toNatClampNeg)) := rfl
def f4_copy_L135   : Nat → Int32 → Int32 → Int32 → Int32 → Int32 → Int32 → St → Option (Int32 × St)
  | 0, _, _, _, _, _, _, _ => none
  | n + 1, b1, b2, b3, b4, b5, b7, m =>
    if b5 ≤ b7 then
      f4_copy_L172 fu b3 b4 b5 (0 : Int32) m
    else
      if ((((40 : Int32) * b1) + b2) + b7) < 0 ∨ 160 ≤ ((((40 : Int32) * b1) + b2) + b7).toNatClampNeg then none else
      if b7 < 0 ∨ 40 ≤ b7.toNatClampNeg then none else
      (f4_copy_L135 n) b1 b2 b3 b4 b5 (b7 + (1 : Int32)) (up m 35 b7.toNatClampNeg (m 34 ((((40 : Int32) * b1) + b2) + b7).toNatClampNeg))
theorem f4_copy_L135_0   (b1 : Int32) (b2 : Int32) (b3 : Int32) (b4 : Int32) (b5 : Int32) (b7 : Int32) (m : St) : f4_copy_L135  0 b1 b2 b3 b4 b5 b7 m = none := rfl
theorem f4_copy_L135_s   (n : Nat) (b1 : Int32) (b2 : Int32) (b3 : Int32) (b4 : Int32) (b5 : Int32) (b7 : Int32) (m : St) : f4_copy_L135  (n + 1) b1 b2 b3 b4 b5 b7 m =
    if b5 ≤ b7 then
      f4_copy_L172 fu b3 b4 b5 (0 : Int32) m
    else
      if ((((40 : Int32) * b1) + b2) + b7) < 0 ∨ 160 ≤ ((((40 : Int32) * b1) + b2) + b7).toNatClampNeg then none else
      if b7 < 0 ∨ 40 ≤ b7.toNatClampNeg then none else
      (f4_copy_L135 n) b1 b2 b3 b4 b5 (b7 + (1 : Int32)) (up m 35 b7.toNatClampNeg (m 34 ((((40 : Int32) * b1) + b2) + b7).toNatClampNeg)) := rfl
def f4_copy_b119   (b1 : Int32) (b2 : Int32) (b3 : Int32) (b4 : Int32) (b5 : Int32) (w0 : Int32) (m : St) : Option (Int32 × St) :=
  if w0 = 0 then
    (f4_finds (0 : Int32) m).bind fun q => match q with
    | (v8, z7) =>
      some (v8, z7)
  else
    f4_copy_L135 fu b1 b2 b3 b4 b5 (0 : Int32) m
def f4_copy_b118   (b1 : Int32) (b2 : Int32) (b3 : Int32) (b4 : Int32) (b5 : Int32) (m : St) : Option (Int32 × St) :=
  f4_copy_b119 b1 b2 b3 b4 b5 (0 : Int32) m
def f4_copy_b38    (m : St) : Option (Int32 × St) :=
  (f4_finds (5 : Int32) m).bind fun q => match q with
  | (v6, z5) =>
    some (v6, z5)
def f4_copy_b14    (m : St) : Option (Int32 × St) :=
  (f4_finds (0 : Int32) m).bind fun q => match q with
  | (v4, z3) =>
    some (v4, z3)
def f4_copy  (a1 : Int32) (a2 : Int32) (a3 : Int32) (a4 : Int32) (a5 : Int32) (m : St) : Option (Int32 × St) :=
  if (f4_isSheet a1) = 0 then
    f4_copy_b14 m
  else
    if (f4_isSheet a3) = 0 then
      f4_copy_b14 m
    else
      if a1 < 0 ∨ 4 ≤ a1.toNatClampNeg then none else
      if (m 32 a1.toNatClampNeg) = 0 then
        f4_copy_b38 m
      else
        if a3 < 0 ∨ 4 ≤ a3.toNatClampNeg then none else
        if (m 32 a3.toNatClampNeg) = 0 then
          f4_copy_b38 m
        else
          if a1 < 0 ∨ 4 ≤ a1.toNatClampNeg then none else
          if a3 < 0 ∨ 4 ≤ a3.toNatClampNeg then none else
          if (m 32 a1.toNatClampNeg) = (m 32 a3.toNatClampNeg) then
            if a5 < 0 then
              f4_copy_b118 a1 a2 a3 a4 a5 m
            else
              if a2 < 0 then
                f4_copy_b118 a1 a2 a3 a4 a5 m
              else
                if a4 < 0 then
                  f4_copy_b118 a1 a2 a3 a4 a5 m
                else
                  if a1 < 0 ∨ 4 ≤ a1.toNatClampNeg then none else
                  if 0 < (lg_cmp ((a2.toInt64) + (a5.toInt64)) ((m 33 a1.toNatClampNeg).toInt64)) then
                    f4_copy_b118 a1 a2 a3 a4 a5 m
                  else
                    if a3 < 0 ∨ 4 ≤ a3.toNatClampNeg then none else
                    if 0 < (lg_cmp ((a4.toInt64) + (a5.toInt64)) ((m 33 a3.toNatClampNeg).toInt64)) then
                      f4_copy_b118 a1 a2 a3 a4 a5 m
                    else
                      f4_copy_b119 a1 a2 a3 a4 a5 (1 : Int32) m
          else
            (f4_finds (2 : Int32) m).bind fun q => match q with
            | (v2, z1) =>
              some (v2, z1)
set_option maxHeartbeats 4000000 in
set_option maxRecDepth 100000 in
theorem c4_copy (l : Launch) (G : GT)  (x m : St) (a1 : Int32) (a2 : Int32) (a3 : Int32) (a4 : Int32) (a5 : Int32) (r : Int32 × St) (h : f4_copy a1 a2 a3 a4 a5 m = some r) : Mt l yX4_copy cX4_copy 8 (some .int) (rmF 2 45) G x m [.ref (gq G 25), .int a1, .int a2, .int a3, .int a4, .int a5] (some (.int r.1)) x r.2 := by
  refine Mt.of (by decide) (Nat.le_of_ble_eq_true rfl) ?_
  intro p e s mm args below meth c C ls hl hw
  have hx := C.1
  have hb := C.2.1
  have hown := C.2.2.2.2.1
  replace hl : lv_has ls 8 [(0, .ref (gq G 25)), (1, .int a1), (2, .int a2), (3, .int a3), (4, .int a4), (5, .int a5)] := hl
  have L172 : ∀ (n172 : Nat) (b3 : Int32) (b4 : Int32) (b5 : Int32) (b7 : Int32) (m : St) (H : Heap) (locs : List Loc) (ls : Array Slot), lv_has ls 8 [(0, .ref (gq G 25)), (3, .int b3), (4, .int b4), (5, .int b5), (7, .int b7)] → Wd G s x m H locs → f4_copy_L172 n172 b3 b4 b5 b7 m = some r → W p l e (rmF 2 45) s mm args below meth c H locs 0 0 (QE below G (some (.int r.1)) x r.2 args s) (F0 mm 172 ls []) := by
    intro n172
    induction n172 with
    | zero =>
      intro b3 b4 b5 b7 m H locs ls hl hw h
      rw [f4_copy_L172_0] at h
      exact absurd h.symm (Option.some_ne_none _)
    | succ n172 ih172 =>
      intro b3 b4 b5 b7 m H locs ls hl hw h
      rw [f4_copy_L172_s] at h
      refine lv_iload hx hb dX4_copy_172 (lv_at hl 4 rfl) ?_
      refine lv_iload hx hb dX4_copy_174 (lv_at hl 3 rfl) ?_
      refine lv_icmp_ge (tgt := 207) hx hb dX4_copy_176 (by decide) (fun hc => ?_) (fun hc => ?_)
      · replace h := p_t hc h
        refine lv_iload hx hb dX4_copy_207 (lv_at hl 3 rfl) ?_
        replace h := Option.some.inj h
        subst h
        exact w_iret C hw (v := b5) rfl rfl dX4_copy_209
      · replace h := p_f hc h
        refine lv_aload_n hx hb dX4_copy_179 rfl (lv_at hl 0 rfl) ?_
        refine w_get C hw (v := .ref (gq G 34)) (k := 21) (wk_model G x m) rfl it_4 (by decide) fl_X4_34 rfl dX4_copy_180 ?_
        refine lv_bipush (v := (40 : Int32)) hx hb dX4_copy_183 (by decide) ?_
        refine lv_iload_n hx hb dX4_copy_185 rfl (lv_at hl 1 rfl) ?_
        refine lv_imul hx hb dX4_copy_186 ?_
        refine lv_iload hx hb dX4_copy_187 (lv_at hl 2 rfl) ?_
        refine lv_iadd hx hb dX4_copy_189 ?_
        refine lv_iload hx hb dX4_copy_190 (lv_at hl 4 rfl) ?_
        refine lv_iadd hx hb dX4_copy_192 ?_
        refine lv_aload_n hx hb dX4_copy_193 rfl (lv_at hl 0 rfl) ?_
        refine w_get C hw (v := .ref (gq G 35)) (k := 22) (wk_model G x m) rfl it_4 (by decide) fl_X4_37 rfl dX4_copy_194 ?_
        refine lv_iload hx hb dX4_copy_197 (lv_at hl 4 rfl) ?_
        obtain ⟨hq, h⟩ := p_if h
        refine w_ald C hw (am_35 G x m).1 hq dX4_copy_199 ?_
        obtain ⟨hq, h⟩ := p_if h
        refine w_astM C hw am_34 hq dX4_copy_200 (fun H locs hw => ?_)
        refine lv_iinc (v := (b7 + (1 : Int32))) (lv' := [(7, .int (b7 + (1 : Int32))), (0, .ref (gq G 25)), (3, .int b3), (4, .int b4), (5, .int b5)]) hx hb dX4_copy_201 hl (k := 4) rfl rfl (by decide) rfl (fun ls hl => ?_)
        refine lv_goto (tgt := 172) hx hb dX4_copy_204 (by decide) ?_
        exact ih172 b3 b4 b5 (b7 + (1 : Int32)) (up m 34 ((((40 : Int32) * b3) + b4) + b7).toNatClampNeg (m 35 b7.toNatClampNeg)) _ _ _ (lv_sub hl [1, 2, 3, 4, 0] rfl) hw h
  have L135 : ∀ (n135 : Nat) (b1 : Int32) (b2 : Int32) (b3 : Int32) (b4 : Int32) (b5 : Int32) (b7 : Int32) (m : St) (H : Heap) (locs : List Loc) (ls : Array Slot), lv_has ls 8 [(0, .ref (gq G 25)), (1, .int b1), (2, .int b2), (3, .int b3), (4, .int b4), (5, .int b5), (7, .int b7)] → Wd G s x m H locs → f4_copy_L135 n135 b1 b2 b3 b4 b5 b7 m = some r → W p l e (rmF 2 45) s mm args below meth c H locs 0 0 (QE below G (some (.int r.1)) x r.2 args s) (F0 mm 135 ls []) := by
    intro n135
    induction n135 with
    | zero =>
      intro b1 b2 b3 b4 b5 b7 m H locs ls hl hw h
      rw [f4_copy_L135_0] at h
      exact absurd h.symm (Option.some_ne_none _)
    | succ n135 ih135 =>
      intro b1 b2 b3 b4 b5 b7 m H locs ls hl hw h
      rw [f4_copy_L135_s] at h
      refine lv_iload hx hb dX4_copy_135 (lv_at hl 6 rfl) ?_
      refine lv_iload hx hb dX4_copy_137 (lv_at hl 5 rfl) ?_
      refine lv_icmp_ge (tgt := 169) hx hb dX4_copy_139 (by decide) (fun hc => ?_) (fun hc => ?_)
      · replace h := p_t hc h
        refine lv_iconst (v := (0 : Int32)) hx hb dX4_copy_169 (by decide) ?_
        refine lv_istore (lv' := [(7, .int (0 : Int32)), (0, .ref (gq G 25)), (1, .int b1), (2, .int b2), (3, .int b3), (4, .int b4), (5, .int b5)]) hx hb dX4_copy_170 hl (by decide) rfl (fun ls hl => ?_)
        exact L172 fu b3 b4 b5 (0 : Int32) m _ _ _ (lv_sub hl [1, 4, 5, 6, 0] rfl) hw h
      · replace h := p_f hc h
        refine lv_aload_n hx hb dX4_copy_142 rfl (lv_at hl 0 rfl) ?_
        refine w_get C hw (v := .ref (gq G 35)) (k := 22) (wk_model G x m) rfl it_4 (by decide) fl_X4_37 rfl dX4_copy_143 ?_
        refine lv_iload hx hb dX4_copy_146 (lv_at hl 6 rfl) ?_
        refine lv_aload_n hx hb dX4_copy_148 rfl (lv_at hl 0 rfl) ?_
        refine w_get C hw (v := .ref (gq G 34)) (k := 21) (wk_model G x m) rfl it_4 (by decide) fl_X4_34 rfl dX4_copy_149 ?_
        refine lv_bipush (v := (40 : Int32)) hx hb dX4_copy_152 (by decide) ?_
        refine lv_iload_n hx hb dX4_copy_154 rfl (lv_at hl 1 rfl) ?_
        refine lv_imul hx hb dX4_copy_155 ?_
        refine lv_iload_n hx hb dX4_copy_156 rfl (lv_at hl 2 rfl) ?_
        refine lv_iadd hx hb dX4_copy_157 ?_
        refine lv_iload hx hb dX4_copy_158 (lv_at hl 6 rfl) ?_
        refine lv_iadd hx hb dX4_copy_160 ?_
        obtain ⟨hq, h⟩ := p_if h
        refine w_ald C hw (am_34 G x m).1 hq dX4_copy_161 ?_
        obtain ⟨hq, h⟩ := p_if h
        refine w_astM C hw am_35 hq dX4_copy_162 (fun H locs hw => ?_)
        refine lv_iinc (v := (b7 + (1 : Int32))) (lv' := [(7, .int (b7 + (1 : Int32))), (0, .ref (gq G 25)), (1, .int b1), (2, .int b2), (3, .int b3), (4, .int b4), (5, .int b5)]) hx hb dX4_copy_163 hl (k := 6) rfl rfl (by decide) rfl (fun ls hl => ?_)
        refine lv_goto (tgt := 135) hx hb dX4_copy_166 (by decide) ?_
        exact ih135 b1 b2 b3 b4 b5 (b7 + (1 : Int32)) (up m 35 b7.toNatClampNeg (m 34 ((((40 : Int32) * b1) + b2) + b7).toNatClampNeg)) _ _ _ (lv_sub hl [1, 2, 3, 4, 5, 6, 0] rfl) hw h
  have B119 : ∀ (b1 : Int32) (b2 : Int32) (b3 : Int32) (b4 : Int32) (b5 : Int32) (w0 : Int32) (m : St) (H : Heap) (locs : List Loc) (ls : Array Slot), lv_has ls 8 [(0, .ref (gq G 25)), (1, .int b1), (2, .int b2), (3, .int b3), (4, .int b4), (5, .int b5)] → Wd G s x m H locs → f4_copy_b119 b1 b2 b3 b4 b5 w0 m = some r → W p l e (rmF 2 45) s mm args below meth c H locs 0 0 (QE below G (some (.int r.1)) x r.2 args s) (F0 mm 119 ls [.int w0]) := by
    intro b1 b2 b3 b4 b5 w0 m H locs ls hl hw h
    unfold f4_copy_b119 at h
    refine lv_istore (lv' := [(6, .int w0), (0, .ref (gq G 25)), (1, .int b1), (2, .int b2), (3, .int b3), (4, .int b4), (5, .int b5)]) hx hb dX4_copy_119 hl (by decide) rfl (fun ls hl => ?_)
    refine lv_iload hx hb dX4_copy_121 (lv_at hl 0 rfl) ?_
    refine lv_if_ne (tgt := 132) hx hb dX4_copy_123 (by decide) (fun hc => ?_) (fun hc => ?_)
    · replace h := p_f hc h
      refine lv_iconst (v := (0 : Int32)) hx hb dX4_copy_132 (by decide) ?_
      refine lv_istore (lv' := [(7, .int (0 : Int32)), (6, .int w0), (0, .ref (gq G 25)), (1, .int b1), (2, .int b2), (3, .int b3), (4, .int b4), (5, .int b5)]) hx hb dX4_copy_133 hl (by decide) rfl (fun ls hl => ?_)
      exact L135 fu b1 b2 b3 b4 b5 (0 : Int32) m _ _ _ (lv_sub hl [2, 3, 4, 5, 6, 7, 0] rfl) hw h
    · replace h := p_t hc h
      refine lv_aload_n hx hb dX4_copy_126 rfl (lv_at hl 1 rfl) ?_
      refine lv_iconst (v := (0 : Int32)) hx hb dX4_copy_127 (by decide) ?_
      obtain ⟨⟨v8, z7⟩, hq, h⟩ := p_bd h
      dsimp only at h
      refine w_Vi C hw (As := [.int (0 : Int32)]) (rest := []) (c4_finds l G x m (0 : Int32) (v8, z7) hq) kv_X4_finds ml_X4_82 ⟨rfl, rfl⟩ ⟨Nat.le_of_ble_eq_true rfl, Nat.le_of_ble_eq_true rfl⟩ ⟨Nat.zero_le _, Nat.zero_le _⟩ (w_recv C hw (wk_model G x m) rfl) rfl rfl (Nat.le_of_ble_eq_true rfl) (lv_sub hl [] rfl) dX4_copy_128 (fun H locs hw => ?_)
      replace h := Option.some.inj h
      subst h
      exact w_iret C hw (v := v8) rfl rfl dX4_copy_131
  have B118 : ∀ (b1 : Int32) (b2 : Int32) (b3 : Int32) (b4 : Int32) (b5 : Int32) (m : St) (H : Heap) (locs : List Loc) (ls : Array Slot), lv_has ls 8 [(0, .ref (gq G 25)), (1, .int b1), (2, .int b2), (3, .int b3), (4, .int b4), (5, .int b5)] → Wd G s x m H locs → f4_copy_b118 b1 b2 b3 b4 b5 m = some r → W p l e (rmF 2 45) s mm args below meth c H locs 0 0 (QE below G (some (.int r.1)) x r.2 args s) (F0 mm 118 ls []) := by
    intro b1 b2 b3 b4 b5 m H locs ls hl hw h
    unfold f4_copy_b118 at h
    refine lv_iconst (v := (0 : Int32)) hx hb dX4_copy_118 (by decide) ?_
    exact B119 b1 b2 b3 b4 b5 (0 : Int32) m _ _ _ (lv_sub hl [0, 1, 2, 3, 4, 5] rfl) hw h
  have B38 : ∀  (m : St) (H : Heap) (locs : List Loc) (ls : Array Slot), lv_has ls 8 [(0, .ref (gq G 25))] → Wd G s x m H locs → f4_copy_b38 m = some r → W p l e (rmF 2 45) s mm args below meth c H locs 0 0 (QE below G (some (.int r.1)) x r.2 args s) (F0 mm 38 ls []) := by
    intro  m H locs ls hl hw h
    unfold f4_copy_b38 at h
    refine lv_aload_n hx hb dX4_copy_38 rfl (lv_at hl 0 rfl) ?_
    refine lv_iconst (v := (5 : Int32)) hx hb dX4_copy_39 (by decide) ?_
    obtain ⟨⟨v6, z5⟩, hq, h⟩ := p_bd h
    dsimp only at h
    refine w_Vi C hw (As := [.int (5 : Int32)]) (rest := []) (c4_finds l G x m (5 : Int32) (v6, z5) hq) kv_X4_finds ml_X4_82 ⟨rfl, rfl⟩ ⟨Nat.le_of_ble_eq_true rfl, Nat.le_of_ble_eq_true rfl⟩ ⟨Nat.zero_le _, Nat.zero_le _⟩ (w_recv C hw (wk_model G x m) rfl) rfl rfl (Nat.le_of_ble_eq_true rfl) (lv_sub hl [] rfl) dX4_copy_40 (fun H locs hw => ?_)
    replace h := Option.some.inj h
    subst h
    exact w_iret C hw (v := v6) rfl rfl dX4_copy_43
  have B14 : ∀  (m : St) (H : Heap) (locs : List Loc) (ls : Array Slot), lv_has ls 8 [(0, .ref (gq G 25))] → Wd G s x m H locs → f4_copy_b14 m = some r → W p l e (rmF 2 45) s mm args below meth c H locs 0 0 (QE below G (some (.int r.1)) x r.2 args s) (F0 mm 14 ls []) := by
    intro  m H locs ls hl hw h
    unfold f4_copy_b14 at h
    refine lv_aload_n hx hb dX4_copy_14 rfl (lv_at hl 0 rfl) ?_
    refine lv_iconst (v := (0 : Int32)) hx hb dX4_copy_15 (by decide) ?_
    obtain ⟨⟨v4, z3⟩, hq, h⟩ := p_bd h
    dsimp only at h
    refine w_Vi C hw (As := [.int (0 : Int32)]) (rest := []) (c4_finds l G x m (0 : Int32) (v4, z3) hq) kv_X4_finds ml_X4_82 ⟨rfl, rfl⟩ ⟨Nat.le_of_ble_eq_true rfl, Nat.le_of_ble_eq_true rfl⟩ ⟨Nat.zero_le _, Nat.zero_le _⟩ (w_recv C hw (wk_model G x m) rfl) rfl rfl (Nat.le_of_ble_eq_true rfl) (lv_sub hl [] rfl) dX4_copy_16 (fun H locs hw => ?_)
    replace h := Option.some.inj h
    subst h
    exact w_iret C hw (v := v4) rfl rfl dX4_copy_19
  unfold f4_copy at h
  refine lv_iload_n hx hb dX4_copy_0 rfl (lv_at hl 1 rfl) ?_
  refine w_Si C hw (As := [.int a1]) (rest := []) (c4_isSheet l G x m a1 _ rfl) ks_X4_isSheet ml_X4_362 ⟨rfl, rfl⟩ ⟨Nat.le_of_ble_eq_true rfl, Nat.le_of_ble_eq_true rfl⟩ ⟨Nat.zero_le _, Nat.zero_le _⟩ rfl rfl (Nat.le_of_ble_eq_true rfl) (lv_sub hl [] rfl) dX4_copy_1 (fun H locs hw => ?_)
  refine lv_if_eq (tgt := 14) hx hb dX4_copy_4 (by decide) (fun hc => ?_) (fun hc => ?_)
  · replace h := p_t hc h
    exact B14 m _ _ _ (lv_sub hl [0] rfl) hw h
  · replace h := p_f hc h
    refine lv_iload_n hx hb dX4_copy_7 rfl (lv_at hl 3 rfl) ?_
    refine w_Si C hw (As := [.int a3]) (rest := []) (c4_isSheet l G x m a3 _ rfl) ks_X4_isSheet ml_X4_362 ⟨rfl, rfl⟩ ⟨Nat.le_of_ble_eq_true rfl, Nat.le_of_ble_eq_true rfl⟩ ⟨Nat.zero_le _, Nat.zero_le _⟩ rfl rfl (Nat.le_of_ble_eq_true rfl) (lv_sub hl [] rfl) dX4_copy_8 (fun H locs hw => ?_)
    refine lv_if_ne (tgt := 20) hx hb dX4_copy_11 (by decide) (fun hc => ?_) (fun hc => ?_)
    · replace h := p_f hc h
      refine lv_aload_n hx hb dX4_copy_20 rfl (lv_at hl 0 rfl) ?_
      refine w_get C hw (v := .ref (gq G 32)) (k := 19) (wk_model G x m) rfl it_4 (by decide) fl_X4_28 rfl dX4_copy_21 ?_
      refine lv_iload_n hx hb dX4_copy_24 rfl (lv_at hl 1 rfl) ?_
      obtain ⟨hq, h⟩ := p_if h
      refine w_ald C hw (am_32 G x m).1 hq dX4_copy_25 ?_
      refine lv_if_eq (tgt := 38) hx hb dX4_copy_26 (by decide) (fun hc => ?_) (fun hc => ?_)
      · replace h := p_t hc h
        exact B38 m _ _ _ (lv_sub hl [0] rfl) hw h
      · replace h := p_f hc h
        refine lv_aload_n hx hb dX4_copy_29 rfl (lv_at hl 0 rfl) ?_
        refine w_get C hw (v := .ref (gq G 32)) (k := 19) (wk_model G x m) rfl it_4 (by decide) fl_X4_28 rfl dX4_copy_30 ?_
        refine lv_iload_n hx hb dX4_copy_33 rfl (lv_at hl 3 rfl) ?_
        obtain ⟨hq, h⟩ := p_if h
        refine w_ald C hw (am_32 G x m).1 hq dX4_copy_34 ?_
        refine lv_if_ne (tgt := 44) hx hb dX4_copy_35 (by decide) (fun hc => ?_) (fun hc => ?_)
        · replace h := p_f hc h
          refine lv_aload_n hx hb dX4_copy_44 rfl (lv_at hl 0 rfl) ?_
          refine w_get C hw (v := .ref (gq G 32)) (k := 19) (wk_model G x m) rfl it_4 (by decide) fl_X4_28 rfl dX4_copy_45 ?_
          refine lv_iload_n hx hb dX4_copy_48 rfl (lv_at hl 1 rfl) ?_
          obtain ⟨hq, h⟩ := p_if h
          refine w_ald C hw (am_32 G x m).1 hq dX4_copy_49 ?_
          refine lv_aload_n hx hb dX4_copy_50 rfl (lv_at hl 0 rfl) ?_
          refine w_get C hw (v := .ref (gq G 32)) (k := 19) (wk_model G x m) rfl it_4 (by decide) fl_X4_28 rfl dX4_copy_51 ?_
          refine lv_iload_n hx hb dX4_copy_54 rfl (lv_at hl 3 rfl) ?_
          obtain ⟨hq, h⟩ := p_if h
          refine w_ald C hw (am_32 G x m).1 hq dX4_copy_55 ?_
          refine lv_icmp_eq (tgt := 65) hx hb dX4_copy_56 (by decide) (fun hc => ?_) (fun hc => ?_)
          · replace h := p_t hc h
            refine lv_iload hx hb dX4_copy_65 (lv_at hl 5 rfl) ?_
            refine lv_if_lt (tgt := 118) hx hb dX4_copy_67 (by decide) (fun hc => ?_) (fun hc => ?_)
            · replace h := p_t hc h
              exact B118 a1 a2 a3 a4 a5 m _ _ _ (lv_sub hl [0, 1, 2, 3, 4, 5] rfl) hw h
            · replace h := p_f hc h
              refine lv_iload_n hx hb dX4_copy_70 rfl (lv_at hl 2 rfl) ?_
              refine lv_if_lt (tgt := 118) hx hb dX4_copy_71 (by decide) (fun hc => ?_) (fun hc => ?_)
              · replace h := p_t hc h
                exact B118 a1 a2 a3 a4 a5 m _ _ _ (lv_sub hl [0, 1, 2, 3, 4, 5] rfl) hw h
              · replace h := p_f hc h
                refine lv_iload hx hb dX4_copy_74 (lv_at hl 4 rfl) ?_
                refine lv_if_lt (tgt := 118) hx hb dX4_copy_76 (by decide) (fun hc => ?_) (fun hc => ?_)
                · replace h := p_t hc h
                  exact B118 a1 a2 a3 a4 a5 m _ _ _ (lv_sub hl [0, 1, 2, 3, 4, 5] rfl) hw h
                · replace h := p_f hc h
                  refine lv_iload_n hx hb dX4_copy_79 rfl (lv_at hl 2 rfl) ?_
                  refine lv_i2l hx hb dX4_copy_80 rfl ?_
                  refine lv_iload hx hb dX4_copy_81 (lv_at hl 5 rfl) ?_
                  refine lv_i2l hx hb dX4_copy_83 rfl ?_
                  refine lv_ladd hx hb dX4_copy_84 ?_
                  refine lv_aload_n hx hb dX4_copy_85 rfl (lv_at hl 0 rfl) ?_
                  refine w_get C hw (v := .ref (gq G 33)) (k := 20) (wk_model G x m) rfl it_4 (by decide) fl_X4_31 rfl dX4_copy_86 ?_
                  refine lv_iload_n hx hb dX4_copy_89 rfl (lv_at hl 1 rfl) ?_
                  obtain ⟨hq, h⟩ := p_if h
                  refine w_ald C hw (am_33 G x m).1 hq dX4_copy_90 ?_
                  refine lv_i2l hx hb dX4_copy_91 rfl ?_
                  refine W.lcmp hx hb dX4_copy_92 ?_
                  refine lv_if_gt (tgt := 118) hx hb dX4_copy_93 (by decide) (fun hc => ?_) (fun hc => ?_)
                  · replace h := p_t hc h
                    exact B118 a1 a2 a3 a4 a5 m _ _ _ (lv_sub hl [0, 1, 2, 3, 4, 5] rfl) hw h
                  · replace h := p_f hc h
                    refine lv_iload hx hb dX4_copy_96 (lv_at hl 4 rfl) ?_
                    refine lv_i2l hx hb dX4_copy_98 rfl ?_
                    refine lv_iload hx hb dX4_copy_99 (lv_at hl 5 rfl) ?_
                    refine lv_i2l hx hb dX4_copy_101 rfl ?_
                    refine lv_ladd hx hb dX4_copy_102 ?_
                    refine lv_aload_n hx hb dX4_copy_103 rfl (lv_at hl 0 rfl) ?_
                    refine w_get C hw (v := .ref (gq G 33)) (k := 20) (wk_model G x m) rfl it_4 (by decide) fl_X4_31 rfl dX4_copy_104 ?_
                    refine lv_iload_n hx hb dX4_copy_107 rfl (lv_at hl 3 rfl) ?_
                    obtain ⟨hq, h⟩ := p_if h
                    refine w_ald C hw (am_33 G x m).1 hq dX4_copy_108 ?_
                    refine lv_i2l hx hb dX4_copy_109 rfl ?_
                    refine W.lcmp hx hb dX4_copy_110 ?_
                    refine lv_if_gt (tgt := 118) hx hb dX4_copy_111 (by decide) (fun hc => ?_) (fun hc => ?_)
                    · replace h := p_t hc h
                      exact B118 a1 a2 a3 a4 a5 m _ _ _ (lv_sub hl [0, 1, 2, 3, 4, 5] rfl) hw h
                    · replace h := p_f hc h
                      refine lv_iconst (v := (1 : Int32)) hx hb dX4_copy_114 (by decide) ?_
                      refine lv_goto (tgt := 119) hx hb dX4_copy_115 (by decide) ?_
                      exact B119 a1 a2 a3 a4 a5 (1 : Int32) m _ _ _ (lv_sub hl [0, 1, 2, 3, 4, 5] rfl) hw h
          · replace h := p_f hc h
            refine lv_aload_n hx hb dX4_copy_59 rfl (lv_at hl 0 rfl) ?_
            refine lv_iconst (v := (2 : Int32)) hx hb dX4_copy_60 (by decide) ?_
            obtain ⟨⟨v2, z1⟩, hq, h⟩ := p_bd h
            dsimp only at h
            refine w_Vi C hw (As := [.int (2 : Int32)]) (rest := []) (c4_finds l G x m (2 : Int32) (v2, z1) hq) kv_X4_finds ml_X4_82 ⟨rfl, rfl⟩ ⟨Nat.le_of_ble_eq_true rfl, Nat.le_of_ble_eq_true rfl⟩ ⟨Nat.zero_le _, Nat.zero_le _⟩ (w_recv C hw (wk_model G x m) rfl) rfl rfl (Nat.le_of_ble_eq_true rfl) (lv_sub hl [] rfl) dX4_copy_61 (fun H locs hw => ?_)
            replace h := Option.some.inj h
            subst h
            exact w_iret C hw (v := v2) rfl rfl dX4_copy_64
        · replace h := p_t hc h
          exact B38 m _ _ _ (lv_sub hl [0] rfl) hw h
    · replace h := p_t hc h
      exact B14 m _ _ _ (lv_sub hl [0] rfl) hw h

def f4_load_L18   : Nat → Int32 → Int32 → St → Option (Int32 × St)
  | 0, _, _, _ => none
  | n + 1, b1, b3, m =>
    if b1 < 0 ∨ 4 ≤ b1.toNatClampNeg then none else
    if (m 33 b1.toNatClampNeg) ≤ b3 then
      some (b3, m)
    else
      if (16 : Int32) ≤ b3 then
        some (b3, m)
      else
        if (((40 : Int32) * b1) + b3) < 0 ∨ 160 ≤ (((40 : Int32) * b1) + b3).toNatClampNeg then none else
        if (f4_in ((m 34 (((40 : Int32) * b1) + b3).toNatClampNeg).toInt64) (0 : Int64) (99 : Int64)) = 0 then
          some (b3, m)
        else
          if (((40 : Int32) * b1) + b3) < 0 ∨ 160 ≤ (((40 : Int32) * b1) + b3).toNatClampNeg then none else
          (f4_builds b3 (0 : Int32) (m 34 (((40 : Int32) * b1) + b3).toNatClampNeg) m).bind fun z4 =>
          (f4_load_L18 n) b1 (b3 + (1 : Int32)) z4
theorem f4_load_L18_0   (b1 : Int32) (b3 : Int32) (m : St) : f4_load_L18  0 b1 b3 m = none := rfl
theorem f4_load_L18_s   (n : Nat) (b1 : Int32) (b3 : Int32) (m : St) : f4_load_L18  (n + 1) b1 b3 m =
    if b1 < 0 ∨ 4 ≤ b1.toNatClampNeg then none else
    if (m 33 b1.toNatClampNeg) ≤ b3 then
      some (b3, m)
    else
      if (16 : Int32) ≤ b3 then
        some (b3, m)
      else
        if (((40 : Int32) * b1) + b3) < 0 ∨ 160 ≤ (((40 : Int32) * b1) + b3).toNatClampNeg then none else
        if (f4_in ((m 34 (((40 : Int32) * b1) + b3).toNatClampNeg).toInt64) (0 : Int64) (99 : Int64)) = 0 then
          some (b3, m)
        else
          if (((40 : Int32) * b1) + b3) < 0 ∨ 160 ≤ (((40 : Int32) * b1) + b3).toNatClampNeg then none else
          (f4_builds b3 (0 : Int32) (m 34 (((40 : Int32) * b1) + b3).toNatClampNeg) m).bind fun z4 =>
          (f4_load_L18 n) b1 (b3 + (1 : Int32)) z4 := rfl
def f4_load  (a1 : Int32) (m : St) : Option (Int32 × St) :=
  (f4_lacks a1 m).bind fun v1 =>
  if v1 < 0 then
    f4_load_L18 fu a1 (0 : Int32) m
  else
    (f4_finds v1 m).bind fun q => match q with
    | (v3, z2) =>
      some (v3, z2)
set_option maxHeartbeats 4000000 in
set_option maxRecDepth 100000 in
theorem c4_load (l : Launch) (G : GT)  (x m : St) (a1 : Int32) (r : Int32 × St) (h : f4_load a1 m = some r) : Mt l yX4_load cX4_load 4 (some .int) (rmF 3 66) G x m [.ref (gq G 25), .int a1] (some (.int r.1)) x r.2 := by
  refine Mt.of (by decide) (Nat.le_of_ble_eq_true rfl) ?_
  intro p e s mm args below meth c C ls hl hw
  have hx := C.1
  have hb := C.2.1
  have hown := C.2.2.2.2.1
  replace hl : lv_has ls 4 [(0, .ref (gq G 25)), (1, .int a1)] := hl
  have L18 : ∀ (n18 : Nat) (b1 : Int32) (b3 : Int32) (m : St) (H : Heap) (locs : List Loc) (ls : Array Slot), lv_has ls 4 [(0, .ref (gq G 25)), (1, .int b1), (3, .int b3)] → Wd G s x m H locs → f4_load_L18 n18 b1 b3 m = some r → W p l e (rmF 3 66) s mm args below meth c H locs 0 0 (QE below G (some (.int r.1)) x r.2 args s) (F0 mm 18 ls []) := by
    intro n18
    induction n18 with
    | zero =>
      intro b1 b3 m H locs ls hl hw h
      rw [f4_load_L18_0] at h
      exact absurd h.symm (Option.some_ne_none _)
    | succ n18 ih18 =>
      intro b1 b3 m H locs ls hl hw h
      rw [f4_load_L18_s] at h
      refine lv_iload_n hx hb dX4_load_18 rfl (lv_at hl 2 rfl) ?_
      refine lv_aload_n hx hb dX4_load_19 rfl (lv_at hl 0 rfl) ?_
      refine w_get C hw (v := .ref (gq G 33)) (k := 20) (wk_model G x m) rfl it_4 (by decide) fl_X4_31 rfl dX4_load_20 ?_
      refine lv_iload_n hx hb dX4_load_23 rfl (lv_at hl 1 rfl) ?_
      obtain ⟨hq, h⟩ := p_if h
      refine w_ald C hw (am_33 G x m).1 hq dX4_load_24 ?_
      refine lv_icmp_ge (tgt := 79) hx hb dX4_load_25 (by decide) (fun hc => ?_) (fun hc => ?_)
      · replace h := p_t hc h
        refine lv_iload_n hx hb dX4_load_79 rfl (lv_at hl 2 rfl) ?_
        replace h := Option.some.inj h
        subst h
        exact w_iret C hw (v := b3) rfl rfl dX4_load_80
      · replace h := p_f hc h
        refine lv_iload_n hx hb dX4_load_28 rfl (lv_at hl 2 rfl) ?_
        refine lv_bipush (v := (16 : Int32)) hx hb dX4_load_29 (by decide) ?_
        refine lv_icmp_ge (tgt := 79) hx hb dX4_load_31 (by decide) (fun hc => ?_) (fun hc => ?_)
        · replace h := p_t hc h
          refine lv_iload_n hx hb dX4_load_79 rfl (lv_at hl 2 rfl) ?_
          replace h := Option.some.inj h
          subst h
          exact w_iret C hw (v := b3) rfl rfl dX4_load_80
        · replace h := p_f hc h
          refine lv_aload_n hx hb dX4_load_34 rfl (lv_at hl 0 rfl) ?_
          refine w_get C hw (v := .ref (gq G 34)) (k := 21) (wk_model G x m) rfl it_4 (by decide) fl_X4_34 rfl dX4_load_35 ?_
          refine lv_bipush (v := (40 : Int32)) hx hb dX4_load_38 (by decide) ?_
          refine lv_iload_n hx hb dX4_load_40 rfl (lv_at hl 1 rfl) ?_
          refine lv_imul hx hb dX4_load_41 ?_
          refine lv_iload_n hx hb dX4_load_42 rfl (lv_at hl 2 rfl) ?_
          refine lv_iadd hx hb dX4_load_43 ?_
          obtain ⟨hq, h⟩ := p_if h
          refine w_ald C hw (am_34 G x m).1 hq dX4_load_44 ?_
          refine lv_i2l hx hb dX4_load_45 rfl ?_
          refine lv_lconst (v := (0 : Int64)) hx hb dX4_load_46 (by decide) ?_
          refine lv_ldc2 hx hb hown (C.w kl_X4_365) dX4_load_47 ?_
          refine w_Si C hw (As := [.long ((m 34 (((40 : Int32) * b1) + b3).toNatClampNeg).toInt64), .long (0 : Int64), .long (99 : Int64)]) (rest := []) (c4_in l G x m ((m 34 (((40 : Int32) * b1) + b3).toNatClampNeg).toInt64) (0 : Int64) (99 : Int64) _ rfl) ks_X4_in ml_X4_57 ⟨rfl, rfl⟩ ⟨Nat.le_of_ble_eq_true rfl, Nat.le_of_ble_eq_true rfl⟩ ⟨Nat.zero_le _, Nat.zero_le _⟩ rfl rfl (Nat.le_of_ble_eq_true rfl) (lv_sub hl [] rfl) dX4_load_50 (fun H locs hw => ?_)
          refine lv_if_eq (tgt := 79) hx hb dX4_load_53 (by decide) (fun hc => ?_) (fun hc => ?_)
          · replace h := p_t hc h
            refine lv_iload_n hx hb dX4_load_79 rfl (lv_at hl 2 rfl) ?_
            replace h := Option.some.inj h
            subst h
            exact w_iret C hw (v := b3) rfl rfl dX4_load_80
          · replace h := p_f hc h
            refine lv_aload_n hx hb dX4_load_56 rfl (lv_at hl 0 rfl) ?_
            refine lv_iload_n hx hb dX4_load_57 rfl (lv_at hl 2 rfl) ?_
            refine lv_iconst (v := (0 : Int32)) hx hb dX4_load_58 (by decide) ?_
            refine lv_aload_n hx hb dX4_load_59 rfl (lv_at hl 0 rfl) ?_
            refine w_get C hw (v := .ref (gq G 34)) (k := 21) (wk_model G x m) rfl it_4 (by decide) fl_X4_34 rfl dX4_load_60 ?_
            refine lv_bipush (v := (40 : Int32)) hx hb dX4_load_63 (by decide) ?_
            refine lv_iload_n hx hb dX4_load_65 rfl (lv_at hl 1 rfl) ?_
            refine lv_imul hx hb dX4_load_66 ?_
            refine lv_iload_n hx hb dX4_load_67 rfl (lv_at hl 2 rfl) ?_
            refine lv_iadd hx hb dX4_load_68 ?_
            obtain ⟨hq, h⟩ := p_if h
            refine w_ald C hw (am_34 G x m).1 hq dX4_load_69 ?_
            obtain ⟨z4, hq, h⟩ := p_bd h
            refine w_Vv C hw (As := [.int b3, .int (0 : Int32), .int (m 34 (((40 : Int32) * b1) + b3).toNatClampNeg)]) (rest := []) (c4_builds l G x m b3 (0 : Int32) (m 34 (((40 : Int32) * b1) + b3).toNatClampNeg) z4 hq) kv_X4_builds ml_X4_40 ⟨rfl, rfl⟩ ⟨Nat.le_of_ble_eq_true rfl, Nat.le_of_ble_eq_true rfl⟩ ⟨Nat.zero_le _, Nat.zero_le _⟩ (w_recv C hw (wk_model G x m) rfl) rfl rfl (Nat.le_of_ble_eq_true rfl) (lv_sub hl [] rfl) dX4_load_70 (fun H locs hw => ?_)
            refine lv_iinc (v := (b3 + (1 : Int32))) (lv' := [(3, .int (b3 + (1 : Int32))), (0, .ref (gq G 25)), (1, .int b1)]) hx hb dX4_load_73 hl (k := 2) rfl rfl (by decide) rfl (fun ls hl => ?_)
            refine lv_goto (tgt := 18) hx hb dX4_load_76 (by decide) ?_
            exact ih18 b1 (b3 + (1 : Int32)) z4 _ _ _ (lv_sub hl [1, 2, 0] rfl) hw h
  unfold f4_load at h
  refine lv_aload_n hx hb dX4_load_0 rfl (lv_at hl 0 rfl) ?_
  refine lv_iload_n hx hb dX4_load_1 rfl (lv_at hl 1 rfl) ?_
  obtain ⟨v1, hq, h⟩ := p_bd h
  refine w_Vi C hw (As := [.int a1]) (rest := []) (c4_lacks l G x m a1 v1 hq) kv_X4_lacks ml_X4_240 ⟨rfl, rfl⟩ ⟨Nat.le_of_ble_eq_true rfl, Nat.le_of_ble_eq_true rfl⟩ ⟨Nat.zero_le _, Nat.zero_le _⟩ (w_recv C hw (wk_model G x m) rfl) rfl rfl (Nat.le_of_ble_eq_true rfl) (lv_sub hl [] rfl) dX4_load_2 (fun H locs hw => ?_)
  refine lv_istore_n (lv' := [(2, .int v1), (0, .ref (gq G 25)), (1, .int a1)]) hx hb dX4_load_5 rfl hl (by decide) rfl (fun ls hl => ?_)
  refine lv_iload_n hx hb dX4_load_6 rfl (lv_at hl 0 rfl) ?_
  refine lv_if_lt (tgt := 16) hx hb dX4_load_7 (by decide) (fun hc => ?_) (fun hc => ?_)
  · replace h := p_t hc h
    refine lv_iconst (v := (0 : Int32)) hx hb dX4_load_16 (by decide) ?_
    refine lv_istore_n (lv' := [(3, .int (0 : Int32)), (2, .int v1), (0, .ref (gq G 25)), (1, .int a1)]) hx hb dX4_load_17 rfl hl (by decide) rfl (fun ls hl => ?_)
    exact L18 fu a1 (0 : Int32) m _ _ _ (lv_sub hl [2, 3, 0] rfl) hw h
  · replace h := p_f hc h
    refine lv_aload_n hx hb dX4_load_10 rfl (lv_at hl 1 rfl) ?_
    refine lv_iload_n hx hb dX4_load_11 rfl (lv_at hl 0 rfl) ?_
    obtain ⟨⟨v3, z2⟩, hq, h⟩ := p_bd h
    dsimp only at h
    refine w_Vi C hw (As := [.int v1]) (rest := []) (c4_finds l G x m v1 (v3, z2) hq) kv_X4_finds ml_X4_82 ⟨rfl, rfl⟩ ⟨Nat.le_of_ble_eq_true rfl, Nat.le_of_ble_eq_true rfl⟩ ⟨Nat.zero_le _, Nat.zero_le _⟩ (w_recv C hw (wk_model G x m) rfl) rfl rfl (Nat.le_of_ble_eq_true rfl) (lv_sub hl [] rfl) dX4_load_12 (fun H locs hw => ?_)
    replace h := Option.some.inj h
    subst h
    exact w_iret C hw (v := v3) rfl rfl dX4_load_15

def f4_judge_b59   (b1 : Int32) (b3 : Int32) (m : St) : Option (Int32 × St) :=
  if b1 < 0 ∨ 4 ≤ b1.toNatClampNeg then none else
  if b3 = (m 33 b1.toNatClampNeg) then
    some ((0 : Int32), m)
  else
    some ((b3 + (1 : Int32)), m)
def f4_judge_L18   : Nat → Int32 → Int32 → St → Option (Int32 × St)
  | 0, _, _, _ => none
  | n + 1, b1, b3, m =>
    if b1 < 0 ∨ 4 ≤ b1.toNatClampNeg then none else
    if (m 33 b1.toNatClampNeg) ≤ b3 then
      f4_judge_b59 b1 b3 m
    else
      if (16 : Int32) ≤ b3 then
        f4_judge_b59 b1 b3 m
      else
        if (((40 : Int32) * b1) + b3) < 0 ∨ 160 ≤ (((40 : Int32) * b1) + b3).toNatClampNeg then none else
        (f4_loudAt b3 m).bind fun v4 =>
        if (m 34 (((40 : Int32) * b1) + b3).toNatClampNeg) = v4 then
          (f4_judge_L18 n) b1 (b3 + (1 : Int32)) m
        else
          f4_judge_b59 b1 b3 m
theorem f4_judge_L18_0   (b1 : Int32) (b3 : Int32) (m : St) : f4_judge_L18  0 b1 b3 m = none := rfl
theorem f4_judge_L18_s   (n : Nat) (b1 : Int32) (b3 : Int32) (m : St) : f4_judge_L18  (n + 1) b1 b3 m =
    if b1 < 0 ∨ 4 ≤ b1.toNatClampNeg then none else
    if (m 33 b1.toNatClampNeg) ≤ b3 then
      f4_judge_b59 b1 b3 m
    else
      if (16 : Int32) ≤ b3 then
        f4_judge_b59 b1 b3 m
      else
        if (((40 : Int32) * b1) + b3) < 0 ∨ 160 ≤ (((40 : Int32) * b1) + b3).toNatClampNeg then none else
        (f4_loudAt b3 m).bind fun v4 =>
        if (m 34 (((40 : Int32) * b1) + b3).toNatClampNeg) = v4 then
          (f4_judge_L18 n) b1 (b3 + (1 : Int32)) m
        else
          f4_judge_b59 b1 b3 m := rfl
def f4_judge  (a1 : Int32) (m : St) : Option (Int32 × St) :=
  (f4_lacks a1 m).bind fun v1 =>
  if v1 < 0 then
    f4_judge_L18 fu a1 (0 : Int32) m
  else
    (f4_finds v1 m).bind fun q => match q with
    | (v3, z2) =>
      some (v3, z2)
set_option maxHeartbeats 4000000 in
set_option maxRecDepth 100000 in
theorem c4_judge (l : Launch) (G : GT)  (x m : St) (a1 : Int32) (r : Int32 × St) (h : f4_judge a1 m = some r) : Mt l yX4_judge cX4_judge 4 (some .int) (rmF 3 66) G x m [.ref (gq G 25), .int a1] (some (.int r.1)) x r.2 := by
  refine Mt.of (by decide) (Nat.le_of_ble_eq_true rfl) ?_
  intro p e s mm args below meth c C ls hl hw
  have hx := C.1
  have hb := C.2.1
  have hown := C.2.2.2.2.1
  replace hl : lv_has ls 4 [(0, .ref (gq G 25)), (1, .int a1)] := hl
  have B59 : ∀ (b1 : Int32) (b3 : Int32) (m : St) (H : Heap) (locs : List Loc) (ls : Array Slot), lv_has ls 4 [(0, .ref (gq G 25)), (1, .int b1), (3, .int b3)] → Wd G s x m H locs → f4_judge_b59 b1 b3 m = some r → W p l e (rmF 3 66) s mm args below meth c H locs 0 0 (QE below G (some (.int r.1)) x r.2 args s) (F0 mm 59 ls []) := by
    intro b1 b3 m H locs ls hl hw h
    unfold f4_judge_b59 at h
    refine lv_iload_n hx hb dX4_judge_59 rfl (lv_at hl 2 rfl) ?_
    refine lv_aload_n hx hb dX4_judge_60 rfl (lv_at hl 0 rfl) ?_
    refine w_get C hw (v := .ref (gq G 33)) (k := 20) (wk_model G x m) rfl it_4 (by decide) fl_X4_31 rfl dX4_judge_61 ?_
    refine lv_iload_n hx hb dX4_judge_64 rfl (lv_at hl 1 rfl) ?_
    obtain ⟨hq, h⟩ := p_if h
    refine w_ald C hw (am_33 G x m).1 hq dX4_judge_65 ?_
    refine lv_icmp_ne (tgt := 73) hx hb dX4_judge_66 (by decide) (fun hc => ?_) (fun hc => ?_)
    · replace h := p_f hc h
      refine lv_iload_n hx hb dX4_judge_73 rfl (lv_at hl 2 rfl) ?_
      refine lv_iconst (v := (1 : Int32)) hx hb dX4_judge_74 (by decide) ?_
      refine lv_iadd hx hb dX4_judge_75 ?_
      replace h := Option.some.inj h
      subst h
      exact w_iret C hw (v := (b3 + (1 : Int32))) rfl rfl dX4_judge_76
    · replace h := p_t hc h
      refine lv_iconst (v := (0 : Int32)) hx hb dX4_judge_69 (by decide) ?_
      refine lv_goto (tgt := 76) hx hb dX4_judge_70 (by decide) ?_
      replace h := Option.some.inj h
      subst h
      exact w_iret C hw (v := (0 : Int32)) rfl rfl dX4_judge_76
  have L18 : ∀ (n18 : Nat) (b1 : Int32) (b3 : Int32) (m : St) (H : Heap) (locs : List Loc) (ls : Array Slot), lv_has ls 4 [(0, .ref (gq G 25)), (1, .int b1), (3, .int b3)] → Wd G s x m H locs → f4_judge_L18 n18 b1 b3 m = some r → W p l e (rmF 3 66) s mm args below meth c H locs 0 0 (QE below G (some (.int r.1)) x r.2 args s) (F0 mm 18 ls []) := by
    intro n18
    induction n18 with
    | zero =>
      intro b1 b3 m H locs ls hl hw h
      rw [f4_judge_L18_0] at h
      exact absurd h.symm (Option.some_ne_none _)
    | succ n18 ih18 =>
      intro b1 b3 m H locs ls hl hw h
      rw [f4_judge_L18_s] at h
      refine lv_iload_n hx hb dX4_judge_18 rfl (lv_at hl 2 rfl) ?_
      refine lv_aload_n hx hb dX4_judge_19 rfl (lv_at hl 0 rfl) ?_
      refine w_get C hw (v := .ref (gq G 33)) (k := 20) (wk_model G x m) rfl it_4 (by decide) fl_X4_31 rfl dX4_judge_20 ?_
      refine lv_iload_n hx hb dX4_judge_23 rfl (lv_at hl 1 rfl) ?_
      obtain ⟨hq, h⟩ := p_if h
      refine w_ald C hw (am_33 G x m).1 hq dX4_judge_24 ?_
      refine lv_icmp_ge (tgt := 59) hx hb dX4_judge_25 (by decide) (fun hc => ?_) (fun hc => ?_)
      · replace h := p_t hc h
        exact B59 b1 b3 m _ _ _ (lv_sub hl [0, 1, 2] rfl) hw h
      · replace h := p_f hc h
        refine lv_iload_n hx hb dX4_judge_28 rfl (lv_at hl 2 rfl) ?_
        refine lv_bipush (v := (16 : Int32)) hx hb dX4_judge_29 (by decide) ?_
        refine lv_icmp_ge (tgt := 59) hx hb dX4_judge_31 (by decide) (fun hc => ?_) (fun hc => ?_)
        · replace h := p_t hc h
          exact B59 b1 b3 m _ _ _ (lv_sub hl [0, 1, 2] rfl) hw h
        · replace h := p_f hc h
          refine lv_aload_n hx hb dX4_judge_34 rfl (lv_at hl 0 rfl) ?_
          refine w_get C hw (v := .ref (gq G 34)) (k := 21) (wk_model G x m) rfl it_4 (by decide) fl_X4_34 rfl dX4_judge_35 ?_
          refine lv_bipush (v := (40 : Int32)) hx hb dX4_judge_38 (by decide) ?_
          refine lv_iload_n hx hb dX4_judge_40 rfl (lv_at hl 1 rfl) ?_
          refine lv_imul hx hb dX4_judge_41 ?_
          refine lv_iload_n hx hb dX4_judge_42 rfl (lv_at hl 2 rfl) ?_
          refine lv_iadd hx hb dX4_judge_43 ?_
          obtain ⟨hq, h⟩ := p_if h
          refine w_ald C hw (am_34 G x m).1 hq dX4_judge_44 ?_
          refine lv_aload_n hx hb dX4_judge_45 rfl (lv_at hl 0 rfl) ?_
          refine lv_iload_n hx hb dX4_judge_46 rfl (lv_at hl 2 rfl) ?_
          obtain ⟨v4, hq, h⟩ := p_bd h
          refine w_Vi C hw (As := [.int b3]) (rest := [.int (m 34 (((40 : Int32) * b1) + b3).toNatClampNeg)]) (c4_loudAt l G x m b3 v4 hq) kv_X4_loudAt ml_X4_72 ⟨rfl, rfl⟩ ⟨Nat.le_of_ble_eq_true rfl, Nat.le_of_ble_eq_true rfl⟩ ⟨Nat.zero_le _, Nat.zero_le _⟩ (w_recv C hw (wk_model G x m) rfl) rfl rfl (Nat.le_of_ble_eq_true rfl) (lv_sub hl [] rfl) dX4_judge_47 (fun H locs hw => ?_)
          refine lv_icmp_ne (tgt := 59) hx hb dX4_judge_50 (by decide) (fun hc => ?_) (fun hc => ?_)
          · replace h := p_f hc h
            exact B59 b1 b3 m _ _ _ (lv_sub hl [0, 1, 2] rfl) hw h
          · replace h := p_t hc h
            refine lv_iinc (v := (b3 + (1 : Int32))) (lv' := [(3, .int (b3 + (1 : Int32))), (0, .ref (gq G 25)), (1, .int b1)]) hx hb dX4_judge_53 hl (k := 2) rfl rfl (by decide) rfl (fun ls hl => ?_)
            refine lv_goto (tgt := 18) hx hb dX4_judge_56 (by decide) ?_
            exact ih18 b1 (b3 + (1 : Int32)) m _ _ _ (lv_sub hl [1, 2, 0] rfl) hw h
  unfold f4_judge at h
  refine lv_aload_n hx hb dX4_judge_0 rfl (lv_at hl 0 rfl) ?_
  refine lv_iload_n hx hb dX4_judge_1 rfl (lv_at hl 1 rfl) ?_
  obtain ⟨v1, hq, h⟩ := p_bd h
  refine w_Vi C hw (As := [.int a1]) (rest := []) (c4_lacks l G x m a1 v1 hq) kv_X4_lacks ml_X4_240 ⟨rfl, rfl⟩ ⟨Nat.le_of_ble_eq_true rfl, Nat.le_of_ble_eq_true rfl⟩ ⟨Nat.zero_le _, Nat.zero_le _⟩ (w_recv C hw (wk_model G x m) rfl) rfl rfl (Nat.le_of_ble_eq_true rfl) (lv_sub hl [] rfl) dX4_judge_2 (fun H locs hw => ?_)
  refine lv_istore_n (lv' := [(2, .int v1), (0, .ref (gq G 25)), (1, .int a1)]) hx hb dX4_judge_5 rfl hl (by decide) rfl (fun ls hl => ?_)
  refine lv_iload_n hx hb dX4_judge_6 rfl (lv_at hl 0 rfl) ?_
  refine lv_if_lt (tgt := 16) hx hb dX4_judge_7 (by decide) (fun hc => ?_) (fun hc => ?_)
  · replace h := p_t hc h
    refine lv_iconst (v := (0 : Int32)) hx hb dX4_judge_16 (by decide) ?_
    refine lv_istore_n (lv' := [(3, .int (0 : Int32)), (2, .int v1), (0, .ref (gq G 25)), (1, .int a1)]) hx hb dX4_judge_17 rfl hl (by decide) rfl (fun ls hl => ?_)
    exact L18 fu a1 (0 : Int32) m _ _ _ (lv_sub hl [2, 3, 0] rfl) hw h
  · replace h := p_f hc h
    refine lv_aload_n hx hb dX4_judge_10 rfl (lv_at hl 1 rfl) ?_
    refine lv_iload_n hx hb dX4_judge_11 rfl (lv_at hl 0 rfl) ?_
    obtain ⟨⟨v3, z2⟩, hq, h⟩ := p_bd h
    dsimp only at h
    refine w_Vi C hw (As := [.int v1]) (rest := []) (c4_finds l G x m v1 (v3, z2) hq) kv_X4_finds ml_X4_82 ⟨rfl, rfl⟩ ⟨Nat.le_of_ble_eq_true rfl, Nat.le_of_ble_eq_true rfl⟩ ⟨Nat.zero_le _, Nat.zero_le _⟩ (w_recv C hw (wk_model G x m) rfl) rfl rfl (Nat.le_of_ble_eq_true rfl) (lv_sub hl [] rfl) dX4_judge_12 (fun H locs hw => ?_)
    replace h := Option.some.inj h
    subst h
    exact w_iret C hw (v := v3) rfl rfl dX4_judge_15

def f4_image   (m : St) : Option (Int32 × St) :=
  (f4_become 26 119 27 119 m).bind fun z1 =>
  some ((1 : Int32), (up z1 25 3 (1 : Int32)))
set_option maxHeartbeats 4000000 in
set_option maxRecDepth 100000 in
theorem c4_image (l : Launch) (G : GT)  (x m : St)  (r : Int32 × St) (h : f4_image m = some r) : Mt l yX4_image cX4_image 1 (some .int) (rmF 1 22) G x m [.ref (gq G 25)] (some (.int r.1)) x r.2 := by
  refine Mt.of (by decide) (Nat.le_of_ble_eq_true rfl) ?_
  intro p e s mm args below meth c C ls hl hw
  have hx := C.1
  have hb := C.2.1
  have hown := C.2.2.2.2.1
  replace hl : lv_has ls 1 [(0, .ref (gq G 25))] := hl
  unfold f4_image at h
  refine lv_aload_n hx hb dX4_image_0 rfl (lv_at hl 0 rfl) ?_
  refine w_get C hw (v := .ref (gq G 26)) (k := 0) (wk_model G x m) rfl it_4 (by decide) fl_X4_9 rfl dX4_image_1 ?_
  refine lv_aload_n hx hb dX4_image_4 rfl (lv_at hl 0 rfl) ?_
  refine w_get C hw (v := .ref (gq G 27)) (k := 1) (wk_model G x m) rfl it_4 (by decide) fl_X4_13 rfl dX4_image_5 ?_
  obtain ⟨z1, hq, h⟩ := p_bd h
  refine w_Sv C hw (As := [.ref (gq G 26), .ref (gq G 27)]) (rest := []) (c4_become l G 26 119 am_26 27 119 am_27 x m z1 hq) ks_X4_become ml_X4_51 ⟨rfl, rfl⟩ ⟨Nat.le_of_ble_eq_true rfl, Nat.le_of_ble_eq_true rfl⟩ ⟨Nat.zero_le _, Nat.zero_le _⟩ rfl rfl (Nat.le_of_ble_eq_true rfl) (lv_sub hl [] rfl) dX4_image_8 (fun H locs hw => ?_)
  refine lv_aload_n hx hb dX4_image_11 rfl (lv_at hl 0 rfl) ?_
  refine lv_iconst (v := (1 : Int32)) hx hb dX4_image_12 (by decide) ?_
  refine w_put C hw (k := 3) tyX4 tyX4_ok nmX4 (wk_model G x z1) rfl it_4 (by decide) fl_X4_367 rfl (ty := .boolean) rfl rfl rfl (Nat.le_of_ble_eq_true rfl) (ws_model_3 G x z1 _) dX4_image_13 (fun H locs hw => ?_)
  refine lv_iconst (v := (1 : Int32)) hx hb dX4_image_16 (by decide) ?_
  replace h := Option.some.inj h
  subst h
  exact w_iret C hw (v := (1 : Int32)) rfl rfl dX4_image_17

def f4_undo   (m : St) : Option (Int32 × St) :=
  if (m 25 3) = 0 then
    (f4_finds (3 : Int32) m).bind fun q => match q with
    | (v3, z2) =>
      some (v3, z2)
  else
    (f4_become 27 119 26 119 m).bind fun z1 =>
    if (0 : Int32) < 0 ∨ 119 ≤ (0 : Int32).toNatClampNeg then none else
    some ((z1 26 (0 : Int32).toNatClampNeg), z1)
set_option maxHeartbeats 4000000 in
set_option maxRecDepth 100000 in
theorem c4_undo (l : Launch) (G : GT)  (x m : St)  (r : Int32 × St) (h : f4_undo m = some r) : Mt l yX4_undo cX4_undo 1 (some .int) (rmF 1 22) G x m [.ref (gq G 25)] (some (.int r.1)) x r.2 := by
  refine Mt.of (by decide) (Nat.le_of_ble_eq_true rfl) ?_
  intro p e s mm args below meth c C ls hl hw
  have hx := C.1
  have hb := C.2.1
  have hown := C.2.2.2.2.1
  replace hl : lv_has ls 1 [(0, .ref (gq G 25))] := hl
  unfold f4_undo at h
  refine lv_aload_n hx hb dX4_undo_0 rfl (lv_at hl 0 rfl) ?_
  refine w_get C hw (v := .int (m 25 3)) (k := 3) (wk_model G x m) rfl it_4 (by decide) fl_X4_367 rfl dX4_undo_1 ?_
  refine lv_if_ne (tgt := 13) hx hb dX4_undo_4 (by decide) (fun hc => ?_) (fun hc => ?_)
  · replace h := p_f hc h
    refine lv_aload_n hx hb dX4_undo_13 rfl (lv_at hl 0 rfl) ?_
    refine w_get C hw (v := .ref (gq G 27)) (k := 1) (wk_model G x m) rfl it_4 (by decide) fl_X4_13 rfl dX4_undo_14 ?_
    refine lv_aload_n hx hb dX4_undo_17 rfl (lv_at hl 0 rfl) ?_
    refine w_get C hw (v := .ref (gq G 26)) (k := 0) (wk_model G x m) rfl it_4 (by decide) fl_X4_9 rfl dX4_undo_18 ?_
    obtain ⟨z1, hq, h⟩ := p_bd h
    refine w_Sv C hw (As := [.ref (gq G 27), .ref (gq G 26)]) (rest := []) (c4_become l G 27 119 am_27 26 119 am_26 x m z1 hq) ks_X4_become ml_X4_51 ⟨rfl, rfl⟩ ⟨Nat.le_of_ble_eq_true rfl, Nat.le_of_ble_eq_true rfl⟩ ⟨Nat.zero_le _, Nat.zero_le _⟩ rfl rfl (Nat.le_of_ble_eq_true rfl) (lv_sub hl [] rfl) dX4_undo_21 (fun H locs hw => ?_)
    refine lv_aload_n hx hb dX4_undo_24 rfl (lv_at hl 0 rfl) ?_
    refine w_get C hw (v := .ref (gq G 26)) (k := 0) (wk_model G x z1) rfl it_4 (by decide) fl_X4_9 rfl dX4_undo_25 ?_
    refine lv_iconst (v := (0 : Int32)) hx hb dX4_undo_28 (by decide) ?_
    obtain ⟨hq, h⟩ := p_if h
    refine w_ald C hw (am_26 G x z1).1 hq dX4_undo_29 ?_
    replace h := Option.some.inj h
    subst h
    exact w_iret C hw (v := (z1 26 (0 : Int32).toNatClampNeg)) rfl rfl dX4_undo_30
  · replace h := p_t hc h
    refine lv_aload_n hx hb dX4_undo_7 rfl (lv_at hl 0 rfl) ?_
    refine lv_iconst (v := (3 : Int32)) hx hb dX4_undo_8 (by decide) ?_
    obtain ⟨⟨v3, z2⟩, hq, h⟩ := p_bd h
    dsimp only at h
    refine w_Vi C hw (As := [.int (3 : Int32)]) (rest := []) (c4_finds l G x m (3 : Int32) (v3, z2) hq) kv_X4_finds ml_X4_82 ⟨rfl, rfl⟩ ⟨Nat.le_of_ble_eq_true rfl, Nat.le_of_ble_eq_true rfl⟩ ⟨Nat.zero_le _, Nat.zero_le _⟩ (w_recv C hw (wk_model G x m) rfl) rfl rfl (Nat.le_of_ble_eq_true rfl) (lv_sub hl [] rfl) dX4_undo_9 (fun H locs hw => ?_)
    replace h := Option.some.inj h
    subst h
    exact w_iret C hw (v := v3) rfl rfl dX4_undo_12

def f4_tear_b12   (w0 : Int32) (m : St) : Int32 × St :=
  (w0, (up m 25 3 (0 : Int32)))
def f4_tear   (m : St) : Int32 × St :=
  if (m 25 3) = 0 then
    f4_tear_b12 (0 : Int32) m
  else
    f4_tear_b12 (1 : Int32) m
set_option maxHeartbeats 4000000 in
set_option maxRecDepth 100000 in
theorem c4_tear (l : Launch) (G : GT)  (x m : St)  (r : Int32 × St) (h : f4_tear m = r) : Mt l yX4_tear cX4_tear 2 (some .int) (rmF 0 0) G x m [.ref (gq G 25)] (some (.int r.1)) x r.2 := by
  refine Mt.of (by decide) (Nat.le_of_ble_eq_true rfl) ?_
  intro p e s mm args below meth c C ls hl hw
  have hx := C.1
  have hb := C.2.1
  have hown := C.2.2.2.2.1
  replace hl : lv_has ls 2 [(0, .ref (gq G 25))] := hl
  have B12 : ∀ (w0 : Int32) (m : St) (H : Heap) (locs : List Loc) (ls : Array Slot), lv_has ls 2 [(0, .ref (gq G 25))] → Wd G s x m H locs → f4_tear_b12 w0 m = r → W p l e (rmF 0 0) s mm args below meth c H locs 0 0 (QE below G (some (.int r.1)) x r.2 args s) (F0 mm 12 ls [.int w0]) := by
    intro w0 m H locs ls hl hw h
    unfold f4_tear_b12 at h
    refine lv_istore_n (lv' := [(1, .int w0), (0, .ref (gq G 25))]) hx hb dX4_tear_12 rfl hl (by decide) rfl (fun ls hl => ?_)
    refine lv_aload_n hx hb dX4_tear_13 rfl (lv_at hl 1 rfl) ?_
    refine lv_iconst (v := (0 : Int32)) hx hb dX4_tear_14 (by decide) ?_
    refine w_put C hw (k := 3) tyX4 tyX4_ok nmX4 (wk_model G x m) rfl it_4 (by decide) fl_X4_367 rfl (ty := .boolean) rfl rfl rfl (Nat.le_of_ble_eq_true rfl) (ws_model_3 G x m _) dX4_tear_15 (fun H locs hw => ?_)
    refine lv_iload_n hx hb dX4_tear_18 rfl (lv_at hl 0 rfl) ?_
    subst h
    exact w_iret C hw (v := w0) rfl rfl dX4_tear_19
  unfold f4_tear at h
  refine lv_aload_n hx hb dX4_tear_0 rfl (lv_at hl 0 rfl) ?_
  refine w_get C hw (v := .int (m 25 3)) (k := 3) (wk_model G x m) rfl it_4 (by decide) fl_X4_367 rfl dX4_tear_1 ?_
  refine lv_if_eq (tgt := 11) hx hb dX4_tear_4 (by decide) (fun hc => ?_) (fun hc => ?_)
  · replace h := p_t hc h
    refine lv_iconst (v := (0 : Int32)) hx hb dX4_tear_11 (by decide) ?_
    exact B12 (0 : Int32) m _ _ _ (lv_sub hl [0] rfl) hw h
  · replace h := p_f hc h
    refine lv_iconst (v := (1 : Int32)) hx hb dX4_tear_7 (by decide) ?_
    refine lv_goto (tgt := 12) hx hb dX4_tear_8 (by decide) ?_
    exact B12 (1 : Int32) m _ _ _ (lv_sub hl [0] rfl) hw h

def f4_atHarbour_b31  (k4 : Int32 → Int32 → St → Option (Int32)) (b2 : Int32) (w0 : Int32) (w1 : Int32) (m : St) : Option (Int32) :=
  k4 (w0 + w1) (b2 + (1 : Int32)) m
def f4_atHarbour_L4   : Nat → Int32 → Int32 → St → Option (Int32)
  | 0, _, _, _ => none
  | n + 1, b1, b2, m =>
    if (1 : Int32) < 0 ∨ 119 ≤ (1 : Int32).toNatClampNeg then none else
    if (m 26 (1 : Int32).toNatClampNeg) ≤ b2 then
      some b1
    else
      (f4_its b2 (1 : Int32) m).bind fun v1 =>
      if v1 = (15 : Int32) then
        f4_atHarbour_b31 (f4_atHarbour_L4 n) b2 b1 (1 : Int32) m
      else
        f4_atHarbour_b31 (f4_atHarbour_L4 n) b2 b1 (0 : Int32) m
theorem f4_atHarbour_L4_0   (b1 : Int32) (b2 : Int32) (m : St) : f4_atHarbour_L4  0 b1 b2 m = none := rfl
theorem f4_atHarbour_L4_s   (n : Nat) (b1 : Int32) (b2 : Int32) (m : St) : f4_atHarbour_L4  (n + 1) b1 b2 m =
    if (1 : Int32) < 0 ∨ 119 ≤ (1 : Int32).toNatClampNeg then none else
    if (m 26 (1 : Int32).toNatClampNeg) ≤ b2 then
      some b1
    else
      (f4_its b2 (1 : Int32) m).bind fun v1 =>
      if v1 = (15 : Int32) then
        f4_atHarbour_b31 (f4_atHarbour_L4 n) b2 b1 (1 : Int32) m
      else
        f4_atHarbour_b31 (f4_atHarbour_L4 n) b2 b1 (0 : Int32) m := rfl
def f4_atHarbour   (m : St) : Option (Int32) :=
  f4_atHarbour_L4 fu (0 : Int32) (0 : Int32) m
set_option maxHeartbeats 4000000 in
set_option maxRecDepth 100000 in
theorem c4_atHarbour (l : Launch) (G : GT)  (x m : St)  (r : Int32) (h : f4_atHarbour m = some r) : Mt l yX4_atHarbour cX4_atHarbour 3 (some .int) (rmF 1 22) G x m [.ref (gq G 25)] (some (.int r)) x m := by
  refine Mt.of (by decide) (Nat.le_of_ble_eq_true rfl) ?_
  intro p e s mm args below meth c C ls hl hw
  have hx := C.1
  have hb := C.2.1
  have hown := C.2.2.2.2.1
  replace hl : lv_has ls 3 [(0, .ref (gq G 25))] := hl
  have L4 : ∀ (n4 : Nat) (b1 : Int32) (b2 : Int32) (H : Heap) (locs : List Loc) (ls : Array Slot), lv_has ls 3 [(0, .ref (gq G 25)), (1, .int b1), (2, .int b2)] → Wd G s x m H locs → f4_atHarbour_L4 n4 b1 b2 m = some r → W p l e (rmF 1 22) s mm args below meth c H locs 0 0 (QE below G (some (.int r)) x m args s) (F0 mm 4 ls []) := by
    intro n4
    induction n4 with
    | zero =>
      intro b1 b2  H locs ls hl hw h
      rw [f4_atHarbour_L4_0] at h
      exact absurd h.symm (Option.some_ne_none _)
    | succ n4 ih4 =>
      have B31 : ∀ (b2 : Int32) (w0 : Int32) (w1 : Int32) (H : Heap) (locs : List Loc) (ls : Array Slot), lv_has ls 3 [(0, .ref (gq G 25)), (2, .int b2)] → Wd G s x m H locs → f4_atHarbour_b31 (f4_atHarbour_L4 n4) b2 w0 w1 m = some r → W p l e (rmF 1 22) s mm args below meth c H locs 0 0 (QE below G (some (.int r)) x m args s) (F0 mm 31 ls [.int w1, .int w0]) := by
        intro b2 w0 w1  H locs ls hl hw h
        unfold f4_atHarbour_b31 at h
        refine lv_iadd hx hb dX4_atHarbour_31 ?_
        refine lv_istore_n (lv' := [(1, .int (w0 + w1)), (0, .ref (gq G 25)), (2, .int b2)]) hx hb dX4_atHarbour_32 rfl hl (by decide) rfl (fun ls hl => ?_)
        refine lv_iinc (v := (b2 + (1 : Int32))) (lv' := [(2, .int (b2 + (1 : Int32))), (1, .int (w0 + w1)), (0, .ref (gq G 25))]) hx hb dX4_atHarbour_33 hl (k := 2) rfl rfl (by decide) rfl (fun ls hl => ?_)
        refine lv_goto (tgt := 4) hx hb dX4_atHarbour_36 (by decide) ?_
        exact ih4 (w0 + w1) (b2 + (1 : Int32)) _ _ _ (lv_sub hl [2, 1, 0] rfl) hw h
      intro b1 b2  H locs ls hl hw h
      rw [f4_atHarbour_L4_s] at h
      refine lv_iload_n hx hb dX4_atHarbour_4 rfl (lv_at hl 2 rfl) ?_
      refine lv_aload_n hx hb dX4_atHarbour_5 rfl (lv_at hl 0 rfl) ?_
      refine w_get C hw (v := .ref (gq G 26)) (k := 0) (wk_model G x m) rfl it_4 (by decide) fl_X4_9 rfl dX4_atHarbour_6 ?_
      refine lv_iconst (v := (1 : Int32)) hx hb dX4_atHarbour_9 (by decide) ?_
      obtain ⟨hq, h⟩ := p_if h
      refine w_ald C hw (am_26 G x m).1 hq dX4_atHarbour_10 ?_
      refine lv_icmp_ge (tgt := 39) hx hb dX4_atHarbour_11 (by decide) (fun hc => ?_) (fun hc => ?_)
      · replace h := p_t hc h
        refine lv_iload_n hx hb dX4_atHarbour_39 rfl (lv_at hl 1 rfl) ?_
        replace h := Option.some.inj h
        subst h
        exact w_iret C hw (v := b1) rfl rfl dX4_atHarbour_40
      · replace h := p_f hc h
        refine lv_iload_n hx hb dX4_atHarbour_14 rfl (lv_at hl 1 rfl) ?_
        refine lv_aload_n hx hb dX4_atHarbour_15 rfl (lv_at hl 0 rfl) ?_
        refine lv_iload_n hx hb dX4_atHarbour_16 rfl (lv_at hl 2 rfl) ?_
        refine lv_iconst (v := (1 : Int32)) hx hb dX4_atHarbour_17 (by decide) ?_
        obtain ⟨v1, hq, h⟩ := p_bd h
        refine w_Vi C hw (As := [.int b2, .int (1 : Int32)]) (rest := [.int b1]) (c4_its l G x m b2 (1 : Int32) v1 hq) kv_X4_its ml_X4_69 ⟨rfl, rfl⟩ ⟨Nat.le_of_ble_eq_true rfl, Nat.le_of_ble_eq_true rfl⟩ ⟨Nat.zero_le _, Nat.zero_le _⟩ (w_recv C hw (wk_model G x m) rfl) rfl rfl (Nat.le_of_ble_eq_true rfl) (lv_sub hl [] rfl) dX4_atHarbour_18 (fun H locs hw => ?_)
        refine lv_bipush (v := (15 : Int32)) hx hb dX4_atHarbour_21 (by decide) ?_
        refine lv_icmp_ne (tgt := 30) hx hb dX4_atHarbour_23 (by decide) (fun hc => ?_) (fun hc => ?_)
        · replace h := p_f hc h
          refine lv_iconst (v := (0 : Int32)) hx hb dX4_atHarbour_30 (by decide) ?_
          exact B31 b2 b1 (0 : Int32) _ _ _ (lv_sub hl [0, 2] rfl) hw h
        · replace h := p_t hc h
          refine lv_iconst (v := (1 : Int32)) hx hb dX4_atHarbour_26 (by decide) ?_
          refine lv_goto (tgt := 31) hx hb dX4_atHarbour_27 (by decide) ?_
          exact B31 b2 b1 (1 : Int32) _ _ _ (lv_sub hl [0, 2] rfl) hw h
  unfold f4_atHarbour at h
  refine lv_iconst (v := (0 : Int32)) hx hb dX4_atHarbour_0 (by decide) ?_
  refine lv_istore_n (lv' := [(1, .int (0 : Int32)), (0, .ref (gq G 25))]) hx hb dX4_atHarbour_1 rfl hl (by decide) rfl (fun ls hl => ?_)
  refine lv_iconst (v := (0 : Int32)) hx hb dX4_atHarbour_2 (by decide) ?_
  refine lv_istore_n (lv' := [(2, .int (0 : Int32)), (1, .int (0 : Int32)), (0, .ref (gq G 25))]) hx hb dX4_atHarbour_3 rfl hl (by decide) rfl (fun ls hl => ?_)
  exact L4 fu (0 : Int32) (0 : Int32) _ _ _ (lv_sub hl [2, 1, 0] rfl) hw h

def f4_allSand_L4   : Nat → Int32 → Int32 → St → Option (Int32)
  | 0, _, _, _ => none
  | n + 1, b1, b2, m =>
    if (16 : Int32) ≤ b2 then
      some b1
    else
      (f4_part b2 (2 : Int32) m).bind fun v1 =>
      (f4_allSand_L4 n) (b1 + v1) (b2 + (1 : Int32)) m
theorem f4_allSand_L4_0   (b1 : Int32) (b2 : Int32) (m : St) : f4_allSand_L4  0 b1 b2 m = none := rfl
theorem f4_allSand_L4_s   (n : Nat) (b1 : Int32) (b2 : Int32) (m : St) : f4_allSand_L4  (n + 1) b1 b2 m =
    if (16 : Int32) ≤ b2 then
      some b1
    else
      (f4_part b2 (2 : Int32) m).bind fun v1 =>
      (f4_allSand_L4 n) (b1 + v1) (b2 + (1 : Int32)) m := rfl
def f4_allSand   (m : St) : Option (Int32) :=
  f4_allSand_L4 fu (0 : Int32) (0 : Int32) m
set_option maxHeartbeats 4000000 in
set_option maxRecDepth 100000 in
theorem c4_allSand (l : Launch) (G : GT)  (x m : St)  (r : Int32) (h : f4_allSand m = some r) : Mt l yX4_allSand cX4_allSand 3 (some .int) (rmF 1 22) G x m [.ref (gq G 25)] (some (.int r)) x m := by
  refine Mt.of (by decide) (Nat.le_of_ble_eq_true rfl) ?_
  intro p e s mm args below meth c C ls hl hw
  have hx := C.1
  have hb := C.2.1
  have hown := C.2.2.2.2.1
  replace hl : lv_has ls 3 [(0, .ref (gq G 25))] := hl
  have L4 : ∀ (n4 : Nat) (b1 : Int32) (b2 : Int32) (H : Heap) (locs : List Loc) (ls : Array Slot), lv_has ls 3 [(0, .ref (gq G 25)), (1, .int b1), (2, .int b2)] → Wd G s x m H locs → f4_allSand_L4 n4 b1 b2 m = some r → W p l e (rmF 1 22) s mm args below meth c H locs 0 0 (QE below G (some (.int r)) x m args s) (F0 mm 4 ls []) := by
    intro n4
    induction n4 with
    | zero =>
      intro b1 b2  H locs ls hl hw h
      rw [f4_allSand_L4_0] at h
      exact absurd h.symm (Option.some_ne_none _)
    | succ n4 ih4 =>
      intro b1 b2  H locs ls hl hw h
      rw [f4_allSand_L4_s] at h
      refine lv_iload_n hx hb dX4_allSand_4 rfl (lv_at hl 2 rfl) ?_
      refine lv_bipush (v := (16 : Int32)) hx hb dX4_allSand_5 (by decide) ?_
      refine lv_icmp_ge (tgt := 25) hx hb dX4_allSand_7 (by decide) (fun hc => ?_) (fun hc => ?_)
      · replace h := p_t hc h
        refine lv_iload_n hx hb dX4_allSand_25 rfl (lv_at hl 1 rfl) ?_
        replace h := Option.some.inj h
        subst h
        exact w_iret C hw (v := b1) rfl rfl dX4_allSand_26
      · replace h := p_f hc h
        refine lv_iload_n hx hb dX4_allSand_10 rfl (lv_at hl 1 rfl) ?_
        refine lv_aload_n hx hb dX4_allSand_11 rfl (lv_at hl 0 rfl) ?_
        refine lv_iload_n hx hb dX4_allSand_12 rfl (lv_at hl 2 rfl) ?_
        refine lv_iconst (v := (2 : Int32)) hx hb dX4_allSand_13 (by decide) ?_
        obtain ⟨v1, hq, h⟩ := p_bd h
        refine w_Vi C hw (As := [.int b2, .int (2 : Int32)]) (rest := [.int b1]) (c4_part l G x m b2 (2 : Int32) v1 hq) kv_X4_part ml_X4_63 ⟨rfl, rfl⟩ ⟨Nat.le_of_ble_eq_true rfl, Nat.le_of_ble_eq_true rfl⟩ ⟨Nat.zero_le _, Nat.zero_le _⟩ (w_recv C hw (wk_model G x m) rfl) rfl rfl (Nat.le_of_ble_eq_true rfl) (lv_sub hl [] rfl) dX4_allSand_14 (fun H locs hw => ?_)
        refine lv_iadd hx hb dX4_allSand_17 ?_
        refine lv_istore_n (lv' := [(1, .int (b1 + v1)), (0, .ref (gq G 25)), (2, .int b2)]) hx hb dX4_allSand_18 rfl hl (by decide) rfl (fun ls hl => ?_)
        refine lv_iinc (v := (b2 + (1 : Int32))) (lv' := [(2, .int (b2 + (1 : Int32))), (1, .int (b1 + v1)), (0, .ref (gq G 25))]) hx hb dX4_allSand_19 hl (k := 2) rfl rfl (by decide) rfl (fun ls hl => ?_)
        refine lv_goto (tgt := 4) hx hb dX4_allSand_22 (by decide) ?_
        exact ih4 (b1 + v1) (b2 + (1 : Int32)) _ _ _ (lv_sub hl [2, 1, 0] rfl) hw h
  unfold f4_allSand at h
  refine lv_iconst (v := (0 : Int32)) hx hb dX4_allSand_0 (by decide) ?_
  refine lv_istore_n (lv' := [(1, .int (0 : Int32)), (0, .ref (gq G 25))]) hx hb dX4_allSand_1 rfl hl (by decide) rfl (fun ls hl => ?_)
  refine lv_iconst (v := (0 : Int32)) hx hb dX4_allSand_2 (by decide) ?_
  refine lv_istore_n (lv' := [(2, .int (0 : Int32)), (1, .int (0 : Int32)), (0, .ref (gq G 25))]) hx hb dX4_allSand_3 rfl hl (by decide) rfl (fun ls hl => ?_)
  exact L4 fu (0 : Int32) (0 : Int32) _ _ _ (lv_sub hl [2, 1, 0] rfl) hw h

def f4_held_b28  (k4 : Int32 → Int32 → St → Option (Int32)) (b2 : Int32) (w0 : Int32) (w1 : Int32) (m : St) : Option (Int32) :=
  k4 (w0 + w1) (b2 + (1 : Int32)) m
def f4_held_L4   : Nat → Int32 → Int32 → St → Option (Int32)
  | 0, _, _, _ => none
  | n + 1, b1, b2, m =>
    if (10 : Int32) ≤ b2 then
      some b1
    else
      if ((109 : Int32) + b2) < 0 ∨ 119 ≤ ((109 : Int32) + b2).toNatClampNeg then none else
      if 0 ≤ (m 26 ((109 : Int32) + b2).toNatClampNeg) then
        f4_held_b28 (f4_held_L4 n) b2 b1 (1 : Int32) m
      else
        f4_held_b28 (f4_held_L4 n) b2 b1 (0 : Int32) m
theorem f4_held_L4_0   (b1 : Int32) (b2 : Int32) (m : St) : f4_held_L4  0 b1 b2 m = none := rfl
theorem f4_held_L4_s   (n : Nat) (b1 : Int32) (b2 : Int32) (m : St) : f4_held_L4  (n + 1) b1 b2 m =
    if (10 : Int32) ≤ b2 then
      some b1
    else
      if ((109 : Int32) + b2) < 0 ∨ 119 ≤ ((109 : Int32) + b2).toNatClampNeg then none else
      if 0 ≤ (m 26 ((109 : Int32) + b2).toNatClampNeg) then
        f4_held_b28 (f4_held_L4 n) b2 b1 (1 : Int32) m
      else
        f4_held_b28 (f4_held_L4 n) b2 b1 (0 : Int32) m := rfl
def f4_held   (m : St) : Option (Int32) :=
  f4_held_L4 fu (0 : Int32) (0 : Int32) m
set_option maxHeartbeats 4000000 in
set_option maxRecDepth 100000 in
theorem c4_held (l : Launch) (G : GT)  (x m : St)  (r : Int32) (h : f4_held m = some r) : Mt l yX4_held cX4_held 3 (some .int) (rmF 0 0) G x m [.ref (gq G 25)] (some (.int r)) x m := by
  refine Mt.of (by decide) (Nat.le_of_ble_eq_true rfl) ?_
  intro p e s mm args below meth c C ls hl hw
  have hx := C.1
  have hb := C.2.1
  have hown := C.2.2.2.2.1
  replace hl : lv_has ls 3 [(0, .ref (gq G 25))] := hl
  have L4 : ∀ (n4 : Nat) (b1 : Int32) (b2 : Int32) (H : Heap) (locs : List Loc) (ls : Array Slot), lv_has ls 3 [(0, .ref (gq G 25)), (1, .int b1), (2, .int b2)] → Wd G s x m H locs → f4_held_L4 n4 b1 b2 m = some r → W p l e (rmF 0 0) s mm args below meth c H locs 0 0 (QE below G (some (.int r)) x m args s) (F0 mm 4 ls []) := by
    intro n4
    induction n4 with
    | zero =>
      intro b1 b2  H locs ls hl hw h
      rw [f4_held_L4_0] at h
      exact absurd h.symm (Option.some_ne_none _)
    | succ n4 ih4 =>
      have B28 : ∀ (b2 : Int32) (w0 : Int32) (w1 : Int32) (H : Heap) (locs : List Loc) (ls : Array Slot), lv_has ls 3 [(0, .ref (gq G 25)), (2, .int b2)] → Wd G s x m H locs → f4_held_b28 (f4_held_L4 n4) b2 w0 w1 m = some r → W p l e (rmF 0 0) s mm args below meth c H locs 0 0 (QE below G (some (.int r)) x m args s) (F0 mm 28 ls [.int w1, .int w0]) := by
        intro b2 w0 w1  H locs ls hl hw h
        unfold f4_held_b28 at h
        refine lv_iadd hx hb dX4_held_28 ?_
        refine lv_istore_n (lv' := [(1, .int (w0 + w1)), (0, .ref (gq G 25)), (2, .int b2)]) hx hb dX4_held_29 rfl hl (by decide) rfl (fun ls hl => ?_)
        refine lv_iinc (v := (b2 + (1 : Int32))) (lv' := [(2, .int (b2 + (1 : Int32))), (1, .int (w0 + w1)), (0, .ref (gq G 25))]) hx hb dX4_held_30 hl (k := 2) rfl rfl (by decide) rfl (fun ls hl => ?_)
        refine lv_goto (tgt := 4) hx hb dX4_held_33 (by decide) ?_
        exact ih4 (w0 + w1) (b2 + (1 : Int32)) _ _ _ (lv_sub hl [2, 1, 0] rfl) hw h
      intro b1 b2  H locs ls hl hw h
      rw [f4_held_L4_s] at h
      refine lv_iload_n hx hb dX4_held_4 rfl (lv_at hl 2 rfl) ?_
      refine lv_bipush (v := (10 : Int32)) hx hb dX4_held_5 (by decide) ?_
      refine lv_icmp_ge (tgt := 36) hx hb dX4_held_7 (by decide) (fun hc => ?_) (fun hc => ?_)
      · replace h := p_t hc h
        refine lv_iload_n hx hb dX4_held_36 rfl (lv_at hl 1 rfl) ?_
        replace h := Option.some.inj h
        subst h
        exact w_iret C hw (v := b1) rfl rfl dX4_held_37
      · replace h := p_f hc h
        refine lv_iload_n hx hb dX4_held_10 rfl (lv_at hl 1 rfl) ?_
        refine lv_aload_n hx hb dX4_held_11 rfl (lv_at hl 0 rfl) ?_
        refine w_get C hw (v := .ref (gq G 26)) (k := 0) (wk_model G x m) rfl it_4 (by decide) fl_X4_9 rfl dX4_held_12 ?_
        refine lv_bipush (v := (109 : Int32)) hx hb dX4_held_15 (by decide) ?_
        refine lv_iload_n hx hb dX4_held_17 rfl (lv_at hl 2 rfl) ?_
        refine lv_iadd hx hb dX4_held_18 ?_
        obtain ⟨hq, h⟩ := p_if h
        refine w_ald C hw (am_26 G x m).1 hq dX4_held_19 ?_
        refine lv_if_ge (tgt := 27) hx hb dX4_held_20 (by decide) (fun hc => ?_) (fun hc => ?_)
        · replace h := p_t hc h
          refine lv_iconst (v := (1 : Int32)) hx hb dX4_held_27 (by decide) ?_
          exact B28 b2 b1 (1 : Int32) _ _ _ (lv_sub hl [0, 2] rfl) hw h
        · replace h := p_f hc h
          refine lv_iconst (v := (0 : Int32)) hx hb dX4_held_23 (by decide) ?_
          refine lv_goto (tgt := 28) hx hb dX4_held_24 (by decide) ?_
          exact B28 b2 b1 (0 : Int32) _ _ _ (lv_sub hl [0, 2] rfl) hw h
  unfold f4_held at h
  refine lv_iconst (v := (0 : Int32)) hx hb dX4_held_0 (by decide) ?_
  refine lv_istore_n (lv' := [(1, .int (0 : Int32)), (0, .ref (gq G 25))]) hx hb dX4_held_1 rfl hl (by decide) rfl (fun ls hl => ?_)
  refine lv_iconst (v := (0 : Int32)) hx hb dX4_held_2 (by decide) ?_
  refine lv_istore_n (lv' := [(2, .int (0 : Int32)), (1, .int (0 : Int32)), (0, .ref (gq G 25))]) hx hb dX4_held_3 rfl hl (by decide) rfl (fun ls hl => ?_)
  exact L4 fu (0 : Int32) (0 : Int32) _ _ _ (lv_sub hl [2, 1, 0] rfl) hw h

def f4_count  (a1 : Int32) (m : St) : Option (Int32 × St) :=
  if a1 = (0 : Int32) then
    if (0 : Int32) < 0 ∨ 119 ≤ (0 : Int32).toNatClampNeg then none else
    some ((m 26 (0 : Int32).toNatClampNeg), m)
  else
  if a1 = (1 : Int32) then
    if (1 : Int32) < 0 ∨ 119 ≤ (1 : Int32).toNatClampNeg then none else
    some ((m 26 (1 : Int32).toNatClampNeg), m)
  else
  if a1 = (2 : Int32) then
    (f4_atHarbour m).bind fun v1 =>
    some (v1, m)
  else
  if a1 = (3 : Int32) then
    (f4_allWeight m).bind fun v2 =>
    some (v2, m)
  else
  if a1 = (4 : Int32) then
    (f4_allSand m).bind fun v3 =>
    some (v3, m)
  else
  if a1 = (5 : Int32) then
    some ((m 25 15), m)
  else
  if a1 = (6 : Int32) then
    if (4 : Int32) < 0 ∨ 119 ≤ (4 : Int32).toNatClampNeg then none else
    some ((m 26 (4 : Int32).toNatClampNeg), m)
  else
  if a1 = (7 : Int32) then
    (f4_held m).bind fun v4 =>
    some (v4, m)
  else
    (f4_finds (0 : Int32) m).bind fun q => match q with
    | (v6, z5) =>
      some (v6, z5)
set_option maxHeartbeats 4000000 in
set_option maxRecDepth 100000 in
theorem c4_count (l : Launch) (G : GT)  (x m : St) (a1 : Int32) (r : Int32 × St) (h : f4_count a1 m = some r) : Mt l yX4_count cX4_count 2 (some .int) (rmF 2 44) G x m [.ref (gq G 25), .int a1] (some (.int r.1)) x r.2 := by
  refine Mt.of (by decide) (Nat.le_of_ble_eq_true rfl) ?_
  intro p e s mm args below meth c C ls hl hw
  have hx := C.1
  have hb := C.2.1
  have hown := C.2.2.2.2.1
  replace hl : lv_has ls 2 [(0, .ref (gq G 25)), (1, .int a1)] := hl
  unfold f4_count at h
  refine lv_iload_n hx hb dX4_count_0 rfl (lv_at hl 1 rfl) ?_
  by_cases hc0 : a1 = (0 : Int32)
  · replace h := p_t hc0 h
    refine lv_tableIn (tgt := 48) hx hb dX4_count_1 (by rw [hc0]; decide) (by rw [hc0]; decide) (by rw [hc0]; rfl) (by decide) ?_
    refine lv_aload_n hx hb dX4_count_48 rfl (lv_at hl 0 rfl) ?_
    refine w_get C hw (v := .ref (gq G 26)) (k := 0) (wk_model G x m) rfl it_4 (by decide) fl_X4_9 rfl dX4_count_49 ?_
    refine lv_iconst (v := (0 : Int32)) hx hb dX4_count_52 (by decide) ?_
    obtain ⟨hq, h⟩ := p_if h
    refine w_ald C hw (am_26 G x m).1 hq dX4_count_53 ?_
    replace h := Option.some.inj h
    subst h
    exact w_iret C hw (v := (m 26 (0 : Int32).toNatClampNeg)) rfl rfl dX4_count_54
  · replace h := p_f hc0 h
    by_cases hc1 : a1 = (1 : Int32)
    · replace h := p_t hc1 h
      refine lv_tableIn (tgt := 55) hx hb dX4_count_1 (by rw [hc1]; decide) (by rw [hc1]; decide) (by rw [hc1]; rfl) (by decide) ?_
      refine lv_aload_n hx hb dX4_count_55 rfl (lv_at hl 0 rfl) ?_
      refine w_get C hw (v := .ref (gq G 26)) (k := 0) (wk_model G x m) rfl it_4 (by decide) fl_X4_9 rfl dX4_count_56 ?_
      refine lv_iconst (v := (1 : Int32)) hx hb dX4_count_59 (by decide) ?_
      obtain ⟨hq, h⟩ := p_if h
      refine w_ald C hw (am_26 G x m).1 hq dX4_count_60 ?_
      replace h := Option.some.inj h
      subst h
      exact w_iret C hw (v := (m 26 (1 : Int32).toNatClampNeg)) rfl rfl dX4_count_61
    · replace h := p_f hc1 h
      by_cases hc2 : a1 = (2 : Int32)
      · replace h := p_t hc2 h
        refine lv_tableIn (tgt := 62) hx hb dX4_count_1 (by rw [hc2]; decide) (by rw [hc2]; decide) (by rw [hc2]; rfl) (by decide) ?_
        refine lv_aload_n hx hb dX4_count_62 rfl (lv_at hl 0 rfl) ?_
        obtain ⟨v1, hq, h⟩ := p_bd h
        refine w_Vi C hw (As := []) (rest := []) (c4_atHarbour l G x m v1 hq) kv_X4_atHarbour ml_X4_370 ⟨rfl, rfl⟩ ⟨Nat.le_of_ble_eq_true rfl, Nat.le_of_ble_eq_true rfl⟩ ⟨Nat.zero_le _, Nat.zero_le _⟩ (w_recv C hw (wk_model G x m) rfl) rfl rfl (Nat.le_of_ble_eq_true rfl) (lv_sub hl [] rfl) dX4_count_63 (fun H locs hw => ?_)
        replace h := Option.some.inj h
        subst h
        exact w_iret C hw (v := v1) rfl rfl dX4_count_66
      · replace h := p_f hc2 h
        by_cases hc3 : a1 = (3 : Int32)
        · replace h := p_t hc3 h
          refine lv_tableIn (tgt := 67) hx hb dX4_count_1 (by rw [hc3]; decide) (by rw [hc3]; decide) (by rw [hc3]; rfl) (by decide) ?_
          refine lv_aload_n hx hb dX4_count_67 rfl (lv_at hl 0 rfl) ?_
          obtain ⟨v2, hq, h⟩ := p_bd h
          refine w_Vi C hw (As := []) (rest := []) (c4_allWeight l G x m v2 hq) kv_X4_allWeight ml_X4_159 ⟨rfl, rfl⟩ ⟨Nat.le_of_ble_eq_true rfl, Nat.le_of_ble_eq_true rfl⟩ ⟨Nat.zero_le _, Nat.zero_le _⟩ (w_recv C hw (wk_model G x m) rfl) rfl rfl (Nat.le_of_ble_eq_true rfl) (lv_sub hl [] rfl) dX4_count_68 (fun H locs hw => ?_)
          replace h := Option.some.inj h
          subst h
          exact w_iret C hw (v := v2) rfl rfl dX4_count_71
        · replace h := p_f hc3 h
          by_cases hc4 : a1 = (4 : Int32)
          · replace h := p_t hc4 h
            refine lv_tableIn (tgt := 72) hx hb dX4_count_1 (by rw [hc4]; decide) (by rw [hc4]; decide) (by rw [hc4]; rfl) (by decide) ?_
            refine lv_aload_n hx hb dX4_count_72 rfl (lv_at hl 0 rfl) ?_
            obtain ⟨v3, hq, h⟩ := p_bd h
            refine w_Vi C hw (As := []) (rest := []) (c4_allSand l G x m v3 hq) kv_X4_allSand ml_X4_373 ⟨rfl, rfl⟩ ⟨Nat.le_of_ble_eq_true rfl, Nat.le_of_ble_eq_true rfl⟩ ⟨Nat.zero_le _, Nat.zero_le _⟩ (w_recv C hw (wk_model G x m) rfl) rfl rfl (Nat.le_of_ble_eq_true rfl) (lv_sub hl [] rfl) dX4_count_73 (fun H locs hw => ?_)
            replace h := Option.some.inj h
            subst h
            exact w_iret C hw (v := v3) rfl rfl dX4_count_76
          · replace h := p_f hc4 h
            by_cases hc5 : a1 = (5 : Int32)
            · replace h := p_t hc5 h
              refine lv_tableIn (tgt := 77) hx hb dX4_count_1 (by rw [hc5]; decide) (by rw [hc5]; decide) (by rw [hc5]; rfl) (by decide) ?_
              refine lv_aload_n hx hb dX4_count_77 rfl (lv_at hl 0 rfl) ?_
              refine w_get C hw (v := .int (m 25 15)) (k := 15) (wk_model G x m) rfl it_4 (by decide) fl_X4_260 rfl dX4_count_78 ?_
              replace h := Option.some.inj h
              subst h
              exact w_iret C hw (v := (m 25 15)) rfl rfl dX4_count_81
            · replace h := p_f hc5 h
              by_cases hc6 : a1 = (6 : Int32)
              · replace h := p_t hc6 h
                refine lv_tableIn (tgt := 82) hx hb dX4_count_1 (by rw [hc6]; decide) (by rw [hc6]; decide) (by rw [hc6]; rfl) (by decide) ?_
                refine lv_aload_n hx hb dX4_count_82 rfl (lv_at hl 0 rfl) ?_
                refine w_get C hw (v := .ref (gq G 26)) (k := 0) (wk_model G x m) rfl it_4 (by decide) fl_X4_9 rfl dX4_count_83 ?_
                refine lv_iconst (v := (4 : Int32)) hx hb dX4_count_86 (by decide) ?_
                obtain ⟨hq, h⟩ := p_if h
                refine w_ald C hw (am_26 G x m).1 hq dX4_count_87 ?_
                replace h := Option.some.inj h
                subst h
                exact w_iret C hw (v := (m 26 (4 : Int32).toNatClampNeg)) rfl rfl dX4_count_88
              · replace h := p_f hc6 h
                by_cases hc7 : a1 = (7 : Int32)
                · replace h := p_t hc7 h
                  refine lv_tableIn (tgt := 89) hx hb dX4_count_1 (by rw [hc7]; decide) (by rw [hc7]; decide) (by rw [hc7]; rfl) (by decide) ?_
                  refine lv_aload_n hx hb dX4_count_89 rfl (lv_at hl 0 rfl) ?_
                  obtain ⟨v4, hq, h⟩ := p_bd h
                  refine w_Vi C hw (As := []) (rest := []) (c4_held l G x m v4 hq) kv_X4_held ml_X4_376 ⟨rfl, rfl⟩ ⟨Nat.le_of_ble_eq_true rfl, Nat.le_of_ble_eq_true rfl⟩ ⟨Nat.zero_le _, Nat.zero_le _⟩ (w_recv C hw (wk_model G x m) rfl) rfl rfl (Nat.le_of_ble_eq_true rfl) (lv_sub hl [] rfl) dX4_count_90 (fun H locs hw => ?_)
                  replace h := Option.some.inj h
                  subst h
                  exact w_iret C hw (v := v4) rfl rfl dX4_count_93
                · replace h := p_f hc7 h
                  refine lv_tableOut (tgt := 94) hx hb dX4_count_1 (by have q0 : ¬ a1.toInt = 0 := lv_neT hc0 rfl; have q1 : ¬ a1.toInt = 1 := lv_neT hc1 rfl; have q2 : ¬ a1.toInt = 2 := lv_neT hc2 rfl; have q3 : ¬ a1.toInt = 3 := lv_neT hc3 rfl; have q4 : ¬ a1.toInt = 4 := lv_neT hc4 rfl; have q5 : ¬ a1.toInt = 5 := lv_neT hc5 rfl; have q6 : ¬ a1.toInt = 6 := lv_neT hc6 rfl; have q7 : ¬ a1.toInt = 7 := lv_neT hc7 rfl; omega) (by decide) ?_
                  refine lv_aload_n hx hb dX4_count_94 rfl (lv_at hl 0 rfl) ?_
                  refine lv_iconst (v := (0 : Int32)) hx hb dX4_count_95 (by decide) ?_
                  obtain ⟨⟨v6, z5⟩, hq, h⟩ := p_bd h
                  dsimp only at h
                  refine w_Vi C hw (As := [.int (0 : Int32)]) (rest := []) (c4_finds l G x m (0 : Int32) (v6, z5) hq) kv_X4_finds ml_X4_82 ⟨rfl, rfl⟩ ⟨Nat.le_of_ble_eq_true rfl, Nat.le_of_ble_eq_true rfl⟩ ⟨Nat.zero_le _, Nat.zero_le _⟩ (w_recv C hw (wk_model G x m) rfl) rfl rfl (Nat.le_of_ble_eq_true rfl) (lv_sub hl [] rfl) dX4_count_96 (fun H locs hw => ?_)
                  replace h := Option.some.inj h
                  subst h
                  exact w_iret C hw (v := v6) rfl rfl dX4_count_99

def f4_status_b50  (k24 : Int32 → Int32 → Int32 → St → Option (Int32 × St)) (b1 : Int32) (b3 : Int32) (w0 : Int32) (w1 : Int32) (m : St) : Option (Int32 × St) :=
  k24 b1 (w0 + w1) (b3 + (1 : Int32)) m
def f4_status_b40  (k24 : Int32 → Int32 → Int32 → St → Option (Int32 × St)) (b1 : Int32) (b3 : Int32) (w0 : Int32) (m : St) : Option (Int32 × St) :=
  if b3 < 0 ∨ 7 ≤ b3.toNatClampNeg then none else
  f4_status_b50 k24 b1 b3 w0 (m 29 b3.toNatClampNeg) m
def f4_status_L24   : Nat → Int32 → Int32 → Int32 → St → Option (Int32 × St)
  | 0, _, _, _, _ => none
  | n + 1, b1, b2, b3, m =>
    if (7 : Int32) ≤ b3 then
      some (b2, m)
    else
      if b1 < 0 then
        f4_status_b40 (f4_status_L24 n) b1 b3 b2 m
      else
        if b1 = b3 then
          f4_status_b40 (f4_status_L24 n) b1 b3 b2 m
        else
          f4_status_b50 (f4_status_L24 n) b1 b3 b2 (0 : Int32) m
theorem f4_status_L24_0   (b1 : Int32) (b2 : Int32) (b3 : Int32) (m : St) : f4_status_L24  0 b1 b2 b3 m = none := rfl
theorem f4_status_L24_s   (n : Nat) (b1 : Int32) (b2 : Int32) (b3 : Int32) (m : St) : f4_status_L24  (n + 1) b1 b2 b3 m =
    if (7 : Int32) ≤ b3 then
      some (b2, m)
    else
      if b1 < 0 then
        f4_status_b40 (f4_status_L24 n) b1 b3 b2 m
      else
        if b1 = b3 then
          f4_status_b40 (f4_status_L24 n) b1 b3 b2 m
        else
          f4_status_b50 (f4_status_L24 n) b1 b3 b2 (0 : Int32) m := rfl
def f4_status  (a1 : Int32) (m : St) : Option (Int32 × St) :=
  if (f4_in (a1.toInt64) (-1 : Int64) (6 : Int64)) = 0 then
    (f4_finds (0 : Int32) m).bind fun q => match q with
    | (v2, z1) =>
      some (v2, z1)
  else
    f4_status_L24 fu a1 (0 : Int32) (0 : Int32) m
set_option maxHeartbeats 4000000 in
set_option maxRecDepth 100000 in
theorem c4_status (l : Launch) (G : GT)  (x m : St) (a1 : Int32) (r : Int32 × St) (h : f4_status a1 m = some r) : Mt l yX4_status cX4_status 4 (some .int) (rmF 1 25) G x m [.ref (gq G 25), .int a1] (some (.int r.1)) x r.2 := by
  refine Mt.of (by decide) (Nat.le_of_ble_eq_true rfl) ?_
  intro p e s mm args below meth c C ls hl hw
  have hx := C.1
  have hb := C.2.1
  have hown := C.2.2.2.2.1
  replace hl : lv_has ls 4 [(0, .ref (gq G 25)), (1, .int a1)] := hl
  have L24 : ∀ (n24 : Nat) (b1 : Int32) (b2 : Int32) (b3 : Int32) (m : St) (H : Heap) (locs : List Loc) (ls : Array Slot), lv_has ls 4 [(0, .ref (gq G 25)), (1, .int b1), (2, .int b2), (3, .int b3)] → Wd G s x m H locs → f4_status_L24 n24 b1 b2 b3 m = some r → W p l e (rmF 1 25) s mm args below meth c H locs 0 0 (QE below G (some (.int r.1)) x r.2 args s) (F0 mm 24 ls []) := by
    intro n24
    induction n24 with
    | zero =>
      intro b1 b2 b3 m H locs ls hl hw h
      rw [f4_status_L24_0] at h
      exact absurd h.symm (Option.some_ne_none _)
    | succ n24 ih24 =>
      have B50 : ∀ (b1 : Int32) (b3 : Int32) (w0 : Int32) (w1 : Int32) (m : St) (H : Heap) (locs : List Loc) (ls : Array Slot), lv_has ls 4 [(0, .ref (gq G 25)), (1, .int b1), (3, .int b3)] → Wd G s x m H locs → f4_status_b50 (f4_status_L24 n24) b1 b3 w0 w1 m = some r → W p l e (rmF 1 25) s mm args below meth c H locs 0 0 (QE below G (some (.int r.1)) x r.2 args s) (F0 mm 50 ls [.int w1, .int w0]) := by
        intro b1 b3 w0 w1 m H locs ls hl hw h
        unfold f4_status_b50 at h
        refine lv_iadd hx hb dX4_status_50 ?_
        refine lv_istore_n (lv' := [(2, .int (w0 + w1)), (0, .ref (gq G 25)), (1, .int b1), (3, .int b3)]) hx hb dX4_status_51 rfl hl (by decide) rfl (fun ls hl => ?_)
        refine lv_iinc (v := (b3 + (1 : Int32))) (lv' := [(3, .int (b3 + (1 : Int32))), (2, .int (w0 + w1)), (0, .ref (gq G 25)), (1, .int b1)]) hx hb dX4_status_52 hl (k := 3) rfl rfl (by decide) rfl (fun ls hl => ?_)
        refine lv_goto (tgt := 24) hx hb dX4_status_55 (by decide) ?_
        exact ih24 b1 (w0 + w1) (b3 + (1 : Int32)) m _ _ _ (lv_sub hl [2, 3, 1, 0] rfl) hw h
      have B40 : ∀ (b1 : Int32) (b3 : Int32) (w0 : Int32) (m : St) (H : Heap) (locs : List Loc) (ls : Array Slot), lv_has ls 4 [(0, .ref (gq G 25)), (1, .int b1), (3, .int b3)] → Wd G s x m H locs → f4_status_b40 (f4_status_L24 n24) b1 b3 w0 m = some r → W p l e (rmF 1 25) s mm args below meth c H locs 0 0 (QE below G (some (.int r.1)) x r.2 args s) (F0 mm 40 ls [.int w0]) := by
        intro b1 b3 w0 m H locs ls hl hw h
        unfold f4_status_b40 at h
        refine lv_aload_n hx hb dX4_status_40 rfl (lv_at hl 0 rfl) ?_
        refine w_get C hw (v := .ref (gq G 29)) (k := 4) (wk_model G x m) rfl it_4 (by decide) fl_X4_19 rfl dX4_status_41 ?_
        refine lv_iload_n hx hb dX4_status_44 rfl (lv_at hl 2 rfl) ?_
        obtain ⟨hq, h⟩ := p_if h
        refine w_ald C hw (am_29 G x m).1 hq dX4_status_45 ?_
        refine lv_goto (tgt := 50) hx hb dX4_status_46 (by decide) ?_
        exact B50 b1 b3 w0 (m 29 b3.toNatClampNeg) m _ _ _ (lv_sub hl [0, 1, 2] rfl) hw h
      intro b1 b2 b3 m H locs ls hl hw h
      rw [f4_status_L24_s] at h
      refine lv_iload_n hx hb dX4_status_24 rfl (lv_at hl 3 rfl) ?_
      refine lv_bipush (v := (7 : Int32)) hx hb dX4_status_25 (by decide) ?_
      refine lv_icmp_ge (tgt := 58) hx hb dX4_status_27 (by decide) (fun hc => ?_) (fun hc => ?_)
      · replace h := p_t hc h
        refine lv_iload_n hx hb dX4_status_58 rfl (lv_at hl 2 rfl) ?_
        replace h := Option.some.inj h
        subst h
        exact w_iret C hw (v := b2) rfl rfl dX4_status_59
      · replace h := p_f hc h
        refine lv_iload_n hx hb dX4_status_30 rfl (lv_at hl 2 rfl) ?_
        refine lv_iload_n hx hb dX4_status_31 rfl (lv_at hl 1 rfl) ?_
        refine lv_if_lt (tgt := 40) hx hb dX4_status_32 (by decide) (fun hc => ?_) (fun hc => ?_)
        · replace h := p_t hc h
          exact B40 b1 b3 b2 m _ _ _ (lv_sub hl [0, 1, 3] rfl) hw h
        · replace h := p_f hc h
          refine lv_iload_n hx hb dX4_status_35 rfl (lv_at hl 1 rfl) ?_
          refine lv_iload_n hx hb dX4_status_36 rfl (lv_at hl 3 rfl) ?_
          refine lv_icmp_ne (tgt := 49) hx hb dX4_status_37 (by decide) (fun hc => ?_) (fun hc => ?_)
          · replace h := p_f hc h
            refine lv_iconst (v := (0 : Int32)) hx hb dX4_status_49 (by decide) ?_
            exact B50 b1 b3 b2 (0 : Int32) m _ _ _ (lv_sub hl [0, 1, 3] rfl) hw h
          · replace h := p_t hc h
            exact B40 b1 b3 b2 m _ _ _ (lv_sub hl [0, 1, 3] rfl) hw h
  unfold f4_status at h
  refine lv_iload_n hx hb dX4_status_0 rfl (lv_at hl 1 rfl) ?_
  refine lv_i2l hx hb dX4_status_1 rfl ?_
  refine lv_ldc2 hx hb hown (C.w kl_X4_379) dX4_status_2 ?_
  refine lv_ldc2 hx hb hown (C.w kl_X4_105) dX4_status_5 ?_
  refine w_Si C hw (As := [.long (a1.toInt64), .long (-1 : Int64), .long (6 : Int64)]) (rest := []) (c4_in l G x m (a1.toInt64) (-1 : Int64) (6 : Int64) _ rfl) ks_X4_in ml_X4_57 ⟨rfl, rfl⟩ ⟨Nat.le_of_ble_eq_true rfl, Nat.le_of_ble_eq_true rfl⟩ ⟨Nat.zero_le _, Nat.zero_le _⟩ rfl rfl (Nat.le_of_ble_eq_true rfl) (lv_sub hl [] rfl) dX4_status_8 (fun H locs hw => ?_)
  refine lv_if_ne (tgt := 20) hx hb dX4_status_11 (by decide) (fun hc => ?_) (fun hc => ?_)
  · replace h := p_f hc h
    refine lv_iconst (v := (0 : Int32)) hx hb dX4_status_20 (by decide) ?_
    refine lv_istore_n (lv' := [(2, .int (0 : Int32)), (0, .ref (gq G 25)), (1, .int a1)]) hx hb dX4_status_21 rfl hl (by decide) rfl (fun ls hl => ?_)
    refine lv_iconst (v := (0 : Int32)) hx hb dX4_status_22 (by decide) ?_
    refine lv_istore_n (lv' := [(3, .int (0 : Int32)), (2, .int (0 : Int32)), (0, .ref (gq G 25)), (1, .int a1)]) hx hb dX4_status_23 rfl hl (by decide) rfl (fun ls hl => ?_)
    exact L24 fu a1 (0 : Int32) (0 : Int32) m _ _ _ (lv_sub hl [2, 3, 1, 0] rfl) hw h
  · replace h := p_t hc h
    refine lv_aload_n hx hb dX4_status_14 rfl (lv_at hl 0 rfl) ?_
    refine lv_iconst (v := (0 : Int32)) hx hb dX4_status_15 (by decide) ?_
    obtain ⟨⟨v2, z1⟩, hq, h⟩ := p_bd h
    dsimp only at h
    refine w_Vi C hw (As := [.int (0 : Int32)]) (rest := []) (c4_finds l G x m (0 : Int32) (v2, z1) hq) kv_X4_finds ml_X4_82 ⟨rfl, rfl⟩ ⟨Nat.le_of_ble_eq_true rfl, Nat.le_of_ble_eq_true rfl⟩ ⟨Nat.zero_le _, Nat.zero_le _⟩ (w_recv C hw (wk_model G x m) rfl) rfl rfl (Nat.le_of_ble_eq_true rfl) (lv_sub hl [] rfl) dX4_status_16 (fun H locs hw => ?_)
    replace h := Option.some.inj h
    subst h
    exact w_iret C hw (v := v2) rfl rfl dX4_status_19
