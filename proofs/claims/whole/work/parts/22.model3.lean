def f4_sand  (a1 : Int32) (a2 : Int32) (a3 : Int32) (m : St) : Option (Int32 × St) :=
  if (f4_isQuiet a1 a2 a3) = 0 then
    (f4_finds (0 : Int32) m).bind fun q => match q with
    | (v5, z4) =>
      some (v5, z4)
  else
    (f4_findSand a1 a2 a3 m).bind fun z1 =>
    if 0 ≤ (z1 25 9) then
      some ((z1 25 9), z1)
    else
      (f4_finds (3 : Int32) z1).bind fun q => match q with
      | (v3, z2) =>
        some (v3, z2)
set_option maxHeartbeats 4000000 in
set_option maxRecDepth 100000 in
theorem c4_sand (l : Launch) (G : GT)  (x m : St) (a1 : Int32) (a2 : Int32) (a3 : Int32) (r : Int32 × St) (h : f4_sand a1 a2 a3 m = some r) : Mt l yX4_sand cX4_sand 4 (some .int) (rmF 9 208) G x m [.ref (gq G 25), .int a1, .int a2, .int a3] (some (.int r.1)) x r.2 := by
  refine Mt.of (by decide) (Nat.le_of_ble_eq_true rfl) ?_
  intro p e s mm args below meth c C ls hl hw
  have hx := C.1
  have hb := C.2.1
  have hown := C.2.2.2.2.1
  replace hl : lv_has ls 4 [(0, .ref (gq G 25)), (1, .int a1), (2, .int a2), (3, .int a3)] := hl
  unfold f4_sand at h
  refine lv_iload_n hx hb dX4_sand_0 rfl (lv_at hl 1 rfl) ?_
  refine lv_iload_n hx hb dX4_sand_1 rfl (lv_at hl 2 rfl) ?_
  refine lv_iload_n hx hb dX4_sand_2 rfl (lv_at hl 3 rfl) ?_
  refine w_Si C hw (As := [.int a1, .int a2, .int a3]) (rest := []) (c4_isQuiet l G x m a1 a2 a3 _ rfl) ks_X4_isQuiet ml_X4_225 ⟨rfl, rfl⟩ ⟨Nat.le_of_ble_eq_true rfl, Nat.le_of_ble_eq_true rfl⟩ ⟨Nat.zero_le _, Nat.zero_le _⟩ rfl rfl (Nat.le_of_ble_eq_true rfl) (lv_sub hl [] rfl) dX4_sand_3 (fun H locs hw => ?_)
  refine lv_if_ne (tgt := 15) hx hb dX4_sand_6 (by decide) (fun hc => ?_) (fun hc => ?_)
  · replace h := p_f hc h
    refine lv_aload_n hx hb dX4_sand_15 rfl (lv_at hl 0 rfl) ?_
    refine lv_iload_n hx hb dX4_sand_16 rfl (lv_at hl 1 rfl) ?_
    refine lv_iload_n hx hb dX4_sand_17 rfl (lv_at hl 2 rfl) ?_
    refine lv_iload_n hx hb dX4_sand_18 rfl (lv_at hl 3 rfl) ?_
    obtain ⟨z1, hq, h⟩ := p_bd h
    refine w_Vv C hw (As := [.int a1, .int a2, .int a3]) (rest := []) (c4_findSand l G x m a1 a2 a3 z1 hq) kv_X4_findSand ml_X4_228 ⟨rfl, rfl⟩ ⟨Nat.le_of_ble_eq_true rfl, Nat.le_of_ble_eq_true rfl⟩ ⟨Nat.zero_le _, Nat.zero_le _⟩ (w_recv C hw (wk_model G x m) rfl) rfl rfl (Nat.le_of_ble_eq_true rfl) (lv_sub hl [] rfl) dX4_sand_19 (fun H locs hw => ?_)
    refine lv_aload_n hx hb dX4_sand_22 rfl (lv_at hl 0 rfl) ?_
    refine w_get C hw (v := .int (z1 25 9)) (k := 9) (wk_model G x z1) rfl it_4 (by decide) fl_X4_211 rfl dX4_sand_23 ?_
    refine lv_if_ge (tgt := 37) hx hb dX4_sand_26 (by decide) (fun hc => ?_) (fun hc => ?_)
    · replace h := p_t hc h
      refine lv_aload_n hx hb dX4_sand_37 rfl (lv_at hl 0 rfl) ?_
      refine w_get C hw (v := .int (z1 25 9)) (k := 9) (wk_model G x z1) rfl it_4 (by decide) fl_X4_211 rfl dX4_sand_38 ?_
      replace h := Option.some.inj h
      subst h
      exact w_iret C hw (v := (z1 25 9)) rfl rfl dX4_sand_41
    · replace h := p_f hc h
      refine lv_aload_n hx hb dX4_sand_29 rfl (lv_at hl 0 rfl) ?_
      refine lv_iconst (v := (3 : Int32)) hx hb dX4_sand_30 (by decide) ?_
      obtain ⟨⟨v3, z2⟩, hq, h⟩ := p_bd h
      dsimp only at h
      refine w_Vi C hw (As := [.int (3 : Int32)]) (rest := []) (c4_finds l G x z1 (3 : Int32) (v3, z2) hq) kv_X4_finds ml_X4_82 ⟨rfl, rfl⟩ ⟨Nat.le_of_ble_eq_true rfl, Nat.le_of_ble_eq_true rfl⟩ ⟨Nat.zero_le _, Nat.zero_le _⟩ (w_recv C hw (wk_model G x z1) rfl) rfl rfl (Nat.le_of_ble_eq_true rfl) (lv_sub hl [] rfl) dX4_sand_31 (fun H locs hw => ?_)
      refine lv_goto (tgt := 41) hx hb dX4_sand_34 (by decide) ?_
      replace h := Option.some.inj h
      subst h
      exact w_iret C hw (v := v3) rfl rfl dX4_sand_41
  · replace h := p_t hc h
    refine lv_aload_n hx hb dX4_sand_9 rfl (lv_at hl 0 rfl) ?_
    refine lv_iconst (v := (0 : Int32)) hx hb dX4_sand_10 (by decide) ?_
    obtain ⟨⟨v5, z4⟩, hq, h⟩ := p_bd h
    dsimp only at h
    refine w_Vi C hw (As := [.int (0 : Int32)]) (rest := []) (c4_finds l G x m (0 : Int32) (v5, z4) hq) kv_X4_finds ml_X4_82 ⟨rfl, rfl⟩ ⟨Nat.le_of_ble_eq_true rfl, Nat.le_of_ble_eq_true rfl⟩ ⟨Nat.zero_le _, Nat.zero_le _⟩ (w_recv C hw (wk_model G x m) rfl) rfl rfl (Nat.le_of_ble_eq_true rfl) (lv_sub hl [] rfl) dX4_sand_11 (fun H locs hw => ?_)
    replace h := Option.some.inj h
    subst h
    exact w_iret C hw (v := v5) rfl rfl dX4_sand_14

def f4_costs  (a1 : Int32) (a2 : Int32) (a3 : Int32) (m : St) : Option (Int32 × St) :=
  if (f4_isQuiet a1 a2 a3) = 0 then
    (f4_finds (0 : Int32) m).bind fun q => match q with
    | (v5, z4) =>
      some (v5, z4)
  else
    (f4_findSand a1 a2 a3 m).bind fun z1 =>
    if 0 ≤ (z1 25 9) then
      some ((z1 25 10), z1)
    else
      (f4_finds (3 : Int32) z1).bind fun q => match q with
      | (v3, z2) =>
        some (v3, z2)
set_option maxHeartbeats 4000000 in
set_option maxRecDepth 100000 in
theorem c4_costs (l : Launch) (G : GT)  (x m : St) (a1 : Int32) (a2 : Int32) (a3 : Int32) (r : Int32 × St) (h : f4_costs a1 a2 a3 m = some r) : Mt l yX4_costs cX4_costs 4 (some .int) (rmF 9 208) G x m [.ref (gq G 25), .int a1, .int a2, .int a3] (some (.int r.1)) x r.2 := by
  refine Mt.of (by decide) (Nat.le_of_ble_eq_true rfl) ?_
  intro p e s mm args below meth c C ls hl hw
  have hx := C.1
  have hb := C.2.1
  have hown := C.2.2.2.2.1
  replace hl : lv_has ls 4 [(0, .ref (gq G 25)), (1, .int a1), (2, .int a2), (3, .int a3)] := hl
  unfold f4_costs at h
  refine lv_iload_n hx hb dX4_costs_0 rfl (lv_at hl 1 rfl) ?_
  refine lv_iload_n hx hb dX4_costs_1 rfl (lv_at hl 2 rfl) ?_
  refine lv_iload_n hx hb dX4_costs_2 rfl (lv_at hl 3 rfl) ?_
  refine w_Si C hw (As := [.int a1, .int a2, .int a3]) (rest := []) (c4_isQuiet l G x m a1 a2 a3 _ rfl) ks_X4_isQuiet ml_X4_225 ⟨rfl, rfl⟩ ⟨Nat.le_of_ble_eq_true rfl, Nat.le_of_ble_eq_true rfl⟩ ⟨Nat.zero_le _, Nat.zero_le _⟩ rfl rfl (Nat.le_of_ble_eq_true rfl) (lv_sub hl [] rfl) dX4_costs_3 (fun H locs hw => ?_)
  refine lv_if_ne (tgt := 15) hx hb dX4_costs_6 (by decide) (fun hc => ?_) (fun hc => ?_)
  · replace h := p_f hc h
    refine lv_aload_n hx hb dX4_costs_15 rfl (lv_at hl 0 rfl) ?_
    refine lv_iload_n hx hb dX4_costs_16 rfl (lv_at hl 1 rfl) ?_
    refine lv_iload_n hx hb dX4_costs_17 rfl (lv_at hl 2 rfl) ?_
    refine lv_iload_n hx hb dX4_costs_18 rfl (lv_at hl 3 rfl) ?_
    obtain ⟨z1, hq, h⟩ := p_bd h
    refine w_Vv C hw (As := [.int a1, .int a2, .int a3]) (rest := []) (c4_findSand l G x m a1 a2 a3 z1 hq) kv_X4_findSand ml_X4_228 ⟨rfl, rfl⟩ ⟨Nat.le_of_ble_eq_true rfl, Nat.le_of_ble_eq_true rfl⟩ ⟨Nat.zero_le _, Nat.zero_le _⟩ (w_recv C hw (wk_model G x m) rfl) rfl rfl (Nat.le_of_ble_eq_true rfl) (lv_sub hl [] rfl) dX4_costs_19 (fun H locs hw => ?_)
    refine lv_aload_n hx hb dX4_costs_22 rfl (lv_at hl 0 rfl) ?_
    refine w_get C hw (v := .int (z1 25 9)) (k := 9) (wk_model G x z1) rfl it_4 (by decide) fl_X4_211 rfl dX4_costs_23 ?_
    refine lv_if_ge (tgt := 37) hx hb dX4_costs_26 (by decide) (fun hc => ?_) (fun hc => ?_)
    · replace h := p_t hc h
      refine lv_aload_n hx hb dX4_costs_37 rfl (lv_at hl 0 rfl) ?_
      refine w_get C hw (v := .int (z1 25 10)) (k := 10) (wk_model G x z1) rfl it_4 (by decide) fl_X4_217 rfl dX4_costs_38 ?_
      replace h := Option.some.inj h
      subst h
      exact w_iret C hw (v := (z1 25 10)) rfl rfl dX4_costs_41
    · replace h := p_f hc h
      refine lv_aload_n hx hb dX4_costs_29 rfl (lv_at hl 0 rfl) ?_
      refine lv_iconst (v := (3 : Int32)) hx hb dX4_costs_30 (by decide) ?_
      obtain ⟨⟨v3, z2⟩, hq, h⟩ := p_bd h
      dsimp only at h
      refine w_Vi C hw (As := [.int (3 : Int32)]) (rest := []) (c4_finds l G x z1 (3 : Int32) (v3, z2) hq) kv_X4_finds ml_X4_82 ⟨rfl, rfl⟩ ⟨Nat.le_of_ble_eq_true rfl, Nat.le_of_ble_eq_true rfl⟩ ⟨Nat.zero_le _, Nat.zero_le _⟩ (w_recv C hw (wk_model G x z1) rfl) rfl rfl (Nat.le_of_ble_eq_true rfl) (lv_sub hl [] rfl) dX4_costs_31 (fun H locs hw => ?_)
      refine lv_goto (tgt := 41) hx hb dX4_costs_34 (by decide) ?_
      replace h := Option.some.inj h
      subst h
      exact w_iret C hw (v := v3) rfl rfl dX4_costs_41
  · replace h := p_t hc h
    refine lv_aload_n hx hb dX4_costs_9 rfl (lv_at hl 0 rfl) ?_
    refine lv_iconst (v := (0 : Int32)) hx hb dX4_costs_10 (by decide) ?_
    obtain ⟨⟨v5, z4⟩, hq, h⟩ := p_bd h
    dsimp only at h
    refine w_Vi C hw (As := [.int (0 : Int32)]) (rest := []) (c4_finds l G x m (0 : Int32) (v5, z4) hq) kv_X4_finds ml_X4_82 ⟨rfl, rfl⟩ ⟨Nat.le_of_ble_eq_true rfl, Nat.le_of_ble_eq_true rfl⟩ ⟨Nat.zero_le _, Nat.zero_le _⟩ (w_recv C hw (wk_model G x m) rfl) rfl rfl (Nat.le_of_ble_eq_true rfl) (lv_sub hl [] rfl) dX4_costs_11 (fun H locs hw => ?_)
    replace h := Option.some.inj h
    subst h
    exact w_iret C hw (v := v5) rfl rfl dX4_costs_14

def f4_aunt_b74  (k28 : Int32 → Int32 → Int32 → Int32 → Int32 → St → Option (Int32 × St)) (b1 : Int32) (b2 : Int32) (b3 : Int32) (b4 : Int32) (b5 : Int32) (m : St) : Option (Int32 × St) :=
  k28 b1 b2 b3 b4 (b5 + (1 : Int32)) m
def f4_aunt_b67  (k28 : Int32 → Int32 → Int32 → Int32 → Int32 → St → Option (Int32 × St)) (b1 : Int32) (b2 : Int32) (b5 : Int32) (b6 : Int32) (m : St) : Option (Int32 × St) :=
  f4_aunt_b74 k28 b1 b2 b5 b6 b5 m
def f4_aunt_L28   : Nat → Int32 → Int32 → Int32 → Int32 → Int32 → St → Option (Int32 × St)
  | 0, _, _, _, _, _, _ => none
  | n + 1, b1, b2, b3, b4, b5, m =>
    if (16 : Int32) ≤ b5 then
      if (3 : Int32) < 0 ∨ 119 ≤ (3 : Int32).toNatClampNeg then none else
      some (b3, (up m 26 (3 : Int32).toNatClampNeg b2))
    else
      if (3 : Int32) < 0 ∨ 119 ≤ (3 : Int32).toNatClampNeg then none else
      (f4_loudBy (15 : Int32) b1 (up m 26 (3 : Int32).toNatClampNeg (b2 ||| ((1 : Int32) <<< (b5 &&& 31))))).bind fun q => match q with
      | (v4, z3) =>
        if b3 < 0 then
          f4_aunt_b67 (f4_aunt_L28 n) b1 b2 b5 v4 z3
        else
          if b4 ≤ v4 then
            f4_aunt_b74 (f4_aunt_L28 n) b1 b2 b3 b4 b5 z3
          else
            f4_aunt_b67 (f4_aunt_L28 n) b1 b2 b5 v4 z3
theorem f4_aunt_L28_0   (b1 : Int32) (b2 : Int32) (b3 : Int32) (b4 : Int32) (b5 : Int32) (m : St) : f4_aunt_L28  0 b1 b2 b3 b4 b5 m = none := rfl
theorem f4_aunt_L28_s   (n : Nat) (b1 : Int32) (b2 : Int32) (b3 : Int32) (b4 : Int32) (b5 : Int32) (m : St) : f4_aunt_L28  (n + 1) b1 b2 b3 b4 b5 m =
    if (16 : Int32) ≤ b5 then
      if (3 : Int32) < 0 ∨ 119 ≤ (3 : Int32).toNatClampNeg then none else
      some (b3, (up m 26 (3 : Int32).toNatClampNeg b2))
    else
      if (3 : Int32) < 0 ∨ 119 ≤ (3 : Int32).toNatClampNeg then none else
      (f4_loudBy (15 : Int32) b1 (up m 26 (3 : Int32).toNatClampNeg (b2 ||| ((1 : Int32) <<< (b5 &&& 31))))).bind fun q => match q with
      | (v4, z3) =>
        if b3 < 0 then
          f4_aunt_b67 (f4_aunt_L28 n) b1 b2 b5 v4 z3
        else
          if b4 ≤ v4 then
            f4_aunt_b74 (f4_aunt_L28 n) b1 b2 b3 b4 b5 z3
          else
            f4_aunt_b67 (f4_aunt_L28 n) b1 b2 b5 v4 z3 := rfl
def f4_aunt  (a1 : Int32) (m : St) : Option (Int32 × St) :=
  if (f4_isShort a1) = 0 then
    (f4_finds (0 : Int32) m).bind fun q => match q with
    | (v2, z1) =>
      some (v2, z1)
  else
    if (3 : Int32) < 0 ∨ 119 ≤ (3 : Int32).toNatClampNeg then none else
    f4_aunt_L28 fu a1 (m 26 (3 : Int32).toNatClampNeg) (-1 : Int32) (0 : Int32) (0 : Int32) m
set_option maxHeartbeats 4000000 in
set_option maxRecDepth 100000 in
theorem c4_aunt (l : Launch) (G : GT)  (x m : St) (a1 : Int32) (r : Int32 × St) (h : f4_aunt a1 m = some r) : Mt l yX4_aunt cX4_aunt 7 (some .int) (rmF 7 158) G x m [.ref (gq G 25), .int a1] (some (.int r.1)) x r.2 := by
  refine Mt.of (by decide) (Nat.le_of_ble_eq_true rfl) ?_
  intro p e s mm args below meth c C ls hl hw
  have hx := C.1
  have hb := C.2.1
  have hown := C.2.2.2.2.1
  replace hl : lv_has ls 7 [(0, .ref (gq G 25)), (1, .int a1)] := hl
  have L28 : ∀ (n28 : Nat) (b1 : Int32) (b2 : Int32) (b3 : Int32) (b4 : Int32) (b5 : Int32) (m : St) (H : Heap) (locs : List Loc) (ls : Array Slot), lv_has ls 7 [(0, .ref (gq G 25)), (1, .int b1), (2, .int b2), (3, .int b3), (4, .int b4), (5, .int b5)] → Wd G s x m H locs → f4_aunt_L28 n28 b1 b2 b3 b4 b5 m = some r → W p l e (rmF 7 158) s mm args below meth c H locs 0 0 (QE below G (some (.int r.1)) x r.2 args s) (F0 mm 28 ls []) := by
    intro n28
    induction n28 with
    | zero =>
      intro b1 b2 b3 b4 b5 m H locs ls hl hw h
      rw [f4_aunt_L28_0] at h
      exact absurd h.symm (Option.some_ne_none _)
    | succ n28 ih28 =>
      have B74 : ∀ (b1 : Int32) (b2 : Int32) (b3 : Int32) (b4 : Int32) (b5 : Int32) (m : St) (H : Heap) (locs : List Loc) (ls : Array Slot), lv_has ls 7 [(0, .ref (gq G 25)), (1, .int b1), (2, .int b2), (3, .int b3), (4, .int b4), (5, .int b5)] → Wd G s x m H locs → f4_aunt_b74 (f4_aunt_L28 n28) b1 b2 b3 b4 b5 m = some r → W p l e (rmF 7 158) s mm args below meth c H locs 0 0 (QE below G (some (.int r.1)) x r.2 args s) (F0 mm 74 ls []) := by
        intro b1 b2 b3 b4 b5 m H locs ls hl hw h
        unfold f4_aunt_b74 at h
        refine lv_iinc (v := (b5 + (1 : Int32))) (lv' := [(5, .int (b5 + (1 : Int32))), (0, .ref (gq G 25)), (1, .int b1), (2, .int b2), (3, .int b3), (4, .int b4)]) hx hb dX4_aunt_74 hl (k := 5) rfl rfl (by decide) rfl (fun ls hl => ?_)
        refine lv_goto (tgt := 28) hx hb dX4_aunt_77 (by decide) ?_
        exact ih28 b1 b2 b3 b4 (b5 + (1 : Int32)) m _ _ _ (lv_sub hl [1, 2, 3, 4, 5, 0] rfl) hw h
      have B67 : ∀ (b1 : Int32) (b2 : Int32) (b5 : Int32) (b6 : Int32) (m : St) (H : Heap) (locs : List Loc) (ls : Array Slot), lv_has ls 7 [(0, .ref (gq G 25)), (1, .int b1), (2, .int b2), (5, .int b5), (6, .int b6)] → Wd G s x m H locs → f4_aunt_b67 (f4_aunt_L28 n28) b1 b2 b5 b6 m = some r → W p l e (rmF 7 158) s mm args below meth c H locs 0 0 (QE below G (some (.int r.1)) x r.2 args s) (F0 mm 67 ls []) := by
        intro b1 b2 b5 b6 m H locs ls hl hw h
        unfold f4_aunt_b67 at h
        refine lv_iload hx hb dX4_aunt_67 (lv_at hl 3 rfl) ?_
        refine lv_istore_n (lv' := [(3, .int b5), (0, .ref (gq G 25)), (1, .int b1), (2, .int b2), (5, .int b5), (6, .int b6)]) hx hb dX4_aunt_69 rfl hl (by decide) rfl (fun ls hl => ?_)
        refine lv_iload hx hb dX4_aunt_70 (lv_at hl 5 rfl) ?_
        refine lv_istore (lv' := [(4, .int b6), (3, .int b5), (0, .ref (gq G 25)), (1, .int b1), (2, .int b2), (5, .int b5), (6, .int b6)]) hx hb dX4_aunt_72 hl (by decide) rfl (fun ls hl => ?_)
        exact B74 b1 b2 b5 b6 b5 m _ _ _ (lv_sub hl [2, 3, 4, 1, 0, 5] rfl) hw h
      intro b1 b2 b3 b4 b5 m H locs ls hl hw h
      rw [f4_aunt_L28_s] at h
      refine lv_iload hx hb dX4_aunt_28 (lv_at hl 5 rfl) ?_
      refine lv_bipush (v := (16 : Int32)) hx hb dX4_aunt_30 (by decide) ?_
      refine lv_icmp_ge (tgt := 80) hx hb dX4_aunt_32 (by decide) (fun hc => ?_) (fun hc => ?_)
      · replace h := p_t hc h
        refine lv_aload_n hx hb dX4_aunt_80 rfl (lv_at hl 0 rfl) ?_
        refine w_get C hw (v := .ref (gq G 26)) (k := 0) (wk_model G x m) rfl it_4 (by decide) fl_X4_9 rfl dX4_aunt_81 ?_
        refine lv_iconst (v := (3 : Int32)) hx hb dX4_aunt_84 (by decide) ?_
        refine lv_iload_n hx hb dX4_aunt_85 rfl (lv_at hl 2 rfl) ?_
        obtain ⟨hq, h⟩ := p_if h
        refine w_astM C hw am_26 hq dX4_aunt_86 (fun H locs hw => ?_)
        refine lv_iload_n hx hb dX4_aunt_87 rfl (lv_at hl 3 rfl) ?_
        replace h := Option.some.inj h
        subst h
        exact w_iret C hw (v := b3) rfl rfl dX4_aunt_88
      · replace h := p_f hc h
        refine lv_aload_n hx hb dX4_aunt_35 rfl (lv_at hl 0 rfl) ?_
        refine w_get C hw (v := .ref (gq G 26)) (k := 0) (wk_model G x m) rfl it_4 (by decide) fl_X4_9 rfl dX4_aunt_36 ?_
        refine lv_iconst (v := (3 : Int32)) hx hb dX4_aunt_39 (by decide) ?_
        refine lv_iload_n hx hb dX4_aunt_40 rfl (lv_at hl 2 rfl) ?_
        refine lv_iconst (v := (1 : Int32)) hx hb dX4_aunt_41 (by decide) ?_
        refine lv_iload hx hb dX4_aunt_42 (lv_at hl 5 rfl) ?_
        refine lv_ishl hx hb dX4_aunt_44 ?_
        refine lv_ior hx hb dX4_aunt_45 ?_
        obtain ⟨hq, h⟩ := p_if h
        refine w_astM C hw am_26 hq dX4_aunt_46 (fun H locs hw => ?_)
        refine lv_aload_n hx hb dX4_aunt_47 rfl (lv_at hl 0 rfl) ?_
        refine lv_bipush (v := (15 : Int32)) hx hb dX4_aunt_48 (by decide) ?_
        refine lv_iload_n hx hb dX4_aunt_50 rfl (lv_at hl 1 rfl) ?_
        obtain ⟨⟨v4, z3⟩, hq, h⟩ := p_bd h
        dsimp only at h
        refine w_Vi C hw (As := [.int (15 : Int32), .int b1]) (rest := []) (c4_loudBy l G x (up m 26 (3 : Int32).toNatClampNeg (b2 ||| ((1 : Int32) <<< (b5 &&& 31)))) (15 : Int32) b1 (v4, z3) hq) kv_X4_loudBy ml_X4_174 ⟨rfl, rfl⟩ ⟨Nat.le_of_ble_eq_true rfl, Nat.le_of_ble_eq_true rfl⟩ ⟨Nat.zero_le _, Nat.zero_le _⟩ (w_recv C hw (wk_model G x (up m 26 (3 : Int32).toNatClampNeg (b2 ||| ((1 : Int32) <<< (b5 &&& 31))))) rfl) rfl rfl (Nat.le_of_ble_eq_true rfl) (lv_sub hl [] rfl) dX4_aunt_51 (fun H locs hw => ?_)
        refine lv_istore (lv' := [(6, .int v4), (0, .ref (gq G 25)), (1, .int b1), (2, .int b2), (3, .int b3), (4, .int b4), (5, .int b5)]) hx hb dX4_aunt_54 hl (by decide) rfl (fun ls hl => ?_)
        refine lv_iload_n hx hb dX4_aunt_56 rfl (lv_at hl 4 rfl) ?_
        refine lv_if_lt (tgt := 67) hx hb dX4_aunt_57 (by decide) (fun hc => ?_) (fun hc => ?_)
        · replace h := p_t hc h
          exact B67 b1 b2 b5 v4 z3 _ _ _ (lv_sub hl [1, 2, 3, 6, 0] rfl) hw h
        · replace h := p_f hc h
          refine lv_iload hx hb dX4_aunt_60 (lv_at hl 0 rfl) ?_
          refine lv_iload hx hb dX4_aunt_62 (lv_at hl 5 rfl) ?_
          refine lv_icmp_ge (tgt := 74) hx hb dX4_aunt_64 (by decide) (fun hc => ?_) (fun hc => ?_)
          · replace h := p_t hc h
            exact B74 b1 b2 b3 b4 b5 z3 _ _ _ (lv_sub hl [1, 2, 3, 4, 5, 6] rfl) hw h
          · replace h := p_f hc h
            exact B67 b1 b2 b5 v4 z3 _ _ _ (lv_sub hl [1, 2, 3, 6, 0] rfl) hw h
  unfold f4_aunt at h
  refine lv_iload_n hx hb dX4_aunt_0 rfl (lv_at hl 1 rfl) ?_
  refine w_Si C hw (As := [.int a1]) (rest := []) (c4_isShort l G x m a1 _ rfl) ks_X4_isShort ml_X4_208 ⟨rfl, rfl⟩ ⟨Nat.le_of_ble_eq_true rfl, Nat.le_of_ble_eq_true rfl⟩ ⟨Nat.zero_le _, Nat.zero_le _⟩ rfl rfl (Nat.le_of_ble_eq_true rfl) (lv_sub hl [] rfl) dX4_aunt_1 (fun H locs hw => ?_)
  refine lv_if_ne (tgt := 13) hx hb dX4_aunt_4 (by decide) (fun hc => ?_) (fun hc => ?_)
  · replace h := p_f hc h
    refine lv_aload_n hx hb dX4_aunt_13 rfl (lv_at hl 0 rfl) ?_
    refine w_get C hw (v := .ref (gq G 26)) (k := 0) (wk_model G x m) rfl it_4 (by decide) fl_X4_9 rfl dX4_aunt_14 ?_
    refine lv_iconst (v := (3 : Int32)) hx hb dX4_aunt_17 (by decide) ?_
    obtain ⟨hq, h⟩ := p_if h
    refine w_ald C hw (am_26 G x m).1 hq dX4_aunt_18 ?_
    refine lv_istore_n (lv' := [(2, .int (m 26 (3 : Int32).toNatClampNeg)), (0, .ref (gq G 25)), (1, .int a1)]) hx hb dX4_aunt_19 rfl hl (by decide) rfl (fun ls hl => ?_)
    refine lv_iconst (v := (-1 : Int32)) hx hb dX4_aunt_20 (by decide) ?_
    refine lv_istore_n (lv' := [(3, .int (-1 : Int32)), (2, .int (m 26 (3 : Int32).toNatClampNeg)), (0, .ref (gq G 25)), (1, .int a1)]) hx hb dX4_aunt_21 rfl hl (by decide) rfl (fun ls hl => ?_)
    refine lv_iconst (v := (0 : Int32)) hx hb dX4_aunt_22 (by decide) ?_
    refine lv_istore (lv' := [(4, .int (0 : Int32)), (3, .int (-1 : Int32)), (2, .int (m 26 (3 : Int32).toNatClampNeg)), (0, .ref (gq G 25)), (1, .int a1)]) hx hb dX4_aunt_23 hl (by decide) rfl (fun ls hl => ?_)
    refine lv_iconst (v := (0 : Int32)) hx hb dX4_aunt_25 (by decide) ?_
    refine lv_istore (lv' := [(5, .int (0 : Int32)), (4, .int (0 : Int32)), (3, .int (-1 : Int32)), (2, .int (m 26 (3 : Int32).toNatClampNeg)), (0, .ref (gq G 25)), (1, .int a1)]) hx hb dX4_aunt_26 hl (by decide) rfl (fun ls hl => ?_)
    exact L28 fu a1 (m 26 (3 : Int32).toNatClampNeg) (-1 : Int32) (0 : Int32) (0 : Int32) m _ _ _ (lv_sub hl [4, 5, 3, 2, 1, 0] rfl) hw h
  · replace h := p_t hc h
    refine lv_aload_n hx hb dX4_aunt_7 rfl (lv_at hl 0 rfl) ?_
    refine lv_iconst (v := (0 : Int32)) hx hb dX4_aunt_8 (by decide) ?_
    obtain ⟨⟨v2, z1⟩, hq, h⟩ := p_bd h
    dsimp only at h
    refine w_Vi C hw (As := [.int (0 : Int32)]) (rest := []) (c4_finds l G x m (0 : Int32) (v2, z1) hq) kv_X4_finds ml_X4_82 ⟨rfl, rfl⟩ ⟨Nat.le_of_ble_eq_true rfl, Nat.le_of_ble_eq_true rfl⟩ ⟨Nat.zero_le _, Nat.zero_le _⟩ (w_recv C hw (wk_model G x m) rfl) rfl rfl (Nat.le_of_ble_eq_true rfl) (lv_sub hl [] rfl) dX4_aunt_9 (fun H locs hw => ?_)
    replace h := Option.some.inj h
    subst h
    exact w_iret C hw (v := v2) rfl rfl dX4_aunt_12

def f4_isAsTold_b57  (k4 : Int32 → Int32 → Int32 → St → Option (Int32 × St)) (b1 : Int32) (b3 : Int32) (w0 : Int32) (m : St) : Option (Int32 × St) :=
  k4 b1 w0 (b3 + (1 : Int32)) m
def f4_isAsTold_b52  (k4 : Int32 → Int32 → Int32 → St → Option (Int32 × St)) (b1 : Int32) (b3 : Int32) (m : St) : Option (Int32 × St) :=
  f4_isAsTold_b57 k4 b1 b3 (1 : Int32) m
def f4_isAsTold_L4   : Nat → Int32 → Int32 → Int32 → St → Option (Int32 × St)
  | 0, _, _, _, _ => none
  | n + 1, b1, b2, b3, m =>
    if b1 < 0 ∨ 4 ≤ b1.toNatClampNeg then none else
    if (m 33 b1.toNatClampNeg) ≤ b3 then
      if b2 = 0 ∨ b2 = 1 then
        some (b2, m)
      else none
    else
      if b2 = 0 then
        if b2 = 0 ∨ b2 = 1 then
          some (b2, m)
        else none
      else
        (f4_aMinute m).bind fun z1 =>
        if (((40 : Int32) * b1) + b3) < 0 ∨ 160 ≤ (((40 : Int32) * b1) + b3).toNatClampNeg then none else
        if (z1 34 (((40 : Int32) * b1) + b3).toNatClampNeg) = (-1 : Int32) then
          f4_isAsTold_b52 (f4_isAsTold_L4 n) b1 b3 z1
        else
          (f4_loudAt (15 : Int32) z1).bind fun v2 =>
          if (z1 34 (((40 : Int32) * b1) + b3).toNatClampNeg) = v2 then
            f4_isAsTold_b52 (f4_isAsTold_L4 n) b1 b3 z1
          else
            f4_isAsTold_b57 (f4_isAsTold_L4 n) b1 b3 (0 : Int32) z1
theorem f4_isAsTold_L4_0   (b1 : Int32) (b2 : Int32) (b3 : Int32) (m : St) : f4_isAsTold_L4  0 b1 b2 b3 m = none := rfl
theorem f4_isAsTold_L4_s   (n : Nat) (b1 : Int32) (b2 : Int32) (b3 : Int32) (m : St) : f4_isAsTold_L4  (n + 1) b1 b2 b3 m =
    if b1 < 0 ∨ 4 ≤ b1.toNatClampNeg then none else
    if (m 33 b1.toNatClampNeg) ≤ b3 then
      if b2 = 0 ∨ b2 = 1 then
        some (b2, m)
      else none
    else
      if b2 = 0 then
        if b2 = 0 ∨ b2 = 1 then
          some (b2, m)
        else none
      else
        (f4_aMinute m).bind fun z1 =>
        if (((40 : Int32) * b1) + b3) < 0 ∨ 160 ≤ (((40 : Int32) * b1) + b3).toNatClampNeg then none else
        if (z1 34 (((40 : Int32) * b1) + b3).toNatClampNeg) = (-1 : Int32) then
          f4_isAsTold_b52 (f4_isAsTold_L4 n) b1 b3 z1
        else
          (f4_loudAt (15 : Int32) z1).bind fun v2 =>
          if (z1 34 (((40 : Int32) * b1) + b3).toNatClampNeg) = v2 then
            f4_isAsTold_b52 (f4_isAsTold_L4 n) b1 b3 z1
          else
            f4_isAsTold_b57 (f4_isAsTold_L4 n) b1 b3 (0 : Int32) z1 := rfl
def f4_isAsTold  (a1 : Int32) (m : St) : Option (Int32 × St) :=
  f4_isAsTold_L4 fu a1 (1 : Int32) (0 : Int32) m
set_option maxHeartbeats 4000000 in
set_option maxRecDepth 100000 in
theorem c4_isAsTold (l : Launch) (G : GT)  (x m : St) (a1 : Int32) (r : Int32 × St) (h : f4_isAsTold a1 m = some r) : Mt l yX4_isAsTold cX4_isAsTold 5 (some .boolean) (rmF 5 113) G x m [.ref (gq G 25), .int a1] (some (.int r.1)) x r.2 := by
  refine Mt.of (by decide) (Nat.le_of_ble_eq_true rfl) ?_
  intro p e s mm args below meth c C ls hl hw
  have hx := C.1
  have hb := C.2.1
  have hown := C.2.2.2.2.1
  replace hl : lv_has ls 5 [(0, .ref (gq G 25)), (1, .int a1)] := hl
  have L4 : ∀ (n4 : Nat) (b1 : Int32) (b2 : Int32) (b3 : Int32) (m : St) (H : Heap) (locs : List Loc) (ls : Array Slot), lv_has ls 5 [(0, .ref (gq G 25)), (1, .int b1), (2, .int b2), (3, .int b3)] → Wd G s x m H locs → f4_isAsTold_L4 n4 b1 b2 b3 m = some r → W p l e (rmF 5 113) s mm args below meth c H locs 0 0 (QE below G (some (.int r.1)) x r.2 args s) (F0 mm 4 ls []) := by
    intro n4
    induction n4 with
    | zero =>
      intro b1 b2 b3 m H locs ls hl hw h
      rw [f4_isAsTold_L4_0] at h
      exact absurd h.symm (Option.some_ne_none _)
    | succ n4 ih4 =>
      have B57 : ∀ (b1 : Int32) (b3 : Int32) (w0 : Int32) (m : St) (H : Heap) (locs : List Loc) (ls : Array Slot), lv_has ls 5 [(0, .ref (gq G 25)), (1, .int b1), (3, .int b3)] → Wd G s x m H locs → f4_isAsTold_b57 (f4_isAsTold_L4 n4) b1 b3 w0 m = some r → W p l e (rmF 5 113) s mm args below meth c H locs 0 0 (QE below G (some (.int r.1)) x r.2 args s) (F0 mm 57 ls [.int w0]) := by
        intro b1 b3 w0 m H locs ls hl hw h
        unfold f4_isAsTold_b57 at h
        refine lv_istore_n (lv' := [(2, .int w0), (0, .ref (gq G 25)), (1, .int b1), (3, .int b3)]) hx hb dX4_isAsTold_57 rfl hl (by decide) rfl (fun ls hl => ?_)
        refine lv_iinc (v := (b3 + (1 : Int32))) (lv' := [(3, .int (b3 + (1 : Int32))), (2, .int w0), (0, .ref (gq G 25)), (1, .int b1)]) hx hb dX4_isAsTold_58 hl (k := 3) rfl rfl (by decide) rfl (fun ls hl => ?_)
        refine lv_goto (tgt := 4) hx hb dX4_isAsTold_61 (by decide) ?_
        exact ih4 b1 w0 (b3 + (1 : Int32)) m _ _ _ (lv_sub hl [2, 3, 1, 0] rfl) hw h
      have B52 : ∀ (b1 : Int32) (b3 : Int32) (m : St) (H : Heap) (locs : List Loc) (ls : Array Slot), lv_has ls 5 [(0, .ref (gq G 25)), (1, .int b1), (3, .int b3)] → Wd G s x m H locs → f4_isAsTold_b52 (f4_isAsTold_L4 n4) b1 b3 m = some r → W p l e (rmF 5 113) s mm args below meth c H locs 0 0 (QE below G (some (.int r.1)) x r.2 args s) (F0 mm 52 ls []) := by
        intro b1 b3 m H locs ls hl hw h
        unfold f4_isAsTold_b52 at h
        refine lv_iconst (v := (1 : Int32)) hx hb dX4_isAsTold_52 (by decide) ?_
        refine lv_goto (tgt := 57) hx hb dX4_isAsTold_53 (by decide) ?_
        exact B57 b1 b3 (1 : Int32) m _ _ _ (lv_sub hl [0, 1, 2] rfl) hw h
      intro b1 b2 b3 m H locs ls hl hw h
      rw [f4_isAsTold_L4_s] at h
      refine lv_iload_n hx hb dX4_isAsTold_4 rfl (lv_at hl 3 rfl) ?_
      refine lv_aload_n hx hb dX4_isAsTold_5 rfl (lv_at hl 0 rfl) ?_
      refine w_get C hw (v := .ref (gq G 33)) (k := 20) (wk_model G x m) rfl it_4 (by decide) fl_X4_31 rfl dX4_isAsTold_6 ?_
      refine lv_iload_n hx hb dX4_isAsTold_9 rfl (lv_at hl 1 rfl) ?_
      obtain ⟨hq, h⟩ := p_if h
      refine w_ald C hw (am_33 G x m).1 hq dX4_isAsTold_10 ?_
      refine lv_icmp_ge (tgt := 64) hx hb dX4_isAsTold_11 (by decide) (fun hc => ?_) (fun hc => ?_)
      · replace h := p_t hc h
        refine lv_iload_n hx hb dX4_isAsTold_64 rfl (lv_at hl 2 rfl) ?_
        obtain ⟨hq, h⟩ := p_ck h
        replace h := Option.some.inj h
        subst h
        exact w_iret C hw (v := b2) rfl (nz_b hq) dX4_isAsTold_65
      · replace h := p_f hc h
        refine lv_iload_n hx hb dX4_isAsTold_14 rfl (lv_at hl 2 rfl) ?_
        refine lv_if_eq (tgt := 64) hx hb dX4_isAsTold_15 (by decide) (fun hc => ?_) (fun hc => ?_)
        · replace h := p_t hc h
          refine lv_iload_n hx hb dX4_isAsTold_64 rfl (lv_at hl 2 rfl) ?_
          obtain ⟨hq, h⟩ := p_ck h
          replace h := Option.some.inj h
          subst h
          exact w_iret C hw (v := b2) rfl (nz_b hq) dX4_isAsTold_65
        · replace h := p_f hc h
          refine lv_aload_n hx hb dX4_isAsTold_18 rfl (lv_at hl 0 rfl) ?_
          obtain ⟨z1, hq, h⟩ := p_bd h
          refine w_Vv C hw (As := []) (rest := []) (c4_aMinute l G x m z1 hq) kv_X4_aMinute ml_X4_146 ⟨rfl, rfl⟩ ⟨Nat.le_of_ble_eq_true rfl, Nat.le_of_ble_eq_true rfl⟩ ⟨Nat.zero_le _, Nat.zero_le _⟩ (w_recv C hw (wk_model G x m) rfl) rfl rfl (Nat.le_of_ble_eq_true rfl) (lv_sub hl [] rfl) dX4_isAsTold_19 (fun H locs hw => ?_)
          refine lv_aload_n hx hb dX4_isAsTold_22 rfl (lv_at hl 0 rfl) ?_
          refine w_get C hw (v := .ref (gq G 34)) (k := 21) (wk_model G x z1) rfl it_4 (by decide) fl_X4_34 rfl dX4_isAsTold_23 ?_
          refine lv_bipush (v := (40 : Int32)) hx hb dX4_isAsTold_26 (by decide) ?_
          refine lv_iload_n hx hb dX4_isAsTold_28 rfl (lv_at hl 1 rfl) ?_
          refine lv_imul hx hb dX4_isAsTold_29 ?_
          refine lv_iload_n hx hb dX4_isAsTold_30 rfl (lv_at hl 3 rfl) ?_
          refine lv_iadd hx hb dX4_isAsTold_31 ?_
          obtain ⟨hq, h⟩ := p_if h
          refine w_ald C hw (am_34 G x z1).1 hq dX4_isAsTold_32 ?_
          refine lv_istore (lv' := [(4, .int (z1 34 (((40 : Int32) * b1) + b3).toNatClampNeg)), (0, .ref (gq G 25)), (1, .int b1), (2, .int b2), (3, .int b3)]) hx hb dX4_isAsTold_33 hl (by decide) rfl (fun ls hl => ?_)
          refine lv_iload hx hb dX4_isAsTold_35 (lv_at hl 0 rfl) ?_
          refine lv_iconst (v := (-1 : Int32)) hx hb dX4_isAsTold_37 (by decide) ?_
          refine lv_icmp_eq (tgt := 52) hx hb dX4_isAsTold_38 (by decide) (fun hc => ?_) (fun hc => ?_)
          · replace h := p_t hc h
            exact B52 b1 b3 z1 _ _ _ (lv_sub hl [1, 2, 4] rfl) hw h
          · replace h := p_f hc h
            refine lv_iload hx hb dX4_isAsTold_41 (lv_at hl 0 rfl) ?_
            refine lv_aload_n hx hb dX4_isAsTold_43 rfl (lv_at hl 1 rfl) ?_
            refine lv_bipush (v := (15 : Int32)) hx hb dX4_isAsTold_44 (by decide) ?_
            obtain ⟨v2, hq, h⟩ := p_bd h
            refine w_Vi C hw (As := [.int (15 : Int32)]) (rest := [.int (z1 34 (((40 : Int32) * b1) + b3).toNatClampNeg)]) (c4_loudAt l G x z1 (15 : Int32) v2 hq) kv_X4_loudAt ml_X4_72 ⟨rfl, rfl⟩ ⟨Nat.le_of_ble_eq_true rfl, Nat.le_of_ble_eq_true rfl⟩ ⟨Nat.zero_le _, Nat.zero_le _⟩ (w_recv C hw (wk_model G x z1) rfl) rfl rfl (Nat.le_of_ble_eq_true rfl) (lv_sub hl [] rfl) dX4_isAsTold_46 (fun H locs hw => ?_)
            refine lv_icmp_ne (tgt := 56) hx hb dX4_isAsTold_49 (by decide) (fun hc => ?_) (fun hc => ?_)
            · replace h := p_f hc h
              refine lv_iconst (v := (0 : Int32)) hx hb dX4_isAsTold_56 (by decide) ?_
              exact B57 b1 b3 (0 : Int32) z1 _ _ _ (lv_sub hl [1, 2, 4] rfl) hw h
            · replace h := p_t hc h
              exact B52 b1 b3 z1 _ _ _ (lv_sub hl [1, 2, 4] rfl) hw h
  unfold f4_isAsTold at h
  refine lv_iconst (v := (1 : Int32)) hx hb dX4_isAsTold_0 (by decide) ?_
  refine lv_istore_n (lv' := [(2, .int (1 : Int32)), (0, .ref (gq G 25)), (1, .int a1)]) hx hb dX4_isAsTold_1 rfl hl (by decide) rfl (fun ls hl => ?_)
  refine lv_iconst (v := (0 : Int32)) hx hb dX4_isAsTold_2 (by decide) ?_
  refine lv_istore_n (lv' := [(3, .int (0 : Int32)), (2, .int (1 : Int32)), (0, .ref (gq G 25)), (1, .int a1)]) hx hb dX4_isAsTold_3 rfl hl (by decide) rfl (fun ls hl => ?_)
  exact L4 fu a1 (1 : Int32) (0 : Int32) m _ _ _ (lv_sub hl [2, 3, 1, 0] rfl) hw h

def f4_findFits_b99  (k12 : Int32 → Int32 → Int32 → St → Option (St)) (k21 : Int32 → Int32 → Int32 → Int32 → St → Option (St)) (b1 : Int32) (b2 : Int32) (b3 : Int32) (b4 : Int32) (w1 : Int32) (m : St) : Option (St) :=
  k21 b1 b2 b3 (b4 + (1 : Int32)) (up m 25 13 w1)
def f4_findFits_b95  (k12 : Int32 → Int32 → Int32 → St → Option (St)) (k21 : Int32 → Int32 → Int32 → Int32 → St → Option (St)) (b1 : Int32) (b2 : Int32) (b3 : Int32) (b4 : Int32) (m : St) : Option (St) :=
  f4_findFits_b99 k12 k21 b1 b2 b3 b4 (m 25 13) m
def f4_findFits_b68  (k12 : Int32 → Int32 → Int32 → St → Option (St)) (k21 : Int32 → Int32 → Int32 → Int32 → St → Option (St)) (b1 : Int32) (b2 : Int32) (b3 : Int32) (b4 : Int32) (b6 : Int32) (w1 : Int32) (w2 : Int32) (m : St) : Option (St) :=
  if b6 = 0 then
    f4_findFits_b95 k12 k21 b1 b2 b3 b4 (up m 25 12 (w1 + w2))
  else
    if 0 ≤ ((up m 25 12 (w1 + w2)) 25 13) then
      f4_findFits_b95 k12 k21 b1 b2 b3 b4 (up m 25 12 (w1 + w2))
    else
      f4_findFits_b99 k12 k21 b1 b2 b3 b4 (((16 : Int32) * b3) + b4) (up m 25 12 (w1 + w2))
def f4_findFits_L21  (k12 : Int32 → Int32 → Int32 → St → Option (St)) : Nat → Int32 → Int32 → Int32 → Int32 → St → Option (St)
  | 0, _, _, _, _, _ => none
  | n + 1, b1, b2, b3, b4, m =>
    if (16 : Int32) ≤ b4 then
      k12 b1 b2 (b3 + (1 : Int32)) m
    else
      (f4_lends m).bind fun z1 =>
      (f4_adds b3 b4 b2 z1).bind fun q => match q with
      | (v3, z2) =>
        (f4_isAsTold b1 z2).bind fun q => match q with
        | (v5, z4) =>
          (f4_laysBack z4).bind fun z6 =>
          if v5 = 0 then
            f4_findFits_b68 k12 (f4_findFits_L21 k12 n) b1 b2 b3 b4 v5 (z6 25 12) (0 : Int32) z6
          else
            f4_findFits_b68 k12 (f4_findFits_L21 k12 n) b1 b2 b3 b4 v5 (z6 25 12) (1 : Int32) z6
theorem f4_findFits_L21_0  (k12 : Int32 → Int32 → Int32 → St → Option (St)) (b1 : Int32) (b2 : Int32) (b3 : Int32) (b4 : Int32) (m : St) : f4_findFits_L21 k12 0 b1 b2 b3 b4 m = none := rfl
theorem f4_findFits_L21_s  (k12 : Int32 → Int32 → Int32 → St → Option (St)) (n : Nat) (b1 : Int32) (b2 : Int32) (b3 : Int32) (b4 : Int32) (m : St) : f4_findFits_L21 k12 (n + 1) b1 b2 b3 b4 m =
    if (16 : Int32) ≤ b4 then
      k12 b1 b2 (b3 + (1 : Int32)) m
    else
      (f4_lends m).bind fun z1 =>
      (f4_adds b3 b4 b2 z1).bind fun q => match q with
      | (v3, z2) =>
        (f4_isAsTold b1 z2).bind fun q => match q with
        | (v5, z4) =>
          (f4_laysBack z4).bind fun z6 =>
          if v5 = 0 then
            f4_findFits_b68 k12 (f4_findFits_L21 k12 n) b1 b2 b3 b4 v5 (z6 25 12) (0 : Int32) z6
          else
            f4_findFits_b68 k12 (f4_findFits_L21 k12 n) b1 b2 b3 b4 v5 (z6 25 12) (1 : Int32) z6 := rfl
def f4_findFits_L12   : Nat → Int32 → Int32 → Int32 → St → Option (St)
  | 0, _, _, _, _ => none
  | n + 1, b1, b2, b3, m =>
    if (6 : Int32) < b3 then
      some m
    else
      f4_findFits_L21 (f4_findFits_L12 n) fu b1 b2 b3 (0 : Int32) m
theorem f4_findFits_L12_0   (b1 : Int32) (b2 : Int32) (b3 : Int32) (m : St) : f4_findFits_L12  0 b1 b2 b3 m = none := rfl
theorem f4_findFits_L12_s   (n : Nat) (b1 : Int32) (b2 : Int32) (b3 : Int32) (m : St) : f4_findFits_L12  (n + 1) b1 b2 b3 m =
    if (6 : Int32) < b3 then
      some m
    else
      f4_findFits_L21 (f4_findFits_L12 n) fu b1 b2 b3 (0 : Int32) m := rfl
def f4_findFits  (a1 : Int32) (a2 : Int32) (m : St) : Option (St) :=
  f4_findFits_L12 fu a1 a2 (0 : Int32) (up (up m 25 12 (0 : Int32)) 25 13 (-1 : Int32))
set_option maxHeartbeats 4000000 in
set_option maxRecDepth 100000 in
theorem c4_findFits (l : Launch) (G : GT)  (x m : St) (a1 : Int32) (a2 : Int32) (r : St) (h : f4_findFits a1 a2 m = some r) : Mt l yX4_findFits cX4_findFits 7 none (rmF 6 137) G x m [.ref (gq G 25), .int a1, .int a2] none x r := by
  refine Mt.of (by decide) (Nat.le_of_ble_eq_true rfl) ?_
  intro p e s mm args below meth c C ls hl hw
  have hx := C.1
  have hb := C.2.1
  have hown := C.2.2.2.2.1
  replace hl : lv_has ls 7 [(0, .ref (gq G 25)), (1, .int a1), (2, .int a2)] := hl
  have L12 : ∀ (n12 : Nat) (b1 : Int32) (b2 : Int32) (b3 : Int32) (m : St) (H : Heap) (locs : List Loc) (ls : Array Slot), lv_has ls 7 [(0, .ref (gq G 25)), (1, .int b1), (2, .int b2), (3, .int b3)] → Wd G s x m H locs → f4_findFits_L12 n12 b1 b2 b3 m = some r → W p l e (rmF 6 137) s mm args below meth c H locs 0 0 (QE below G none x r args s) (F0 mm 12 ls []) := by
    intro n12
    induction n12 with
    | zero =>
      intro b1 b2 b3 m H locs ls hl hw h
      rw [f4_findFits_L12_0] at h
      exact absurd h.symm (Option.some_ne_none _)
    | succ n12 ih12 =>
      have L21 : ∀ (n21 : Nat) (b1 : Int32) (b2 : Int32) (b3 : Int32) (b4 : Int32) (m : St) (H : Heap) (locs : List Loc) (ls : Array Slot), lv_has ls 7 [(0, .ref (gq G 25)), (1, .int b1), (2, .int b2), (3, .int b3), (4, .int b4)] → Wd G s x m H locs → f4_findFits_L21 (f4_findFits_L12 n12) n21 b1 b2 b3 b4 m = some r → W p l e (rmF 6 137) s mm args below meth c H locs 0 0 (QE below G none x r args s) (F0 mm 21 ls []) := by
        intro n21
        induction n21 with
        | zero =>
          intro b1 b2 b3 b4 m H locs ls hl hw h
          rw [f4_findFits_L21_0] at h
          exact absurd h.symm (Option.some_ne_none _)
        | succ n21 ih21 =>
          have B99 : ∀ (b1 : Int32) (b2 : Int32) (b3 : Int32) (b4 : Int32) (w1 : Int32) (m : St) (H : Heap) (locs : List Loc) (ls : Array Slot), lv_has ls 7 [(0, .ref (gq G 25)), (1, .int b1), (2, .int b2), (3, .int b3), (4, .int b4)] → Wd G s x m H locs → f4_findFits_b99 (f4_findFits_L12 n12) (f4_findFits_L21 (f4_findFits_L12 n12) n21) b1 b2 b3 b4 w1 m = some r → W p l e (rmF 6 137) s mm args below meth c H locs 0 0 (QE below G none x r args s) (F0 mm 99 ls [.int w1, .ref (gq G 25)]) := by
            intro b1 b2 b3 b4 w1 m H locs ls hl hw h
            unfold f4_findFits_b99 at h
            refine w_put C hw (k := 13) tyX4 tyX4_ok nmX4 (wk_model G x m) rfl it_4 (by decide) fl_X4_234 rfl (ty := .int) rfl rfl rfl (Nat.le_of_ble_eq_true rfl) (ws_model_13 G x m _) dX4_findFits_99 (fun H locs hw => ?_)
            refine lv_iinc (v := (b4 + (1 : Int32))) (lv' := [(4, .int (b4 + (1 : Int32))), (0, .ref (gq G 25)), (1, .int b1), (2, .int b2), (3, .int b3)]) hx hb dX4_findFits_102 hl (k := 4) rfl rfl (by decide) rfl (fun ls hl => ?_)
            refine lv_goto (tgt := 21) hx hb dX4_findFits_105 (by decide) ?_
            exact ih21 b1 b2 b3 (b4 + (1 : Int32)) (up m 25 13 w1) _ _ _ (lv_sub hl [1, 2, 3, 4, 0] rfl) hw h
          have B95 : ∀ (b1 : Int32) (b2 : Int32) (b3 : Int32) (b4 : Int32) (m : St) (H : Heap) (locs : List Loc) (ls : Array Slot), lv_has ls 7 [(0, .ref (gq G 25)), (1, .int b1), (2, .int b2), (3, .int b3), (4, .int b4)] → Wd G s x m H locs → f4_findFits_b95 (f4_findFits_L12 n12) (f4_findFits_L21 (f4_findFits_L12 n12) n21) b1 b2 b3 b4 m = some r → W p l e (rmF 6 137) s mm args below meth c H locs 0 0 (QE below G none x r args s) (F0 mm 95 ls [.ref (gq G 25)]) := by
            intro b1 b2 b3 b4 m H locs ls hl hw h
            unfold f4_findFits_b95 at h
            refine lv_aload_n hx hb dX4_findFits_95 rfl (lv_at hl 0 rfl) ?_
            refine w_get C hw (v := .int (m 25 13)) (k := 13) (wk_model G x m) rfl it_4 (by decide) fl_X4_234 rfl dX4_findFits_96 ?_
            exact B99 b1 b2 b3 b4 (m 25 13) m _ _ _ (lv_sub hl [0, 1, 2, 3, 4] rfl) hw h
          have B68 : ∀ (b1 : Int32) (b2 : Int32) (b3 : Int32) (b4 : Int32) (b6 : Int32) (w1 : Int32) (w2 : Int32) (m : St) (H : Heap) (locs : List Loc) (ls : Array Slot), lv_has ls 7 [(0, .ref (gq G 25)), (1, .int b1), (2, .int b2), (3, .int b3), (4, .int b4), (6, .int b6)] → Wd G s x m H locs → f4_findFits_b68 (f4_findFits_L12 n12) (f4_findFits_L21 (f4_findFits_L12 n12) n21) b1 b2 b3 b4 b6 w1 w2 m = some r → W p l e (rmF 6 137) s mm args below meth c H locs 0 0 (QE below G none x r args s) (F0 mm 68 ls [.int w2, .int w1, .ref (gq G 25)]) := by
            intro b1 b2 b3 b4 b6 w1 w2 m H locs ls hl hw h
            unfold f4_findFits_b68 at h
            refine lv_iadd hx hb dX4_findFits_68 ?_
            refine w_put C hw (k := 12) tyX4 tyX4_ok nmX4 (wk_model G x m) rfl it_4 (by decide) fl_X4_231 rfl (ty := .int) rfl rfl rfl (Nat.le_of_ble_eq_true rfl) (ws_model_12 G x m _) dX4_findFits_69 (fun H locs hw => ?_)
            refine lv_aload_n hx hb dX4_findFits_72 rfl (lv_at hl 0 rfl) ?_
            refine lv_iload hx hb dX4_findFits_73 (lv_at hl 5 rfl) ?_
            refine lv_if_eq (tgt := 95) hx hb dX4_findFits_75 (by decide) (fun hc => ?_) (fun hc => ?_)
            · replace h := p_t hc h
              exact B95 b1 b2 b3 b4 (up m 25 12 (w1 + w2)) _ _ _ (lv_sub hl [0, 1, 2, 3, 4] rfl) hw h
            · replace h := p_f hc h
              refine lv_aload_n hx hb dX4_findFits_78 rfl (lv_at hl 0 rfl) ?_
              refine w_get C hw (v := .int ((up m 25 12 (w1 + w2)) 25 13)) (k := 13) (wk_model G x (up m 25 12 (w1 + w2))) rfl it_4 (by decide) fl_X4_234 rfl dX4_findFits_79 ?_
              refine lv_if_ge (tgt := 95) hx hb dX4_findFits_82 (by decide) (fun hc => ?_) (fun hc => ?_)
              · replace h := p_t hc h
                exact B95 b1 b2 b3 b4 (up m 25 12 (w1 + w2)) _ _ _ (lv_sub hl [0, 1, 2, 3, 4] rfl) hw h
              · replace h := p_f hc h
                refine lv_bipush (v := (16 : Int32)) hx hb dX4_findFits_85 (by decide) ?_
                refine lv_iload_n hx hb dX4_findFits_87 rfl (lv_at hl 3 rfl) ?_
                refine lv_imul hx hb dX4_findFits_88 ?_
                refine lv_iload hx hb dX4_findFits_89 (lv_at hl 4 rfl) ?_
                refine lv_iadd hx hb dX4_findFits_91 ?_
                refine lv_goto (tgt := 99) hx hb dX4_findFits_92 (by decide) ?_
                exact B99 b1 b2 b3 b4 (((16 : Int32) * b3) + b4) (up m 25 12 (w1 + w2)) _ _ _ (lv_sub hl [0, 1, 2, 3, 4] rfl) hw h
          intro b1 b2 b3 b4 m H locs ls hl hw h
          rw [f4_findFits_L21_s] at h
          refine lv_iload hx hb dX4_findFits_21 (lv_at hl 4 rfl) ?_
          refine lv_bipush (v := (16 : Int32)) hx hb dX4_findFits_23 (by decide) ?_
          refine lv_icmp_ge (tgt := 108) hx hb dX4_findFits_25 (by decide) (fun hc => ?_) (fun hc => ?_)
          · replace h := p_t hc h
            refine lv_iinc (v := (b3 + (1 : Int32))) (lv' := [(3, .int (b3 + (1 : Int32))), (0, .ref (gq G 25)), (1, .int b1), (2, .int b2), (4, .int b4)]) hx hb dX4_findFits_108 hl (k := 3) rfl rfl (by decide) rfl (fun ls hl => ?_)
            refine lv_goto (tgt := 12) hx hb dX4_findFits_111 (by decide) ?_
            exact ih12 b1 b2 (b3 + (1 : Int32)) m _ _ _ (lv_sub hl [1, 2, 3, 0] rfl) hw h
          · replace h := p_f hc h
            refine lv_aload_n hx hb dX4_findFits_28 rfl (lv_at hl 0 rfl) ?_
            obtain ⟨z1, hq, h⟩ := p_bd h
            refine w_Vv C hw (As := []) (rest := []) (c4_lends l G x m z1 hq) kv_X4_lends ml_X4_168 ⟨rfl, rfl⟩ ⟨Nat.le_of_ble_eq_true rfl, Nat.le_of_ble_eq_true rfl⟩ ⟨Nat.zero_le _, Nat.zero_le _⟩ (w_recv C hw (wk_model G x m) rfl) rfl rfl (Nat.le_of_ble_eq_true rfl) (lv_sub hl [] rfl) dX4_findFits_29 (fun H locs hw => ?_)
            refine lv_aload_n hx hb dX4_findFits_32 rfl (lv_at hl 0 rfl) ?_
            refine lv_iload_n hx hb dX4_findFits_33 rfl (lv_at hl 3 rfl) ?_
            refine lv_iload hx hb dX4_findFits_34 (lv_at hl 4 rfl) ?_
            refine lv_iload_n hx hb dX4_findFits_36 rfl (lv_at hl 2 rfl) ?_
            obtain ⟨⟨v3, z2⟩, hq, h⟩ := p_bd h
            dsimp only at h
            refine w_Vi C hw (As := [.int b3, .int b4, .int b2]) (rest := []) (c4_adds l G x z1 b3 b4 b2 (v3, z2) hq) kv_X4_adds ml_X4_113 ⟨rfl, rfl⟩ ⟨Nat.le_of_ble_eq_true rfl, Nat.le_of_ble_eq_true rfl⟩ ⟨Nat.zero_le _, Nat.zero_le _⟩ (w_recv C hw (wk_model G x z1) rfl) rfl rfl (Nat.le_of_ble_eq_true rfl) (lv_sub hl [] rfl) dX4_findFits_37 (fun H locs hw => ?_)
            refine lv_istore (lv' := [(5, .int v3), (0, .ref (gq G 25)), (1, .int b1), (2, .int b2), (3, .int b3), (4, .int b4)]) hx hb dX4_findFits_40 hl (by decide) rfl (fun ls hl => ?_)
            refine lv_aload_n hx hb dX4_findFits_42 rfl (lv_at hl 1 rfl) ?_
            refine lv_iload_n hx hb dX4_findFits_43 rfl (lv_at hl 2 rfl) ?_
            obtain ⟨⟨v5, z4⟩, hq, h⟩ := p_bd h
            dsimp only at h
            refine w_Vi C hw (As := [.int b1]) (rest := []) (c4_isAsTold l G x z2 b1 (v5, z4) hq) kv_X4_isAsTold ml_X4_237 ⟨rfl, rfl⟩ ⟨Nat.le_of_ble_eq_true rfl, Nat.le_of_ble_eq_true rfl⟩ ⟨Nat.zero_le _, Nat.zero_le _⟩ (w_recv C hw (wk_model G x z2) rfl) rfl rfl (Nat.le_of_ble_eq_true rfl) (lv_sub hl [] rfl) dX4_findFits_44 (fun H locs hw => ?_)
            refine lv_istore (lv' := [(6, .int v5), (5, .int v3), (0, .ref (gq G 25)), (1, .int b1), (2, .int b2), (3, .int b3), (4, .int b4)]) hx hb dX4_findFits_47 hl (by decide) rfl (fun ls hl => ?_)
            refine lv_aload_n hx hb dX4_findFits_49 rfl (lv_at hl 2 rfl) ?_
            obtain ⟨z6, hq, h⟩ := p_bd h
            refine w_Vv C hw (As := []) (rest := []) (c4_laysBack l G x z4 z6 hq) kv_X4_laysBack ml_X4_171 ⟨rfl, rfl⟩ ⟨Nat.le_of_ble_eq_true rfl, Nat.le_of_ble_eq_true rfl⟩ ⟨Nat.zero_le _, Nat.zero_le _⟩ (w_recv C hw (wk_model G x z4) rfl) rfl rfl (Nat.le_of_ble_eq_true rfl) (lv_sub hl [] rfl) dX4_findFits_50 (fun H locs hw => ?_)
            refine lv_aload_n hx hb dX4_findFits_53 rfl (lv_at hl 2 rfl) ?_
            refine lv_dup hx hb dX4_findFits_54 rfl ?_
            refine w_get C hw (v := .int (z6 25 12)) (k := 12) (wk_model G x z6) rfl it_4 (by decide) fl_X4_231 rfl dX4_findFits_55 ?_
            refine lv_iload hx hb dX4_findFits_58 (lv_at hl 0 rfl) ?_
            refine lv_if_eq (tgt := 67) hx hb dX4_findFits_60 (by decide) (fun hc => ?_) (fun hc => ?_)
            · replace h := p_t hc h
              refine lv_iconst (v := (0 : Int32)) hx hb dX4_findFits_67 (by decide) ?_
              exact B68 b1 b2 b3 b4 v5 (z6 25 12) (0 : Int32) z6 _ _ _ (lv_sub hl [2, 3, 4, 5, 6, 0] rfl) hw h
            · replace h := p_f hc h
              refine lv_iconst (v := (1 : Int32)) hx hb dX4_findFits_63 (by decide) ?_
              refine lv_goto (tgt := 68) hx hb dX4_findFits_64 (by decide) ?_
              exact B68 b1 b2 b3 b4 v5 (z6 25 12) (1 : Int32) z6 _ _ _ (lv_sub hl [2, 3, 4, 5, 6, 0] rfl) hw h
      intro b1 b2 b3 m H locs ls hl hw h
      rw [f4_findFits_L12_s] at h
      refine lv_iload_n hx hb dX4_findFits_12 rfl (lv_at hl 3 rfl) ?_
      refine lv_bipush (v := (6 : Int32)) hx hb dX4_findFits_13 (by decide) ?_
      refine lv_icmp_gt (tgt := 114) hx hb dX4_findFits_15 (by decide) (fun hc => ?_) (fun hc => ?_)
      · replace h := p_t hc h
        replace h := Option.some.inj h
        subst h
        exact w_vret C hw rfl dX4_findFits_114
      · replace h := p_f hc h
        refine lv_iconst (v := (0 : Int32)) hx hb dX4_findFits_18 (by decide) ?_
        refine lv_istore (lv' := [(4, .int (0 : Int32)), (0, .ref (gq G 25)), (1, .int b1), (2, .int b2), (3, .int b3)]) hx hb dX4_findFits_19 hl (by decide) rfl (fun ls hl => ?_)
        exact L21 fu b1 b2 b3 (0 : Int32) m _ _ _ (lv_sub hl [1, 2, 3, 4, 0] rfl) hw h
  unfold f4_findFits at h
  refine lv_aload_n hx hb dX4_findFits_0 rfl (lv_at hl 0 rfl) ?_
  refine lv_iconst (v := (0 : Int32)) hx hb dX4_findFits_1 (by decide) ?_
  refine w_put C hw (k := 12) tyX4 tyX4_ok nmX4 (wk_model G x m) rfl it_4 (by decide) fl_X4_231 rfl (ty := .int) rfl rfl rfl (Nat.le_of_ble_eq_true rfl) (ws_model_12 G x m _) dX4_findFits_2 (fun H locs hw => ?_)
  refine lv_aload_n hx hb dX4_findFits_5 rfl (lv_at hl 0 rfl) ?_
  refine lv_iconst (v := (-1 : Int32)) hx hb dX4_findFits_6 (by decide) ?_
  refine w_put C hw (k := 13) tyX4 tyX4_ok nmX4 (wk_model G x (up m 25 12 (0 : Int32))) rfl it_4 (by decide) fl_X4_234 rfl (ty := .int) rfl rfl rfl (Nat.le_of_ble_eq_true rfl) (ws_model_13 G x (up m 25 12 (0 : Int32)) _) dX4_findFits_7 (fun H locs hw => ?_)
  refine lv_iconst (v := (0 : Int32)) hx hb dX4_findFits_10 (by decide) ?_
  refine lv_istore_n (lv' := [(3, .int (0 : Int32)), (0, .ref (gq G 25)), (1, .int a1), (2, .int a2)]) hx hb dX4_findFits_11 rfl hl (by decide) rfl (fun ls hl => ?_)
  exact L12 fu a1 a2 (0 : Int32) (up (up m 25 12 (0 : Int32)) 25 13 (-1 : Int32)) _ _ _ (lv_sub hl [1, 2, 3, 0] rfl) hw h

def f4_isSheet  (a1 : Int32) : Int32 :=
  (f4_in (a1.toInt64) (0 : Int64) (3 : Int64))
theorem bz_X4_isSheet  (a1 : Int32) : f4_isSheet a1 = 0 ∨ f4_isSheet a1 = 1 := by
  unfold f4_isSheet
  repeat' split
  all_goals first | exact Or.inl rfl | exact Or.inr rfl | exact bz_X4_in _ _ _ 
set_option maxHeartbeats 4000000 in
set_option maxRecDepth 100000 in
theorem c4_isSheet (l : Launch) (G : GT)  (x m : St) (a1 : Int32) (r : Int32) (h : f4_isSheet a1 = r) : Mt l yX4_isSheet cX4_isSheet 1 (some .boolean) (rmF 1 25) G x m [.int a1] (some (.int r)) x m := by
  refine Mt.of (by decide) (Nat.le_of_ble_eq_true rfl) ?_
  intro p e s mm args below meth c C ls hl hw
  have hx := C.1
  have hb := C.2.1
  have hown := C.2.2.2.2.1
  replace hl : lv_has ls 1 [(0, .int a1)] := hl
  unfold f4_isSheet at h
  refine lv_iload_n hx hb dX4_isSheet_0 rfl (lv_at hl 0 rfl) ?_
  refine lv_i2l hx hb dX4_isSheet_1 rfl ?_
  refine lv_lconst (v := (0 : Int64)) hx hb dX4_isSheet_2 (by decide) ?_
  refine lv_ldc2 hx hb hown (C.w kl_X4_360) dX4_isSheet_3 ?_
  refine w_Si C hw (As := [.long (a1.toInt64), .long (0 : Int64), .long (3 : Int64)]) (rest := []) (c4_in l G x m (a1.toInt64) (0 : Int64) (3 : Int64) _ rfl) ks_X4_in ml_X4_57 ⟨rfl, rfl⟩ ⟨Nat.le_of_ble_eq_true rfl, Nat.le_of_ble_eq_true rfl⟩ ⟨Nat.zero_le _, Nat.zero_le _⟩ rfl rfl (Nat.le_of_ble_eq_true rfl) (lv_sub hl [] rfl) dX4_isSheet_6 (fun H locs hw => ?_)
  subst h
  exact w_iret C hw (v := (f4_in (a1.toInt64) (0 : Int64) (3 : Int64))) rfl (nz_b (bz_X4_in (a1.toInt64) (0 : Int64) (3 : Int64))) dX4_isSheet_9

def f4_lacks  (a1 : Int32) (m : St) : Option (Int32) :=
  if (f4_isSheet a1) = 0 then
    some (0 : Int32)
  else
    if a1 < 0 ∨ 4 ≤ a1.toNatClampNeg then none else
    if (m 32 a1.toNatClampNeg) = 0 then
      some (5 : Int32)
    else
      some (-1 : Int32)
set_option maxHeartbeats 4000000 in
set_option maxRecDepth 100000 in
theorem c4_lacks (l : Launch) (G : GT)  (x m : St) (a1 : Int32) (r : Int32) (h : f4_lacks a1 m = some r) : Mt l yX4_lacks cX4_lacks 2 (some .int) (rmF 2 45) G x m [.ref (gq G 25), .int a1] (some (.int r)) x m := by
  refine Mt.of (by decide) (Nat.le_of_ble_eq_true rfl) ?_
  intro p e s mm args below meth c C ls hl hw
  have hx := C.1
  have hb := C.2.1
  have hown := C.2.2.2.2.1
  replace hl : lv_has ls 2 [(0, .ref (gq G 25)), (1, .int a1)] := hl
  unfold f4_lacks at h
  refine lv_iload_n hx hb dX4_lacks_0 rfl (lv_at hl 1 rfl) ?_
  refine w_Si C hw (As := [.int a1]) (rest := []) (c4_isSheet l G x m a1 _ rfl) ks_X4_isSheet ml_X4_362 ⟨rfl, rfl⟩ ⟨Nat.le_of_ble_eq_true rfl, Nat.le_of_ble_eq_true rfl⟩ ⟨Nat.zero_le _, Nat.zero_le _⟩ rfl rfl (Nat.le_of_ble_eq_true rfl) (lv_sub hl [] rfl) dX4_lacks_1 (fun H locs hw => ?_)
  refine lv_if_ne (tgt := 11) hx hb dX4_lacks_4 (by decide) (fun hc => ?_) (fun hc => ?_)
  · replace h := p_f hc h
    refine lv_aload_n hx hb dX4_lacks_11 rfl (lv_at hl 0 rfl) ?_
    refine w_get C hw (v := .ref (gq G 32)) (k := 19) (wk_model G x m) rfl it_4 (by decide) fl_X4_28 rfl dX4_lacks_12 ?_
    refine lv_iload_n hx hb dX4_lacks_15 rfl (lv_at hl 1 rfl) ?_
    obtain ⟨hq, h⟩ := p_if h
    refine w_ald C hw (am_32 G x m).1 hq dX4_lacks_16 ?_
    refine lv_if_ne (tgt := 24) hx hb dX4_lacks_17 (by decide) (fun hc => ?_) (fun hc => ?_)
    · replace h := p_f hc h
      refine lv_iconst (v := (-1 : Int32)) hx hb dX4_lacks_24 (by decide) ?_
      replace h := Option.some.inj h
      subst h
      exact w_iret C hw (v := (-1 : Int32)) rfl rfl dX4_lacks_25
    · replace h := p_t hc h
      refine lv_iconst (v := (5 : Int32)) hx hb dX4_lacks_20 (by decide) ?_
      refine lv_goto (tgt := 25) hx hb dX4_lacks_21 (by decide) ?_
      replace h := Option.some.inj h
      subst h
      exact w_iret C hw (v := (5 : Int32)) rfl rfl dX4_lacks_25
  · replace h := p_t hc h
    refine lv_iconst (v := (0 : Int32)) hx hb dX4_lacks_7 (by decide) ?_
    refine lv_goto (tgt := 25) hx hb dX4_lacks_8 (by decide) ?_
    replace h := Option.some.inj h
    subst h
    exact w_iret C hw (v := (0 : Int32)) rfl rfl dX4_lacks_25

def f4_lacksFits  (a1 : Int32) (a2 : Int32) (m : St) : Option (Int32) :=
  (f4_lacks a1 m).bind fun v1 =>
  if v1 < 0 then
    if (f4_in (a2.toInt64) (1 : Int64) (999 : Int64)) = 0 then
      some (0 : Int32)
    else
      if (1 : Int32) < 0 ∨ 119 ≤ (1 : Int32).toNatClampNeg then none else
      if (m 26 (1 : Int32).toNatClampNeg) = (8 : Int32) then
        some (4 : Int32)
      else
        some (-1 : Int32)
  else
    some v1
set_option maxHeartbeats 4000000 in
set_option maxRecDepth 100000 in
theorem c4_lacksFits (l : Launch) (G : GT)  (x m : St) (a1 : Int32) (a2 : Int32) (r : Int32) (h : f4_lacksFits a1 a2 m = some r) : Mt l yX4_lacksFits cX4_lacksFits 4 (some .int) (rmF 3 66) G x m [.ref (gq G 25), .int a1, .int a2] (some (.int r)) x m := by
  refine Mt.of (by decide) (Nat.le_of_ble_eq_true rfl) ?_
  intro p e s mm args below meth c C ls hl hw
  have hx := C.1
  have hb := C.2.1
  have hown := C.2.2.2.2.1
  replace hl : lv_has ls 4 [(0, .ref (gq G 25)), (1, .int a1), (2, .int a2)] := hl
  unfold f4_lacksFits at h
  refine lv_aload_n hx hb dX4_lacksFits_0 rfl (lv_at hl 0 rfl) ?_
  refine lv_iload_n hx hb dX4_lacksFits_1 rfl (lv_at hl 1 rfl) ?_
  obtain ⟨v1, hq, h⟩ := p_bd h
  refine w_Vi C hw (As := [.int a1]) (rest := []) (c4_lacks l G x m a1 v1 hq) kv_X4_lacks ml_X4_240 ⟨rfl, rfl⟩ ⟨Nat.le_of_ble_eq_true rfl, Nat.le_of_ble_eq_true rfl⟩ ⟨Nat.zero_le _, Nat.zero_le _⟩ (w_recv C hw (wk_model G x m) rfl) rfl rfl (Nat.le_of_ble_eq_true rfl) (lv_sub hl [] rfl) dX4_lacksFits_2 (fun H locs hw => ?_)
  refine lv_istore_n (lv' := [(3, .int v1), (0, .ref (gq G 25)), (1, .int a1), (2, .int a2)]) hx hb dX4_lacksFits_5 rfl hl (by decide) rfl (fun ls hl => ?_)
  refine lv_iload_n hx hb dX4_lacksFits_6 rfl (lv_at hl 0 rfl) ?_
  refine lv_if_lt (tgt := 12) hx hb dX4_lacksFits_7 (by decide) (fun hc => ?_) (fun hc => ?_)
  · replace h := p_t hc h
    refine lv_iload_n hx hb dX4_lacksFits_12 rfl (lv_at hl 3 rfl) ?_
    refine lv_i2l hx hb dX4_lacksFits_13 rfl ?_
    refine lv_lconst (v := (1 : Int64)) hx hb dX4_lacksFits_14 (by decide) ?_
    refine lv_ldc2 hx hb hown (C.w kl_X4_126) dX4_lacksFits_15 ?_
    refine w_Si C hw (As := [.long (a2.toInt64), .long (1 : Int64), .long (999 : Int64)]) (rest := []) (c4_in l G x m (a2.toInt64) (1 : Int64) (999 : Int64) _ rfl) ks_X4_in ml_X4_57 ⟨rfl, rfl⟩ ⟨Nat.le_of_ble_eq_true rfl, Nat.le_of_ble_eq_true rfl⟩ ⟨Nat.zero_le _, Nat.zero_le _⟩ rfl rfl (Nat.le_of_ble_eq_true rfl) (lv_sub hl [] rfl) dX4_lacksFits_18 (fun H locs hw => ?_)
    refine lv_if_ne (tgt := 28) hx hb dX4_lacksFits_21 (by decide) (fun hc => ?_) (fun hc => ?_)
    · replace h := p_f hc h
      refine lv_aload_n hx hb dX4_lacksFits_28 rfl (lv_at hl 1 rfl) ?_
      refine w_get C hw (v := .ref (gq G 26)) (k := 0) (wk_model G x m) rfl it_4 (by decide) fl_X4_9 rfl dX4_lacksFits_29 ?_
      refine lv_iconst (v := (1 : Int32)) hx hb dX4_lacksFits_32 (by decide) ?_
      obtain ⟨hq, h⟩ := p_if h
      refine w_ald C hw (am_26 G x m).1 hq dX4_lacksFits_33 ?_
      refine lv_bipush (v := (8 : Int32)) hx hb dX4_lacksFits_34 (by decide) ?_
      refine lv_icmp_ne (tgt := 43) hx hb dX4_lacksFits_36 (by decide) (fun hc => ?_) (fun hc => ?_)
      · replace h := p_f hc h
        refine lv_iconst (v := (-1 : Int32)) hx hb dX4_lacksFits_43 (by decide) ?_
        replace h := Option.some.inj h
        subst h
        exact w_iret C hw (v := (-1 : Int32)) rfl rfl dX4_lacksFits_44
      · replace h := p_t hc h
        refine lv_iconst (v := (4 : Int32)) hx hb dX4_lacksFits_39 (by decide) ?_
        refine lv_goto (tgt := 44) hx hb dX4_lacksFits_40 (by decide) ?_
        replace h := Option.some.inj h
        subst h
        exact w_iret C hw (v := (4 : Int32)) rfl rfl dX4_lacksFits_44
    · replace h := p_t hc h
      refine lv_iconst (v := (0 : Int32)) hx hb dX4_lacksFits_24 (by decide) ?_
      refine lv_goto (tgt := 44) hx hb dX4_lacksFits_25 (by decide) ?_
      replace h := Option.some.inj h
      subst h
      exact w_iret C hw (v := (0 : Int32)) rfl rfl dX4_lacksFits_44
  · replace h := p_f hc h
    refine lv_iload_n hx hb dX4_lacksFits_10 rfl (lv_at hl 0 rfl) ?_
    replace h := Option.some.inj h
    subst h
    exact w_iret C hw (v := v1) rfl rfl dX4_lacksFits_11

def f4_fits  (a1 : Int32) (a2 : Int32) (m : St) : Option (Int32 × St) :=
  (f4_lacksFits a1 a2 m).bind fun v1 =>
  if v1 < 0 then
    (f4_findFits a1 a2 m).bind fun z2 =>
    some ((z2 25 12), z2)
  else
    (f4_finds v1 m).bind fun q => match q with
    | (v4, z3) =>
      some (v4, z3)
set_option maxHeartbeats 4000000 in
set_option maxRecDepth 100000 in
theorem c4_fits (l : Launch) (G : GT)  (x m : St) (a1 : Int32) (a2 : Int32) (r : Int32 × St) (h : f4_fits a1 a2 m = some r) : Mt l yX4_fits cX4_fits 4 (some .int) (rmF 7 163) G x m [.ref (gq G 25), .int a1, .int a2] (some (.int r.1)) x r.2 := by
  refine Mt.of (by decide) (Nat.le_of_ble_eq_true rfl) ?_
  intro p e s mm args below meth c C ls hl hw
  have hx := C.1
  have hb := C.2.1
  have hown := C.2.2.2.2.1
  replace hl : lv_has ls 4 [(0, .ref (gq G 25)), (1, .int a1), (2, .int a2)] := hl
  unfold f4_fits at h
  refine lv_aload_n hx hb dX4_fits_0 rfl (lv_at hl 0 rfl) ?_
  refine lv_iload_n hx hb dX4_fits_1 rfl (lv_at hl 1 rfl) ?_
  refine lv_iload_n hx hb dX4_fits_2 rfl (lv_at hl 2 rfl) ?_
  obtain ⟨v1, hq, h⟩ := p_bd h
  refine w_Vi C hw (As := [.int a1, .int a2]) (rest := []) (c4_lacksFits l G x m a1 a2 v1 hq) kv_X4_lacksFits ml_X4_243 ⟨rfl, rfl⟩ ⟨Nat.le_of_ble_eq_true rfl, Nat.le_of_ble_eq_true rfl⟩ ⟨Nat.zero_le _, Nat.zero_le _⟩ (w_recv C hw (wk_model G x m) rfl) rfl rfl (Nat.le_of_ble_eq_true rfl) (lv_sub hl [] rfl) dX4_fits_3 (fun H locs hw => ?_)
  refine lv_istore_n (lv' := [(3, .int v1), (0, .ref (gq G 25)), (1, .int a1), (2, .int a2)]) hx hb dX4_fits_6 rfl hl (by decide) rfl (fun ls hl => ?_)
  refine lv_iload_n hx hb dX4_fits_7 rfl (lv_at hl 0 rfl) ?_
  refine lv_if_lt (tgt := 17) hx hb dX4_fits_8 (by decide) (fun hc => ?_) (fun hc => ?_)
  · replace h := p_t hc h
    refine lv_aload_n hx hb dX4_fits_17 rfl (lv_at hl 1 rfl) ?_
    refine lv_iload_n hx hb dX4_fits_18 rfl (lv_at hl 2 rfl) ?_
    refine lv_iload_n hx hb dX4_fits_19 rfl (lv_at hl 3 rfl) ?_
    obtain ⟨z2, hq, h⟩ := p_bd h
    refine w_Vv C hw (As := [.int a1, .int a2]) (rest := []) (c4_findFits l G x m a1 a2 z2 hq) kv_X4_findFits ml_X4_246 ⟨rfl, rfl⟩ ⟨Nat.le_of_ble_eq_true rfl, Nat.le_of_ble_eq_true rfl⟩ ⟨Nat.zero_le _, Nat.zero_le _⟩ (w_recv C hw (wk_model G x m) rfl) rfl rfl (Nat.le_of_ble_eq_true rfl) (lv_sub hl [] rfl) dX4_fits_20 (fun H locs hw => ?_)
    refine lv_aload_n hx hb dX4_fits_23 rfl (lv_at hl 1 rfl) ?_
    refine w_get C hw (v := .int (z2 25 12)) (k := 12) (wk_model G x z2) rfl it_4 (by decide) fl_X4_231 rfl dX4_fits_24 ?_
    replace h := Option.some.inj h
    subst h
    exact w_iret C hw (v := (z2 25 12)) rfl rfl dX4_fits_27
  · replace h := p_f hc h
    refine lv_aload_n hx hb dX4_fits_11 rfl (lv_at hl 1 rfl) ?_
    refine lv_iload_n hx hb dX4_fits_12 rfl (lv_at hl 0 rfl) ?_
    obtain ⟨⟨v4, z3⟩, hq, h⟩ := p_bd h
    dsimp only at h
    refine w_Vi C hw (As := [.int v1]) (rest := []) (c4_finds l G x m v1 (v4, z3) hq) kv_X4_finds ml_X4_82 ⟨rfl, rfl⟩ ⟨Nat.le_of_ble_eq_true rfl, Nat.le_of_ble_eq_true rfl⟩ ⟨Nat.zero_le _, Nat.zero_le _⟩ (w_recv C hw (wk_model G x m) rfl) rfl rfl (Nat.le_of_ble_eq_true rfl) (lv_sub hl [] rfl) dX4_fits_13 (fun H locs hw => ?_)
    replace h := Option.some.inj h
    subst h
    exact w_iret C hw (v := v4) rfl rfl dX4_fits_16

def f4_said  (a1 : Int32) (a2 : Int32) (m : St) : Option (Int32 × St) :=
  (f4_lacksFits a1 a2 m).bind fun v1 =>
  if v1 < 0 then
    (f4_findFits a1 a2 m).bind fun z2 =>
    if 0 ≤ (z2 25 13) then
      some ((z2 25 13), z2)
    else
      (f4_finds (3 : Int32) z2).bind fun q => match q with
      | (v4, z3) =>
        some (v4, z3)
  else
    (f4_finds v1 m).bind fun q => match q with
    | (v6, z5) =>
      some (v6, z5)
set_option maxHeartbeats 4000000 in
set_option maxRecDepth 100000 in
theorem c4_said (l : Launch) (G : GT)  (x m : St) (a1 : Int32) (a2 : Int32) (r : Int32 × St) (h : f4_said a1 a2 m = some r) : Mt l yX4_said cX4_said 4 (some .int) (rmF 7 163) G x m [.ref (gq G 25), .int a1, .int a2] (some (.int r.1)) x r.2 := by
  refine Mt.of (by decide) (Nat.le_of_ble_eq_true rfl) ?_
  intro p e s mm args below meth c C ls hl hw
  have hx := C.1
  have hb := C.2.1
  have hown := C.2.2.2.2.1
  replace hl : lv_has ls 4 [(0, .ref (gq G 25)), (1, .int a1), (2, .int a2)] := hl
  unfold f4_said at h
  refine lv_aload_n hx hb dX4_said_0 rfl (lv_at hl 0 rfl) ?_
  refine lv_iload_n hx hb dX4_said_1 rfl (lv_at hl 1 rfl) ?_
  refine lv_iload_n hx hb dX4_said_2 rfl (lv_at hl 2 rfl) ?_
  obtain ⟨v1, hq, h⟩ := p_bd h
  refine w_Vi C hw (As := [.int a1, .int a2]) (rest := []) (c4_lacksFits l G x m a1 a2 v1 hq) kv_X4_lacksFits ml_X4_243 ⟨rfl, rfl⟩ ⟨Nat.le_of_ble_eq_true rfl, Nat.le_of_ble_eq_true rfl⟩ ⟨Nat.zero_le _, Nat.zero_le _⟩ (w_recv C hw (wk_model G x m) rfl) rfl rfl (Nat.le_of_ble_eq_true rfl) (lv_sub hl [] rfl) dX4_said_3 (fun H locs hw => ?_)
  refine lv_istore_n (lv' := [(3, .int v1), (0, .ref (gq G 25)), (1, .int a1), (2, .int a2)]) hx hb dX4_said_6 rfl hl (by decide) rfl (fun ls hl => ?_)
  refine lv_iload_n hx hb dX4_said_7 rfl (lv_at hl 0 rfl) ?_
  refine lv_if_lt (tgt := 17) hx hb dX4_said_8 (by decide) (fun hc => ?_) (fun hc => ?_)
  · replace h := p_t hc h
    refine lv_aload_n hx hb dX4_said_17 rfl (lv_at hl 1 rfl) ?_
    refine lv_iload_n hx hb dX4_said_18 rfl (lv_at hl 2 rfl) ?_
    refine lv_iload_n hx hb dX4_said_19 rfl (lv_at hl 3 rfl) ?_
    obtain ⟨z2, hq, h⟩ := p_bd h
    refine w_Vv C hw (As := [.int a1, .int a2]) (rest := []) (c4_findFits l G x m a1 a2 z2 hq) kv_X4_findFits ml_X4_246 ⟨rfl, rfl⟩ ⟨Nat.le_of_ble_eq_true rfl, Nat.le_of_ble_eq_true rfl⟩ ⟨Nat.zero_le _, Nat.zero_le _⟩ (w_recv C hw (wk_model G x m) rfl) rfl rfl (Nat.le_of_ble_eq_true rfl) (lv_sub hl [] rfl) dX4_said_20 (fun H locs hw => ?_)
    refine lv_aload_n hx hb dX4_said_23 rfl (lv_at hl 1 rfl) ?_
    refine w_get C hw (v := .int (z2 25 13)) (k := 13) (wk_model G x z2) rfl it_4 (by decide) fl_X4_234 rfl dX4_said_24 ?_
    refine lv_if_ge (tgt := 38) hx hb dX4_said_27 (by decide) (fun hc => ?_) (fun hc => ?_)
    · replace h := p_t hc h
      refine lv_aload_n hx hb dX4_said_38 rfl (lv_at hl 1 rfl) ?_
      refine w_get C hw (v := .int (z2 25 13)) (k := 13) (wk_model G x z2) rfl it_4 (by decide) fl_X4_234 rfl dX4_said_39 ?_
      replace h := Option.some.inj h
      subst h
      exact w_iret C hw (v := (z2 25 13)) rfl rfl dX4_said_42
    · replace h := p_f hc h
      refine lv_aload_n hx hb dX4_said_30 rfl (lv_at hl 1 rfl) ?_
      refine lv_iconst (v := (3 : Int32)) hx hb dX4_said_31 (by decide) ?_
      obtain ⟨⟨v4, z3⟩, hq, h⟩ := p_bd h
      dsimp only at h
      refine w_Vi C hw (As := [.int (3 : Int32)]) (rest := []) (c4_finds l G x z2 (3 : Int32) (v4, z3) hq) kv_X4_finds ml_X4_82 ⟨rfl, rfl⟩ ⟨Nat.le_of_ble_eq_true rfl, Nat.le_of_ble_eq_true rfl⟩ ⟨Nat.zero_le _, Nat.zero_le _⟩ (w_recv C hw (wk_model G x z2) rfl) rfl rfl (Nat.le_of_ble_eq_true rfl) (lv_sub hl [] rfl) dX4_said_32 (fun H locs hw => ?_)
      refine lv_goto (tgt := 42) hx hb dX4_said_35 (by decide) ?_
      replace h := Option.some.inj h
      subst h
      exact w_iret C hw (v := v4) rfl rfl dX4_said_42
  · replace h := p_f hc h
    refine lv_aload_n hx hb dX4_said_11 rfl (lv_at hl 1 rfl) ?_
    refine lv_iload_n hx hb dX4_said_12 rfl (lv_at hl 0 rfl) ?_
    obtain ⟨⟨v6, z5⟩, hq, h⟩ := p_bd h
    dsimp only at h
    refine w_Vi C hw (As := [.int v1]) (rest := []) (c4_finds l G x m v1 (v6, z5) hq) kv_X4_finds ml_X4_82 ⟨rfl, rfl⟩ ⟨Nat.le_of_ble_eq_true rfl, Nat.le_of_ble_eq_true rfl⟩ ⟨Nat.zero_le _, Nat.zero_le _⟩ (w_recv C hw (wk_model G x m) rfl) rfl rfl (Nat.le_of_ble_eq_true rfl) (lv_sub hl [] rfl) dX4_said_13 (fun H locs hw => ?_)
    replace h := Option.some.inj h
    subst h
    exact w_iret C hw (v := v6) rfl rfl dX4_said_16

def f4_dearest_b28  (k4 : Int32 → Int32 → St → Option (Int32)) (b2 : Int32) (w0 : Int32) (m : St) : Option (Int32) :=
  k4 w0 (b2 + (1 : Int32)) m
def f4_dearest_L4   : Nat → Int32 → Int32 → St → Option (Int32)
  | 0, _, _, _ => none
  | n + 1, b1, b2, m =>
    if (16 : Int32) ≤ b2 then
      some b1
    else
      (f4_rent b2 m).bind fun v1 =>
      (f4_rent b1 m).bind fun v2 =>
      if v1 ≤ v2 then
        f4_dearest_b28 (f4_dearest_L4 n) b2 b1 m
      else
        f4_dearest_b28 (f4_dearest_L4 n) b2 b2 m
theorem f4_dearest_L4_0   (b1 : Int32) (b2 : Int32) (m : St) : f4_dearest_L4  0 b1 b2 m = none := rfl
theorem f4_dearest_L4_s   (n : Nat) (b1 : Int32) (b2 : Int32) (m : St) : f4_dearest_L4  (n + 1) b1 b2 m =
    if (16 : Int32) ≤ b2 then
      some b1
    else
      (f4_rent b2 m).bind fun v1 =>
      (f4_rent b1 m).bind fun v2 =>
      if v1 ≤ v2 then
        f4_dearest_b28 (f4_dearest_L4 n) b2 b1 m
      else
        f4_dearest_b28 (f4_dearest_L4 n) b2 b2 m := rfl
def f4_dearest   (m : St) : Option (Int32) :=
  f4_dearest_L4 fu (0 : Int32) (1 : Int32) m
set_option maxHeartbeats 4000000 in
set_option maxRecDepth 100000 in
theorem c4_dearest (l : Launch) (G : GT)  (x m : St)  (r : Int32) (h : f4_dearest m = some r) : Mt l yX4_dearest cX4_dearest 3 (some .int) (rmF 3 66) G x m [.ref (gq G 25)] (some (.int r)) x m := by
  refine Mt.of (by decide) (Nat.le_of_ble_eq_true rfl) ?_
  intro p e s mm args below meth c C ls hl hw
  have hx := C.1
  have hb := C.2.1
  have hown := C.2.2.2.2.1
  replace hl : lv_has ls 3 [(0, .ref (gq G 25))] := hl
  have L4 : ∀ (n4 : Nat) (b1 : Int32) (b2 : Int32) (H : Heap) (locs : List Loc) (ls : Array Slot), lv_has ls 3 [(0, .ref (gq G 25)), (1, .int b1), (2, .int b2)] → Wd G s x m H locs → f4_dearest_L4 n4 b1 b2 m = some r → W p l e (rmF 3 66) s mm args below meth c H locs 0 0 (QE below G (some (.int r)) x m args s) (F0 mm 4 ls []) := by
    intro n4
    induction n4 with
    | zero =>
      intro b1 b2  H locs ls hl hw h
      rw [f4_dearest_L4_0] at h
      exact absurd h.symm (Option.some_ne_none _)
    | succ n4 ih4 =>
      have B28 : ∀ (b2 : Int32) (w0 : Int32) (H : Heap) (locs : List Loc) (ls : Array Slot), lv_has ls 3 [(0, .ref (gq G 25)), (2, .int b2)] → Wd G s x m H locs → f4_dearest_b28 (f4_dearest_L4 n4) b2 w0 m = some r → W p l e (rmF 3 66) s mm args below meth c H locs 0 0 (QE below G (some (.int r)) x m args s) (F0 mm 28 ls [.int w0]) := by
        intro b2 w0  H locs ls hl hw h
        unfold f4_dearest_b28 at h
        refine lv_istore_n (lv' := [(1, .int w0), (0, .ref (gq G 25)), (2, .int b2)]) hx hb dX4_dearest_28 rfl hl (by decide) rfl (fun ls hl => ?_)
        refine lv_iinc (v := (b2 + (1 : Int32))) (lv' := [(2, .int (b2 + (1 : Int32))), (1, .int w0), (0, .ref (gq G 25))]) hx hb dX4_dearest_29 hl (k := 2) rfl rfl (by decide) rfl (fun ls hl => ?_)
        refine lv_goto (tgt := 4) hx hb dX4_dearest_32 (by decide) ?_
        exact ih4 w0 (b2 + (1 : Int32)) _ _ _ (lv_sub hl [2, 1, 0] rfl) hw h
      intro b1 b2  H locs ls hl hw h
      rw [f4_dearest_L4_s] at h
      refine lv_iload_n hx hb dX4_dearest_4 rfl (lv_at hl 2 rfl) ?_
      refine lv_bipush (v := (16 : Int32)) hx hb dX4_dearest_5 (by decide) ?_
      refine lv_icmp_ge (tgt := 35) hx hb dX4_dearest_7 (by decide) (fun hc => ?_) (fun hc => ?_)
      · replace h := p_t hc h
        refine lv_iload_n hx hb dX4_dearest_35 rfl (lv_at hl 1 rfl) ?_
        replace h := Option.some.inj h
        subst h
        exact w_iret C hw (v := b1) rfl rfl dX4_dearest_36
      · replace h := p_f hc h
        refine lv_aload_n hx hb dX4_dearest_10 rfl (lv_at hl 0 rfl) ?_
        refine lv_iload_n hx hb dX4_dearest_11 rfl (lv_at hl 2 rfl) ?_
        obtain ⟨v1, hq, h⟩ := p_bd h
        refine w_Vi C hw (As := [.int b2]) (rest := []) (c4_rent l G x m b2 v1 hq) kv_X4_rent ml_X4_91 ⟨rfl, rfl⟩ ⟨Nat.le_of_ble_eq_true rfl, Nat.le_of_ble_eq_true rfl⟩ ⟨Nat.zero_le _, Nat.zero_le _⟩ (w_recv C hw (wk_model G x m) rfl) rfl rfl (Nat.le_of_ble_eq_true rfl) (lv_sub hl [] rfl) dX4_dearest_12 (fun H locs hw => ?_)
        refine lv_aload_n hx hb dX4_dearest_15 rfl (lv_at hl 0 rfl) ?_
        refine lv_iload_n hx hb dX4_dearest_16 rfl (lv_at hl 1 rfl) ?_
        obtain ⟨v2, hq, h⟩ := p_bd h
        refine w_Vi C hw (As := [.int b1]) (rest := [.int v1]) (c4_rent l G x m b1 v2 hq) kv_X4_rent ml_X4_91 ⟨rfl, rfl⟩ ⟨Nat.le_of_ble_eq_true rfl, Nat.le_of_ble_eq_true rfl⟩ ⟨Nat.zero_le _, Nat.zero_le _⟩ (w_recv C hw (wk_model G x m) rfl) rfl rfl (Nat.le_of_ble_eq_true rfl) (lv_sub hl [] rfl) dX4_dearest_17 (fun H locs hw => ?_)
        refine lv_icmp_le (tgt := 27) hx hb dX4_dearest_20 (by decide) (fun hc => ?_) (fun hc => ?_)
        · replace h := p_t hc h
          refine lv_iload_n hx hb dX4_dearest_27 rfl (lv_at hl 1 rfl) ?_
          exact B28 b2 b1 _ _ _ (lv_sub hl [0, 2] rfl) hw h
        · replace h := p_f hc h
          refine lv_iload_n hx hb dX4_dearest_23 rfl (lv_at hl 2 rfl) ?_
          refine lv_goto (tgt := 28) hx hb dX4_dearest_24 (by decide) ?_
          exact B28 b2 b2 _ _ _ (lv_sub hl [0, 2] rfl) hw h
  unfold f4_dearest at h
  refine lv_iconst (v := (0 : Int32)) hx hb dX4_dearest_0 (by decide) ?_
  refine lv_istore_n (lv' := [(1, .int (0 : Int32)), (0, .ref (gq G 25))]) hx hb dX4_dearest_1 rfl hl (by decide) rfl (fun ls hl => ?_)
  refine lv_iconst (v := (1 : Int32)) hx hb dX4_dearest_2 (by decide) ?_
  refine lv_istore_n (lv' := [(2, .int (1 : Int32)), (1, .int (0 : Int32)), (0, .ref (gq G 25))]) hx hb dX4_dearest_3 rfl hl (by decide) rfl (fun ls hl => ?_)
  exact L4 fu (0 : Int32) (1 : Int32) _ _ _ (lv_sub hl [2, 1, 0] rfl) hw h

def f4_rents_L4   : Nat → Int32 → Int32 → St → Option (Int32)
  | 0, _, _, _ => none
  | n + 1, b1, b2, m =>
    if (16 : Int32) ≤ b2 then
      some b1
    else
      (f4_rent b2 m).bind fun v1 =>
      (f4_rents_L4 n) (b1 + v1) (b2 + (1 : Int32)) m
theorem f4_rents_L4_0   (b1 : Int32) (b2 : Int32) (m : St) : f4_rents_L4  0 b1 b2 m = none := rfl
theorem f4_rents_L4_s   (n : Nat) (b1 : Int32) (b2 : Int32) (m : St) : f4_rents_L4  (n + 1) b1 b2 m =
    if (16 : Int32) ≤ b2 then
      some b1
    else
      (f4_rent b2 m).bind fun v1 =>
      (f4_rents_L4 n) (b1 + v1) (b2 + (1 : Int32)) m := rfl
def f4_rents   (m : St) : Option (Int32) :=
  f4_rents_L4 fu (0 : Int32) (0 : Int32) m
set_option maxHeartbeats 4000000 in
set_option maxRecDepth 100000 in
theorem c4_rents (l : Launch) (G : GT)  (x m : St)  (r : Int32) (h : f4_rents m = some r) : Mt l yX4_rents cX4_rents 3 (some .int) (rmF 3 66) G x m [.ref (gq G 25)] (some (.int r)) x m := by
  refine Mt.of (by decide) (Nat.le_of_ble_eq_true rfl) ?_
  intro p e s mm args below meth c C ls hl hw
  have hx := C.1
  have hb := C.2.1
  have hown := C.2.2.2.2.1
  replace hl : lv_has ls 3 [(0, .ref (gq G 25))] := hl
  have L4 : ∀ (n4 : Nat) (b1 : Int32) (b2 : Int32) (H : Heap) (locs : List Loc) (ls : Array Slot), lv_has ls 3 [(0, .ref (gq G 25)), (1, .int b1), (2, .int b2)] → Wd G s x m H locs → f4_rents_L4 n4 b1 b2 m = some r → W p l e (rmF 3 66) s mm args below meth c H locs 0 0 (QE below G (some (.int r)) x m args s) (F0 mm 4 ls []) := by
    intro n4
    induction n4 with
    | zero =>
      intro b1 b2  H locs ls hl hw h
      rw [f4_rents_L4_0] at h
      exact absurd h.symm (Option.some_ne_none _)
    | succ n4 ih4 =>
      intro b1 b2  H locs ls hl hw h
      rw [f4_rents_L4_s] at h
      refine lv_iload_n hx hb dX4_rents_4 rfl (lv_at hl 2 rfl) ?_
      refine lv_bipush (v := (16 : Int32)) hx hb dX4_rents_5 (by decide) ?_
      refine lv_icmp_ge (tgt := 24) hx hb dX4_rents_7 (by decide) (fun hc => ?_) (fun hc => ?_)
      · replace h := p_t hc h
        refine lv_iload_n hx hb dX4_rents_24 rfl (lv_at hl 1 rfl) ?_
        replace h := Option.some.inj h
        subst h
        exact w_iret C hw (v := b1) rfl rfl dX4_rents_25
      · replace h := p_f hc h
        refine lv_iload_n hx hb dX4_rents_10 rfl (lv_at hl 1 rfl) ?_
        refine lv_aload_n hx hb dX4_rents_11 rfl (lv_at hl 0 rfl) ?_
        refine lv_iload_n hx hb dX4_rents_12 rfl (lv_at hl 2 rfl) ?_
        obtain ⟨v1, hq, h⟩ := p_bd h
        refine w_Vi C hw (As := [.int b2]) (rest := [.int b1]) (c4_rent l G x m b2 v1 hq) kv_X4_rent ml_X4_91 ⟨rfl, rfl⟩ ⟨Nat.le_of_ble_eq_true rfl, Nat.le_of_ble_eq_true rfl⟩ ⟨Nat.zero_le _, Nat.zero_le _⟩ (w_recv C hw (wk_model G x m) rfl) rfl rfl (Nat.le_of_ble_eq_true rfl) (lv_sub hl [] rfl) dX4_rents_13 (fun H locs hw => ?_)
        refine lv_iadd hx hb dX4_rents_16 ?_
        refine lv_istore_n (lv' := [(1, .int (b1 + v1)), (0, .ref (gq G 25)), (2, .int b2)]) hx hb dX4_rents_17 rfl hl (by decide) rfl (fun ls hl => ?_)
        refine lv_iinc (v := (b2 + (1 : Int32))) (lv' := [(2, .int (b2 + (1 : Int32))), (1, .int (b1 + v1)), (0, .ref (gq G 25))]) hx hb dX4_rents_18 hl (k := 2) rfl rfl (by decide) rfl (fun ls hl => ?_)
        refine lv_goto (tgt := 4) hx hb dX4_rents_21 (by decide) ?_
        exact ih4 (b1 + v1) (b2 + (1 : Int32)) _ _ _ (lv_sub hl [2, 1, 0] rfl) hw h
  unfold f4_rents at h
  refine lv_iconst (v := (0 : Int32)) hx hb dX4_rents_0 (by decide) ?_
  refine lv_istore_n (lv' := [(1, .int (0 : Int32)), (0, .ref (gq G 25))]) hx hb dX4_rents_1 rfl hl (by decide) rfl (fun ls hl => ?_)
  refine lv_iconst (v := (0 : Int32)) hx hb dX4_rents_2 (by decide) ?_
  refine lv_istore_n (lv' := [(2, .int (0 : Int32)), (1, .int (0 : Int32)), (0, .ref (gq G 25))]) hx hb dX4_rents_3 rfl hl (by decide) rfl (fun ls hl => ?_)
  exact L4 fu (0 : Int32) (0 : Int32) _ _ _ (lv_sub hl [2, 1, 0] rfl) hw h

def f4_draw   (m : St) : Option (Int32 × St) :=
  if (4 : Int32) < 0 ∨ 119 ≤ (4 : Int32).toNatClampNeg then none else
  if (4 : Int32) < 0 ∨ 119 ≤ (4 : Int32).toNatClampNeg then none else
  if (4 : Int32) < 0 ∨ 119 ≤ (4 : Int32).toNatClampNeg then none else
  some (((((up m 26 (4 : Int32).toNatClampNeg (((m 26 (4 : Int32).toNatClampNeg) * (1103515245 : Int32)) + (12345 : Int32))) 26 (4 : Int32).toNatClampNeg).toUInt32 >>> ((8 : Int32).toUInt32 &&& Int32.toUInt32 31)).toInt32), (up m 26 (4 : Int32).toNatClampNeg (((m 26 (4 : Int32).toNatClampNeg) * (1103515245 : Int32)) + (12345 : Int32))))
set_option maxHeartbeats 4000000 in
set_option maxRecDepth 100000 in
theorem c4_draw (l : Launch) (G : GT)  (x m : St)  (r : Int32 × St) (h : f4_draw m = some r) : Mt l yX4_draw cX4_draw 1 (some .int) (rmF 0 0) G x m [.ref (gq G 25)] (some (.int r.1)) x r.2 := by
  refine Mt.of (by decide) (Nat.le_of_ble_eq_true rfl) ?_
  intro p e s mm args below meth c C ls hl hw
  have hx := C.1
  have hb := C.2.1
  have hown := C.2.2.2.2.1
  replace hl : lv_has ls 1 [(0, .ref (gq G 25))] := hl
  unfold f4_draw at h
  refine lv_aload_n hx hb dX4_draw_0 rfl (lv_at hl 0 rfl) ?_
  refine w_get C hw (v := .ref (gq G 26)) (k := 0) (wk_model G x m) rfl it_4 (by decide) fl_X4_9 rfl dX4_draw_1 ?_
  refine lv_iconst (v := (4 : Int32)) hx hb dX4_draw_4 (by decide) ?_
  refine lv_aload_n hx hb dX4_draw_5 rfl (lv_at hl 0 rfl) ?_
  refine w_get C hw (v := .ref (gq G 26)) (k := 0) (wk_model G x m) rfl it_4 (by decide) fl_X4_9 rfl dX4_draw_6 ?_
  refine lv_iconst (v := (4 : Int32)) hx hb dX4_draw_9 (by decide) ?_
  obtain ⟨hq, h⟩ := p_if h
  refine w_ald C hw (am_26 G x m).1 hq dX4_draw_10 ?_
  refine lv_ldc hx hb hown (C.w kc_X4_250) dX4_draw_11 ?_
  refine lv_imul hx hb dX4_draw_13 ?_
  refine lv_sipush (v := (12345 : Int32)) hx hb dX4_draw_14 (by decide) ?_
  refine lv_iadd hx hb dX4_draw_17 ?_
  obtain ⟨hq, h⟩ := p_if h
  refine w_astM C hw am_26 hq dX4_draw_18 (fun H locs hw => ?_)
  refine lv_aload_n hx hb dX4_draw_19 rfl (lv_at hl 0 rfl) ?_
  refine w_get C hw (v := .ref (gq G 26)) (k := 0) (wk_model G x (up m 26 (4 : Int32).toNatClampNeg (((m 26 (4 : Int32).toNatClampNeg) * (1103515245 : Int32)) + (12345 : Int32)))) rfl it_4 (by decide) fl_X4_9 rfl dX4_draw_20 ?_
  refine lv_iconst (v := (4 : Int32)) hx hb dX4_draw_23 (by decide) ?_
  obtain ⟨hq, h⟩ := p_if h
  refine w_ald C hw (am_26 G x (up m 26 (4 : Int32).toNatClampNeg (((m 26 (4 : Int32).toNatClampNeg) * (1103515245 : Int32)) + (12345 : Int32)))).1 hq dX4_draw_24 ?_
  refine lv_bipush (v := (8 : Int32)) hx hb dX4_draw_25 (by decide) ?_
  refine lv_iushr hx hb dX4_draw_27 rfl ?_
  replace h := Option.some.inj h
  subst h
  exact w_iret C hw (v := ((((up m 26 (4 : Int32).toNatClampNeg (((m 26 (4 : Int32).toNatClampNeg) * (1103515245 : Int32)) + (12345 : Int32))) 26 (4 : Int32).toNatClampNeg).toUInt32 >>> ((8 : Int32).toUInt32 &&& Int32.toUInt32 31)).toInt32)) rfl rfl dX4_draw_28

def f4_frosts_b77  (k41 : Int32 → Int32 → Int32 → St → Option (Int32 × St)) (b1 : Int32) (b3 : Int32) (w0 : Int32) (w1 : Int32) (m : St) : Option (Int32 × St) :=
  k41 b1 (w0 + w1) (b3 + (1 : Int32)) m
def f4_frosts_L41   : Nat → Int32 → Int32 → Int32 → St → Option (Int32 × St)
  | 0, _, _, _, _ => none
  | n + 1, b1, b2, b3, m =>
    if b1 ≤ b3 then
      some (b2, m)
    else
      (f4_draw m).bind fun q => match q with
      | (v6, z5) =>
        if (2 : Int32) < 0 ∨ 119 ≤ (2 : Int32).toNatClampNeg then none else
        (f4_aMinute (up z5 26 (2 : Int32).toNatClampNeg (v6 - v6 / (2 : Int32) * (2 : Int32)))).bind fun z7 =>
        (f4_isHeard (15 : Int32) z7).bind fun v8 =>
        if v8 = 0 then
          f4_frosts_b77 (f4_frosts_L41 n) b1 b3 b2 (0 : Int32) z7
        else
          f4_frosts_b77 (f4_frosts_L41 n) b1 b3 b2 (1 : Int32) z7
theorem f4_frosts_L41_0   (b1 : Int32) (b2 : Int32) (b3 : Int32) (m : St) : f4_frosts_L41  0 b1 b2 b3 m = none := rfl
theorem f4_frosts_L41_s   (n : Nat) (b1 : Int32) (b2 : Int32) (b3 : Int32) (m : St) : f4_frosts_L41  (n + 1) b1 b2 b3 m =
    if b1 ≤ b3 then
      some (b2, m)
    else
      (f4_draw m).bind fun q => match q with
      | (v6, z5) =>
        if (2 : Int32) < 0 ∨ 119 ≤ (2 : Int32).toNatClampNeg then none else
        (f4_aMinute (up z5 26 (2 : Int32).toNatClampNeg (v6 - v6 / (2 : Int32) * (2 : Int32)))).bind fun z7 =>
        (f4_isHeard (15 : Int32) z7).bind fun v8 =>
        if v8 = 0 then
          f4_frosts_b77 (f4_frosts_L41 n) b1 b3 b2 (0 : Int32) z7
        else
          f4_frosts_b77 (f4_frosts_L41 n) b1 b3 b2 (1 : Int32) z7 := rfl
def f4_frosts  (a1 : Int32) (m : St) : Option (Int32 × St) :=
  if (f4_in (a1.toInt64) (1 : Int64) (20 : Int64)) = 0 then
    (f4_finds (0 : Int32) m).bind fun q => match q with
    | (v4, z3) =>
      some (v4, z3)
  else
    if (0 : Int32) < 0 ∨ 119 ≤ (0 : Int32).toNatClampNeg then none else
    if ((m 26 (0 : Int32).toNatClampNeg) + a1) ≤ (99999 : Int32) then
      f4_frosts_L41 fu a1 (0 : Int32) (0 : Int32) m
    else
      (f4_finds (4 : Int32) m).bind fun q => match q with
      | (v2, z1) =>
        some (v2, z1)
set_option maxHeartbeats 4000000 in
set_option maxRecDepth 100000 in
theorem c4_frosts (l : Launch) (G : GT)  (x m : St) (a1 : Int32) (r : Int32 × St) (h : f4_frosts a1 m = some r) : Mt l yX4_frosts cX4_frosts 4 (some .int) (rmF 5 113) G x m [.ref (gq G 25), .int a1] (some (.int r.1)) x r.2 := by
  refine Mt.of (by decide) (Nat.le_of_ble_eq_true rfl) ?_
  intro p e s mm args below meth c C ls hl hw
  have hx := C.1
  have hb := C.2.1
  have hown := C.2.2.2.2.1
  replace hl : lv_has ls 4 [(0, .ref (gq G 25)), (1, .int a1)] := hl
  have L41 : ∀ (n41 : Nat) (b1 : Int32) (b2 : Int32) (b3 : Int32) (m : St) (H : Heap) (locs : List Loc) (ls : Array Slot), lv_has ls 4 [(0, .ref (gq G 25)), (1, .int b1), (2, .int b2), (3, .int b3)] → Wd G s x m H locs → f4_frosts_L41 n41 b1 b2 b3 m = some r → W p l e (rmF 5 113) s mm args below meth c H locs 0 0 (QE below G (some (.int r.1)) x r.2 args s) (F0 mm 41 ls []) := by
    intro n41
    induction n41 with
    | zero =>
      intro b1 b2 b3 m H locs ls hl hw h
      rw [f4_frosts_L41_0] at h
      exact absurd h.symm (Option.some_ne_none _)
    | succ n41 ih41 =>
      have B77 : ∀ (b1 : Int32) (b3 : Int32) (w0 : Int32) (w1 : Int32) (m : St) (H : Heap) (locs : List Loc) (ls : Array Slot), lv_has ls 4 [(0, .ref (gq G 25)), (1, .int b1), (3, .int b3)] → Wd G s x m H locs → f4_frosts_b77 (f4_frosts_L41 n41) b1 b3 w0 w1 m = some r → W p l e (rmF 5 113) s mm args below meth c H locs 0 0 (QE below G (some (.int r.1)) x r.2 args s) (F0 mm 77 ls [.int w1, .int w0]) := by
        intro b1 b3 w0 w1 m H locs ls hl hw h
        unfold f4_frosts_b77 at h
        refine lv_iadd hx hb dX4_frosts_77 ?_
        refine lv_istore_n (lv' := [(2, .int (w0 + w1)), (0, .ref (gq G 25)), (1, .int b1), (3, .int b3)]) hx hb dX4_frosts_78 rfl hl (by decide) rfl (fun ls hl => ?_)
        refine lv_iinc (v := (b3 + (1 : Int32))) (lv' := [(3, .int (b3 + (1 : Int32))), (2, .int (w0 + w1)), (0, .ref (gq G 25)), (1, .int b1)]) hx hb dX4_frosts_79 hl (k := 3) rfl rfl (by decide) rfl (fun ls hl => ?_)
        refine lv_goto (tgt := 41) hx hb dX4_frosts_82 (by decide) ?_
        exact ih41 b1 (w0 + w1) (b3 + (1 : Int32)) m _ _ _ (lv_sub hl [2, 3, 1, 0] rfl) hw h
      intro b1 b2 b3 m H locs ls hl hw h
      rw [f4_frosts_L41_s] at h
      refine lv_iload_n hx hb dX4_frosts_41 rfl (lv_at hl 3 rfl) ?_
      refine lv_iload_n hx hb dX4_frosts_42 rfl (lv_at hl 1 rfl) ?_
      refine lv_icmp_ge (tgt := 85) hx hb dX4_frosts_43 (by decide) (fun hc => ?_) (fun hc => ?_)
      · replace h := p_t hc h
        refine lv_iload_n hx hb dX4_frosts_85 rfl (lv_at hl 2 rfl) ?_
        replace h := Option.some.inj h
        subst h
        exact w_iret C hw (v := b2) rfl rfl dX4_frosts_86
      · replace h := p_f hc h
        refine lv_aload_n hx hb dX4_frosts_46 rfl (lv_at hl 0 rfl) ?_
        refine w_get C hw (v := .ref (gq G 26)) (k := 0) (wk_model G x m) rfl it_4 (by decide) fl_X4_9 rfl dX4_frosts_47 ?_
        refine lv_iconst (v := (2 : Int32)) hx hb dX4_frosts_50 (by decide) ?_
        refine lv_aload_n hx hb dX4_frosts_51 rfl (lv_at hl 0 rfl) ?_
        obtain ⟨⟨v6, z5⟩, hq, h⟩ := p_bd h
        dsimp only at h
        refine w_Vi C hw (As := []) (rest := [.int (2 : Int32), .ref (gq G 26)]) (c4_draw l G x m (v6, z5) hq) kv_X4_draw ml_X4_253 ⟨rfl, rfl⟩ ⟨Nat.le_of_ble_eq_true rfl, Nat.le_of_ble_eq_true rfl⟩ ⟨Nat.zero_le _, Nat.zero_le _⟩ (w_recv C hw (wk_model G x m) rfl) rfl rfl (Nat.le_of_ble_eq_true rfl) (lv_sub hl [] rfl) dX4_frosts_52 (fun H locs hw => ?_)
        refine lv_iconst (v := (2 : Int32)) hx hb dX4_frosts_55 (by decide) ?_
        refine lv_irem hx hb dX4_frosts_56 (by decide) ?_
        obtain ⟨hq, h⟩ := p_if h
        refine w_astM C hw am_26 hq dX4_frosts_57 (fun H locs hw => ?_)
        refine lv_aload_n hx hb dX4_frosts_58 rfl (lv_at hl 0 rfl) ?_
        obtain ⟨z7, hq, h⟩ := p_bd h
        refine w_Vv C hw (As := []) (rest := []) (c4_aMinute l G x (up z5 26 (2 : Int32).toNatClampNeg (v6 - v6 / (2 : Int32) * (2 : Int32))) z7 hq) kv_X4_aMinute ml_X4_146 ⟨rfl, rfl⟩ ⟨Nat.le_of_ble_eq_true rfl, Nat.le_of_ble_eq_true rfl⟩ ⟨Nat.zero_le _, Nat.zero_le _⟩ (w_recv C hw (wk_model G x (up z5 26 (2 : Int32).toNatClampNeg (v6 - v6 / (2 : Int32) * (2 : Int32)))) rfl) rfl rfl (Nat.le_of_ble_eq_true rfl) (lv_sub hl [] rfl) dX4_frosts_59 (fun H locs hw => ?_)
        refine lv_iload_n hx hb dX4_frosts_62 rfl (lv_at hl 2 rfl) ?_
        refine lv_aload_n hx hb dX4_frosts_63 rfl (lv_at hl 0 rfl) ?_
        refine lv_bipush (v := (15 : Int32)) hx hb dX4_frosts_64 (by decide) ?_
        obtain ⟨v8, hq, h⟩ := p_bd h
        refine w_Vi C hw (As := [.int (15 : Int32)]) (rest := [.int b2]) (c4_isHeard l G x z7 (15 : Int32) v8 hq) kv_X4_isHeard ml_X4_88 ⟨rfl, rfl⟩ ⟨Nat.le_of_ble_eq_true rfl, Nat.le_of_ble_eq_true rfl⟩ ⟨Nat.zero_le _, Nat.zero_le _⟩ (w_recv C hw (wk_model G x z7) rfl) rfl rfl (Nat.le_of_ble_eq_true rfl) (lv_sub hl [] rfl) dX4_frosts_66 (fun H locs hw => ?_)
        refine lv_if_eq (tgt := 76) hx hb dX4_frosts_69 (by decide) (fun hc => ?_) (fun hc => ?_)
        · replace h := p_t hc h
          refine lv_iconst (v := (0 : Int32)) hx hb dX4_frosts_76 (by decide) ?_
          exact B77 b1 b3 b2 (0 : Int32) z7 _ _ _ (lv_sub hl [0, 1, 3] rfl) hw h
        · replace h := p_f hc h
          refine lv_iconst (v := (1 : Int32)) hx hb dX4_frosts_72 (by decide) ?_
          refine lv_goto (tgt := 77) hx hb dX4_frosts_73 (by decide) ?_
          exact B77 b1 b3 b2 (1 : Int32) z7 _ _ _ (lv_sub hl [0, 1, 3] rfl) hw h
  unfold f4_frosts at h
  refine lv_iload_n hx hb dX4_frosts_0 rfl (lv_at hl 1 rfl) ?_
  refine lv_i2l hx hb dX4_frosts_1 rfl ?_
  refine lv_lconst (v := (1 : Int64)) hx hb dX4_frosts_2 (by decide) ?_
  refine lv_ldc2 hx hb hown (C.w kl_X4_251) dX4_frosts_3 ?_
  refine w_Si C hw (As := [.long (a1.toInt64), .long (1 : Int64), .long (20 : Int64)]) (rest := []) (c4_in l G x m (a1.toInt64) (1 : Int64) (20 : Int64) _ rfl) ks_X4_in ml_X4_57 ⟨rfl, rfl⟩ ⟨Nat.le_of_ble_eq_true rfl, Nat.le_of_ble_eq_true rfl⟩ ⟨Nat.zero_le _, Nat.zero_le _⟩ rfl rfl (Nat.le_of_ble_eq_true rfl) (lv_sub hl [] rfl) dX4_frosts_6 (fun H locs hw => ?_)
  refine lv_if_ne (tgt := 18) hx hb dX4_frosts_9 (by decide) (fun hc => ?_) (fun hc => ?_)
  · replace h := p_f hc h
    refine lv_aload_n hx hb dX4_frosts_18 rfl (lv_at hl 0 rfl) ?_
    refine w_get C hw (v := .ref (gq G 26)) (k := 0) (wk_model G x m) rfl it_4 (by decide) fl_X4_9 rfl dX4_frosts_19 ?_
    refine lv_iconst (v := (0 : Int32)) hx hb dX4_frosts_22 (by decide) ?_
    obtain ⟨hq, h⟩ := p_if h
    refine w_ald C hw (am_26 G x m).1 hq dX4_frosts_23 ?_
    refine lv_iload_n hx hb dX4_frosts_24 rfl (lv_at hl 1 rfl) ?_
    refine lv_iadd hx hb dX4_frosts_25 ?_
    refine lv_ldc hx hb hown (C.w kc_X4_151) dX4_frosts_26 ?_
    refine lv_icmp_le (tgt := 37) hx hb dX4_frosts_28 (by decide) (fun hc => ?_) (fun hc => ?_)
    · replace h := p_t hc h
      refine lv_iconst (v := (0 : Int32)) hx hb dX4_frosts_37 (by decide) ?_
      refine lv_istore_n (lv' := [(2, .int (0 : Int32)), (0, .ref (gq G 25)), (1, .int a1)]) hx hb dX4_frosts_38 rfl hl (by decide) rfl (fun ls hl => ?_)
      refine lv_iconst (v := (0 : Int32)) hx hb dX4_frosts_39 (by decide) ?_
      refine lv_istore_n (lv' := [(3, .int (0 : Int32)), (2, .int (0 : Int32)), (0, .ref (gq G 25)), (1, .int a1)]) hx hb dX4_frosts_40 rfl hl (by decide) rfl (fun ls hl => ?_)
      exact L41 fu a1 (0 : Int32) (0 : Int32) m _ _ _ (lv_sub hl [2, 3, 1, 0] rfl) hw h
    · replace h := p_f hc h
      refine lv_aload_n hx hb dX4_frosts_31 rfl (lv_at hl 0 rfl) ?_
      refine lv_iconst (v := (4 : Int32)) hx hb dX4_frosts_32 (by decide) ?_
      obtain ⟨⟨v2, z1⟩, hq, h⟩ := p_bd h
      dsimp only at h
      refine w_Vi C hw (As := [.int (4 : Int32)]) (rest := []) (c4_finds l G x m (4 : Int32) (v2, z1) hq) kv_X4_finds ml_X4_82 ⟨rfl, rfl⟩ ⟨Nat.le_of_ble_eq_true rfl, Nat.le_of_ble_eq_true rfl⟩ ⟨Nat.zero_le _, Nat.zero_le _⟩ (w_recv C hw (wk_model G x m) rfl) rfl rfl (Nat.le_of_ble_eq_true rfl) (lv_sub hl [] rfl) dX4_frosts_33 (fun H locs hw => ?_)
      replace h := Option.some.inj h
      subst h
      exact w_iret C hw (v := v2) rfl rfl dX4_frosts_36
  · replace h := p_t hc h
    refine lv_aload_n hx hb dX4_frosts_12 rfl (lv_at hl 0 rfl) ?_
    refine lv_iconst (v := (0 : Int32)) hx hb dX4_frosts_13 (by decide) ?_
    obtain ⟨⟨v4, z3⟩, hq, h⟩ := p_bd h
    dsimp only at h
    refine w_Vi C hw (As := [.int (0 : Int32)]) (rest := []) (c4_finds l G x m (0 : Int32) (v4, z3) hq) kv_X4_finds ml_X4_82 ⟨rfl, rfl⟩ ⟨Nat.le_of_ble_eq_true rfl, Nat.le_of_ble_eq_true rfl⟩ ⟨Nat.zero_le _, Nat.zero_le _⟩ (w_recv C hw (wk_model G x m) rfl) rfl rfl (Nat.le_of_ble_eq_true rfl) (lv_sub hl [] rfl) dX4_frosts_14 (fun H locs hw => ?_)
    replace h := Option.some.inj h
    subst h
    exact w_iret C hw (v := v4) rfl rfl dX4_frosts_17

def f4_odds_L88   : Nat → Int32 → Int64 → Int64 → Int64 → Int64 → St → Option (Int64 × St)
  | 0, _, _, _, _, _, _ => none
  | n + 1, b3, b4, b6, b8, b10, m =>
    if (lg_cmp b10 (0 : Int64)) = 0 then
      if b3 = 0 then
        if b8 = 0 then none else
        some ((b4 / b8), m)
      else
        if b8 = 0 then none else
        some ((b6 / b8), m)
    else
      if b10 = 0 then none else
      (f4_odds_L88 n) b3 b4 b6 b10 (b8 - b8 / b10 * b10) m
theorem f4_odds_L88_0   (b3 : Int32) (b4 : Int64) (b6 : Int64) (b8 : Int64) (b10 : Int64) (m : St) : f4_odds_L88  0 b3 b4 b6 b8 b10 m = none := rfl
theorem f4_odds_L88_s   (n : Nat) (b3 : Int32) (b4 : Int64) (b6 : Int64) (b8 : Int64) (b10 : Int64) (m : St) : f4_odds_L88  (n + 1) b3 b4 b6 b8 b10 m =
    if (lg_cmp b10 (0 : Int64)) = 0 then
      if b3 = 0 then
        if b8 = 0 then none else
        some ((b4 / b8), m)
      else
        if b8 = 0 then none else
        some ((b6 / b8), m)
    else
      if b10 = 0 then none else
      (f4_odds_L88 n) b3 b4 b6 b10 (b8 - b8 / b10 * b10) m := rfl
def f4_odds_L50   : Nat → Int32 → Int32 → Int32 → Int64 → Int64 → Int32 → St → Option (Int64 × St)
  | 0, _, _, _, _, _, _, _ => none
  | n + 1, b1, b2, b3, b4, b6, b8, m =>
    if b1 ≤ b8 then
      f4_odds_L88 fu b3 b4 b6 b4 b6 m
    else
      (f4_odds_L50 n) b1 b2 b3 (b4 * (((10 : Int32) - b2).toInt64)) (b6 * (10 : Int64)) (b8 + (1 : Int32)) m
theorem f4_odds_L50_0   (b1 : Int32) (b2 : Int32) (b3 : Int32) (b4 : Int64) (b6 : Int64) (b8 : Int32) (m : St) : f4_odds_L50  0 b1 b2 b3 b4 b6 b8 m = none := rfl
theorem f4_odds_L50_s   (n : Nat) (b1 : Int32) (b2 : Int32) (b3 : Int32) (b4 : Int64) (b6 : Int64) (b8 : Int32) (m : St) : f4_odds_L50  (n + 1) b1 b2 b3 b4 b6 b8 m =
    if b1 ≤ b8 then
      f4_odds_L88 fu b3 b4 b6 b4 b6 m
    else
      (f4_odds_L50 n) b1 b2 b3 (b4 * (((10 : Int32) - b2).toInt64)) (b6 * (10 : Int64)) (b8 + (1 : Int32)) m := rfl
def f4_odds_b34    (m : St) : Option (Int64 × St) :=
  (f4_finds (0 : Int32) m).bind fun q => match q with
  | (v2, z1) =>
    some ((v2.toInt64), z1)
def f4_odds  (a1 : Int32) (a2 : Int32) (a3 : Int32) (m : St) : Option (Int64 × St) :=
  if (f4_in (a1.toInt64) (0 : Int64) (18 : Int64)) = 0 then
    f4_odds_b34 m
  else
    if (f4_in (a2.toInt64) (0 : Int64) (10 : Int64)) = 0 then
      f4_odds_b34 m
    else
      if (f4_in (a3.toInt64) (0 : Int64) (1 : Int64)) = 0 then
        f4_odds_b34 m
      else
        f4_odds_L50 fu a1 a2 a3 (1 : Int64) (1 : Int64) (0 : Int32) m
set_option maxHeartbeats 4000000 in
set_option maxRecDepth 100000 in
theorem c4_odds (l : Launch) (G : GT)  (x m : St) (a1 : Int32) (a2 : Int32) (a3 : Int32) (r : Int64 × St) (h : f4_odds a1 a2 a3 m = some r) : Mt l yX4_odds cX4_odds 14 (some .long) (rmF 1 25) G x m [.ref (gq G 25), .int a1, .int a2, .int a3] (some (.long r.1)) x r.2 := by
  refine Mt.of (by decide) (Nat.le_of_ble_eq_true rfl) ?_
  intro p e s mm args below meth c C ls hl hw
  have hx := C.1
  have hb := C.2.1
  have hown := C.2.2.2.2.1
  replace hl : lv_has ls 14 [(0, .ref (gq G 25)), (1, .int a1), (2, .int a2), (3, .int a3)] := hl
  have L88 : ∀ (n88 : Nat) (b3 : Int32) (b4 : Int64) (b6 : Int64) (b8 : Int64) (b10 : Int64) (m : St) (H : Heap) (locs : List Loc) (ls : Array Slot), lv_has ls 14 [(3, .int b3), (4, .long b4), (6, .long b6), (8, .long b8), (10, .long b10)] → Wd G s x m H locs → f4_odds_L88 n88 b3 b4 b6 b8 b10 m = some r → W p l e (rmF 1 25) s mm args below meth c H locs 0 0 (QE below G (some (.long r.1)) x r.2 args s) (F0 mm 88 ls []) := by
    intro n88
    induction n88 with
    | zero =>
      intro b3 b4 b6 b8 b10 m H locs ls hl hw h
      rw [f4_odds_L88_0] at h
      exact absurd h.symm (Option.some_ne_none _)
    | succ n88 ih88 =>
      intro b3 b4 b6 b8 b10 m H locs ls hl hw h
      rw [f4_odds_L88_s] at h
      refine lv_lload hx hb dX4_odds_88 (lv_at hl 4 rfl) ?_
      refine lv_lconst (v := (0 : Int64)) hx hb dX4_odds_90 (by decide) ?_
      refine W.lcmp hx hb dX4_odds_91 ?_
      refine lv_if_eq (tgt := 113) hx hb dX4_odds_92 (by decide) (fun hc => ?_) (fun hc => ?_)
      · replace h := p_t hc h
        refine lv_iload_n hx hb dX4_odds_113 rfl (lv_at hl 0 rfl) ?_
        refine lv_if_ne (tgt := 122) hx hb dX4_odds_114 (by decide) (fun hc => ?_) (fun hc => ?_)
        · replace h := p_f hc h
          refine lv_lload hx hb dX4_odds_122 (lv_at hl 2 rfl) ?_
          refine lv_lload hx hb dX4_odds_124 (lv_at hl 3 rfl) ?_
          obtain ⟨hq, h⟩ := p_if h
          refine lv_ldiv hx hb dX4_odds_126 hq ?_
          replace h := Option.some.inj h
          subst h
          exact w_lret C hw (v := (b6 / b8)) rfl dX4_odds_127
        · replace h := p_t hc h
          refine lv_lload hx hb dX4_odds_117 (lv_at hl 1 rfl) ?_
          refine lv_goto (tgt := 124) hx hb dX4_odds_119 (by decide) ?_
          refine lv_lload hx hb dX4_odds_124 (lv_at hl 3 rfl) ?_
          obtain ⟨hq, h⟩ := p_if h
          refine lv_ldiv hx hb dX4_odds_126 hq ?_
          replace h := Option.some.inj h
          subst h
          exact w_lret C hw (v := (b4 / b8)) rfl dX4_odds_127
      · replace h := p_f hc h
        refine lv_lload hx hb dX4_odds_95 (lv_at hl 3 rfl) ?_
        refine lv_lload hx hb dX4_odds_97 (lv_at hl 4 rfl) ?_
        obtain ⟨hq, h⟩ := p_if h
        refine lv_lrem hx hb dX4_odds_99 hq ?_
        refine lv_lstore (lv' := [(12, .long (b8 - b8 / b10 * b10)), (3, .int b3), (4, .long b4), (6, .long b6), (8, .long b8), (10, .long b10)]) hx hb dX4_odds_100 hl (by decide) rfl (fun ls hl => ?_)
        refine lv_lload hx hb dX4_odds_102 (lv_at hl 5 rfl) ?_
        refine lv_lstore (lv' := [(8, .long b10), (12, .long (b8 - b8 / b10 * b10)), (3, .int b3), (4, .long b4), (6, .long b6), (10, .long b10)]) hx hb dX4_odds_104 hl (by decide) rfl (fun ls hl => ?_)
        refine lv_lload hx hb dX4_odds_106 (lv_at hl 1 rfl) ?_
        refine lv_lstore (lv' := [(10, .long (b8 - b8 / b10 * b10)), (8, .long b10), (12, .long (b8 - b8 / b10 * b10)), (3, .int b3), (4, .long b4), (6, .long b6)]) hx hb dX4_odds_108 hl (by decide) rfl (fun ls hl => ?_)
        refine lv_goto (tgt := 88) hx hb dX4_odds_110 (by decide) ?_
        exact ih88 b3 b4 b6 b10 (b8 - b8 / b10 * b10) m _ _ _ (lv_sub hl [3, 4, 5, 1, 0] rfl) hw h
  have L50 : ∀ (n50 : Nat) (b1 : Int32) (b2 : Int32) (b3 : Int32) (b4 : Int64) (b6 : Int64) (b8 : Int32) (m : St) (H : Heap) (locs : List Loc) (ls : Array Slot), lv_has ls 14 [(1, .int b1), (2, .int b2), (3, .int b3), (4, .long b4), (6, .long b6), (8, .int b8)] → Wd G s x m H locs → f4_odds_L50 n50 b1 b2 b3 b4 b6 b8 m = some r → W p l e (rmF 1 25) s mm args below meth c H locs 0 0 (QE below G (some (.long r.1)) x r.2 args s) (F0 mm 50 ls []) := by
    intro n50
    induction n50 with
    | zero =>
      intro b1 b2 b3 b4 b6 b8 m H locs ls hl hw h
      rw [f4_odds_L50_0] at h
      exact absurd h.symm (Option.some_ne_none _)
    | succ n50 ih50 =>
      intro b1 b2 b3 b4 b6 b8 m H locs ls hl hw h
      rw [f4_odds_L50_s] at h
      refine lv_iload hx hb dX4_odds_50 (lv_at hl 5 rfl) ?_
      refine lv_iload_n hx hb dX4_odds_52 rfl (lv_at hl 0 rfl) ?_
      refine lv_icmp_ge (tgt := 80) hx hb dX4_odds_53 (by decide) (fun hc => ?_) (fun hc => ?_)
      · replace h := p_t hc h
        refine lv_lload hx hb dX4_odds_80 (lv_at hl 3 rfl) ?_
        refine lv_lstore (lv' := [(8, .long b4), (1, .int b1), (2, .int b2), (3, .int b3), (4, .long b4), (6, .long b6)]) hx hb dX4_odds_82 hl (by decide) rfl (fun ls hl => ?_)
        refine lv_lload hx hb dX4_odds_84 (lv_at hl 5 rfl) ?_
        refine lv_lstore (lv' := [(10, .long b6), (8, .long b4), (1, .int b1), (2, .int b2), (3, .int b3), (4, .long b4), (6, .long b6)]) hx hb dX4_odds_86 hl (by decide) rfl (fun ls hl => ?_)
        exact L88 fu b3 b4 b6 b4 b6 m _ _ _ (lv_sub hl [4, 5, 6, 1, 0] rfl) hw h
      · replace h := p_f hc h
        refine lv_lload hx hb dX4_odds_56 (lv_at hl 3 rfl) ?_
        refine lv_bipush (v := (10 : Int32)) hx hb dX4_odds_58 (by decide) ?_
        refine lv_iload_n hx hb dX4_odds_60 rfl (lv_at hl 1 rfl) ?_
        refine lv_isub hx hb dX4_odds_61 ?_
        refine lv_i2l hx hb dX4_odds_62 rfl ?_
        refine lv_lmul hx hb dX4_odds_63 ?_
        refine lv_lstore (lv' := [(4, .long (b4 * (((10 : Int32) - b2).toInt64))), (1, .int b1), (2, .int b2), (3, .int b3), (6, .long b6), (8, .int b8)]) hx hb dX4_odds_64 hl (by decide) rfl (fun ls hl => ?_)
        refine lv_lload hx hb dX4_odds_66 (lv_at hl 4 rfl) ?_
        refine lv_ldc2 hx hb hown (C.w kl_X4_258) dX4_odds_68 ?_
        refine lv_lmul hx hb dX4_odds_71 ?_
        refine lv_lstore (lv' := [(6, .long (b6 * (10 : Int64))), (4, .long (b4 * (((10 : Int32) - b2).toInt64))), (1, .int b1), (2, .int b2), (3, .int b3), (8, .int b8)]) hx hb dX4_odds_72 hl (by decide) rfl (fun ls hl => ?_)
        refine lv_iinc (v := (b8 + (1 : Int32))) (lv' := [(8, .int (b8 + (1 : Int32))), (6, .long (b6 * (10 : Int64))), (4, .long (b4 * (((10 : Int32) - b2).toInt64))), (1, .int b1), (2, .int b2), (3, .int b3)]) hx hb dX4_odds_74 hl (k := 5) rfl rfl (by decide) rfl (fun ls hl => ?_)
        refine lv_goto (tgt := 50) hx hb dX4_odds_77 (by decide) ?_
        exact ih50 b1 b2 b3 (b4 * (((10 : Int32) - b2).toInt64)) (b6 * (10 : Int64)) (b8 + (1 : Int32)) m _ _ _ (lv_sub hl [3, 4, 5, 2, 1, 0] rfl) hw h
  have B34 : ∀  (m : St) (H : Heap) (locs : List Loc) (ls : Array Slot), lv_has ls 14 [(0, .ref (gq G 25))] → Wd G s x m H locs → f4_odds_b34 m = some r → W p l e (rmF 1 25) s mm args below meth c H locs 0 0 (QE below G (some (.long r.1)) x r.2 args s) (F0 mm 34 ls []) := by
    intro  m H locs ls hl hw h
    unfold f4_odds_b34 at h
    refine lv_aload_n hx hb dX4_odds_34 rfl (lv_at hl 0 rfl) ?_
    refine lv_iconst (v := (0 : Int32)) hx hb dX4_odds_35 (by decide) ?_
    obtain ⟨⟨v2, z1⟩, hq, h⟩ := p_bd h
    dsimp only at h
    refine w_Vi C hw (As := [.int (0 : Int32)]) (rest := []) (c4_finds l G x m (0 : Int32) (v2, z1) hq) kv_X4_finds ml_X4_82 ⟨rfl, rfl⟩ ⟨Nat.le_of_ble_eq_true rfl, Nat.le_of_ble_eq_true rfl⟩ ⟨Nat.zero_le _, Nat.zero_le _⟩ (w_recv C hw (wk_model G x m) rfl) rfl rfl (Nat.le_of_ble_eq_true rfl) (lv_sub hl [] rfl) dX4_odds_36 (fun H locs hw => ?_)
    refine lv_i2l hx hb dX4_odds_39 rfl ?_
    replace h := Option.some.inj h
    subst h
    exact w_lret C hw (v := (v2.toInt64)) rfl dX4_odds_40
  unfold f4_odds at h
  refine lv_iload_n hx hb dX4_odds_0 rfl (lv_at hl 1 rfl) ?_
  refine lv_i2l hx hb dX4_odds_1 rfl ?_
  refine lv_lconst (v := (0 : Int64)) hx hb dX4_odds_2 (by decide) ?_
  refine lv_ldc2 hx hb hown (C.w kl_X4_256) dX4_odds_3 ?_
  refine w_Si C hw (As := [.long (a1.toInt64), .long (0 : Int64), .long (18 : Int64)]) (rest := []) (c4_in l G x m (a1.toInt64) (0 : Int64) (18 : Int64) _ rfl) ks_X4_in ml_X4_57 ⟨rfl, rfl⟩ ⟨Nat.le_of_ble_eq_true rfl, Nat.le_of_ble_eq_true rfl⟩ ⟨Nat.zero_le _, Nat.zero_le _⟩ rfl rfl (Nat.le_of_ble_eq_true rfl) (lv_sub hl [] rfl) dX4_odds_6 (fun H locs hw => ?_)
  refine lv_if_eq (tgt := 34) hx hb dX4_odds_9 (by decide) (fun hc => ?_) (fun hc => ?_)
  · replace h := p_t hc h
    exact B34 m _ _ _ (lv_sub hl [0] rfl) hw h
  · replace h := p_f hc h
    refine lv_iload_n hx hb dX4_odds_12 rfl (lv_at hl 2 rfl) ?_
    refine lv_i2l hx hb dX4_odds_13 rfl ?_
    refine lv_lconst (v := (0 : Int64)) hx hb dX4_odds_14 (by decide) ?_
    refine lv_ldc2 hx hb hown (C.w kl_X4_258) dX4_odds_15 ?_
    refine w_Si C hw (As := [.long (a2.toInt64), .long (0 : Int64), .long (10 : Int64)]) (rest := []) (c4_in l G x m (a2.toInt64) (0 : Int64) (10 : Int64) _ rfl) ks_X4_in ml_X4_57 ⟨rfl, rfl⟩ ⟨Nat.le_of_ble_eq_true rfl, Nat.le_of_ble_eq_true rfl⟩ ⟨Nat.zero_le _, Nat.zero_le _⟩ rfl rfl (Nat.le_of_ble_eq_true rfl) (lv_sub hl [] rfl) dX4_odds_18 (fun H locs hw => ?_)
    refine lv_if_eq (tgt := 34) hx hb dX4_odds_21 (by decide) (fun hc => ?_) (fun hc => ?_)
    · replace h := p_t hc h
      exact B34 m _ _ _ (lv_sub hl [0] rfl) hw h
    · replace h := p_f hc h
      refine lv_iload_n hx hb dX4_odds_24 rfl (lv_at hl 3 rfl) ?_
      refine lv_i2l hx hb dX4_odds_25 rfl ?_
      refine lv_lconst (v := (0 : Int64)) hx hb dX4_odds_26 (by decide) ?_
      refine lv_lconst (v := (1 : Int64)) hx hb dX4_odds_27 (by decide) ?_
      refine w_Si C hw (As := [.long (a3.toInt64), .long (0 : Int64), .long (1 : Int64)]) (rest := []) (c4_in l G x m (a3.toInt64) (0 : Int64) (1 : Int64) _ rfl) ks_X4_in ml_X4_57 ⟨rfl, rfl⟩ ⟨Nat.le_of_ble_eq_true rfl, Nat.le_of_ble_eq_true rfl⟩ ⟨Nat.zero_le _, Nat.zero_le _⟩ rfl rfl (Nat.le_of_ble_eq_true rfl) (lv_sub hl [] rfl) dX4_odds_28 (fun H locs hw => ?_)
      refine lv_if_ne (tgt := 41) hx hb dX4_odds_31 (by decide) (fun hc => ?_) (fun hc => ?_)
      · replace h := p_f hc h
        refine lv_lconst (v := (1 : Int64)) hx hb dX4_odds_41 (by decide) ?_
        refine lv_lstore (lv' := [(4, .long (1 : Int64)), (0, .ref (gq G 25)), (1, .int a1), (2, .int a2), (3, .int a3)]) hx hb dX4_odds_42 hl (by decide) rfl (fun ls hl => ?_)
        refine lv_lconst (v := (1 : Int64)) hx hb dX4_odds_44 (by decide) ?_
        refine lv_lstore (lv' := [(6, .long (1 : Int64)), (4, .long (1 : Int64)), (0, .ref (gq G 25)), (1, .int a1), (2, .int a2), (3, .int a3)]) hx hb dX4_odds_45 hl (by decide) rfl (fun ls hl => ?_)
        refine lv_iconst (v := (0 : Int32)) hx hb dX4_odds_47 (by decide) ?_
        refine lv_istore (lv' := [(8, .int (0 : Int32)), (6, .long (1 : Int64)), (4, .long (1 : Int64)), (0, .ref (gq G 25)), (1, .int a1), (2, .int a2), (3, .int a3)]) hx hb dX4_odds_48 hl (by decide) rfl (fun ls hl => ?_)
        exact L50 fu a1 a2 a3 (1 : Int64) (1 : Int64) (0 : Int32) m _ _ _ (lv_sub hl [4, 5, 6, 2, 1, 0] rfl) hw h
      · replace h := p_t hc h
        exact B34 m _ _ _ (lv_sub hl [0] rfl) hw h

def f4_seed  (a1 : Int32) (m : St) : Option (Int32 × St) :=
  (f4_becomes (4 : Int32) a1 m).bind fun q => match q with
  | (v2, z1) =>
    some (v2, z1)
set_option maxHeartbeats 4000000 in
set_option maxRecDepth 100000 in
theorem c4_seed (l : Launch) (G : GT)  (x m : St) (a1 : Int32) (r : Int32 × St) (h : f4_seed a1 m = some r) : Mt l yX4_seed cX4_seed 2 (some .int) (rmF 1 23) G x m [.ref (gq G 25), .int a1] (some (.int r.1)) x r.2 := by
  refine Mt.of (by decide) (Nat.le_of_ble_eq_true rfl) ?_
  intro p e s mm args below meth c C ls hl hw
  have hx := C.1
  have hb := C.2.1
  have hown := C.2.2.2.2.1
  replace hl : lv_has ls 2 [(0, .ref (gq G 25)), (1, .int a1)] := hl
  unfold f4_seed at h
  refine lv_aload_n hx hb dX4_seed_0 rfl (lv_at hl 0 rfl) ?_
  refine lv_iconst (v := (4 : Int32)) hx hb dX4_seed_1 (by decide) ?_
  refine lv_iload_n hx hb dX4_seed_2 rfl (lv_at hl 1 rfl) ?_
  obtain ⟨⟨v2, z1⟩, hq, h⟩ := p_bd h
  dsimp only at h
  refine w_Vi C hw (As := [.int (4 : Int32), .int a1]) (rest := []) (c4_becomes l G x m (4 : Int32) a1 (v2, z1) hq) kv_X4_becomes ml_X4_99 ⟨rfl, rfl⟩ ⟨Nat.le_of_ble_eq_true rfl, Nat.le_of_ble_eq_true rfl⟩ ⟨Nat.zero_le _, Nat.zero_le _⟩ (w_recv C hw (wk_model G x m) rfl) rfl rfl (Nat.le_of_ble_eq_true rfl) (lv_sub hl [] rfl) dX4_seed_3 (fun H locs hw => ?_)
  replace h := Option.some.inj h
  subst h
  exact w_iret C hw (v := v2) rfl rfl dX4_seed_6

def f4_feed_L39   : Nat → Int32 → Int32 → St → Option (Int32 × St)
  | 0, _, _, _ => none
  | n + 1, b1, b3, m =>
    if b3 < 0 then
      some ((m 25 15), m)
    else
      if (m 25 15) < 0 ∨ 120 ≤ (m 25 15).toNatClampNeg then none else
      (f4_feed_L39 n) b1 (b3 + (-1 : Int32)) (up (up m 31 (m 25 15).toNatClampNeg ((b1 >>> (((8 : Int32) * b3) &&& 31)) &&& (255 : Int32))) 25 15 (((up m 31 (m 25 15).toNatClampNeg ((b1 >>> (((8 : Int32) * b3) &&& 31)) &&& (255 : Int32))) 25 15) + (1 : Int32)))
theorem f4_feed_L39_0   (b1 : Int32) (b3 : Int32) (m : St) : f4_feed_L39  0 b1 b3 m = none := rfl
theorem f4_feed_L39_s   (n : Nat) (b1 : Int32) (b3 : Int32) (m : St) : f4_feed_L39  (n + 1) b1 b3 m =
    if b3 < 0 then
      some ((m 25 15), m)
    else
      if (m 25 15) < 0 ∨ 120 ≤ (m 25 15).toNatClampNeg then none else
      (f4_feed_L39 n) b1 (b3 + (-1 : Int32)) (up (up m 31 (m 25 15).toNatClampNeg ((b1 >>> (((8 : Int32) * b3) &&& 31)) &&& (255 : Int32))) 25 15 (((up m 31 (m 25 15).toNatClampNeg ((b1 >>> (((8 : Int32) * b3) &&& 31)) &&& (255 : Int32))) 25 15) + (1 : Int32))) := rfl
def f4_feed  (a1 : Int32) (a2 : Int32) (m : St) : Option (Int32 × St) :=
  if (f4_in (a2.toInt64) (1 : Int64) (4 : Int64)) = 0 then
    (f4_finds (0 : Int32) m).bind fun q => match q with
    | (v4, z3) =>
      some (v4, z3)
  else
    if ((m 25 15) + a2) ≤ (120 : Int32) then
      f4_feed_L39 fu a1 (a2 - (1 : Int32)) m
    else
      (f4_finds (1 : Int32) m).bind fun q => match q with
      | (v2, z1) =>
        some (v2, z1)
set_option maxHeartbeats 4000000 in
set_option maxRecDepth 100000 in
theorem c4_feed (l : Launch) (G : GT)  (x m : St) (a1 : Int32) (a2 : Int32) (r : Int32 × St) (h : f4_feed a1 a2 m = some r) : Mt l yX4_feed cX4_feed 4 (some .int) (rmF 1 25) G x m [.ref (gq G 25), .int a1, .int a2] (some (.int r.1)) x r.2 := by
  refine Mt.of (by decide) (Nat.le_of_ble_eq_true rfl) ?_
  intro p e s mm args below meth c C ls hl hw
  have hx := C.1
  have hb := C.2.1
  have hown := C.2.2.2.2.1
  replace hl : lv_has ls 4 [(0, .ref (gq G 25)), (1, .int a1), (2, .int a2)] := hl
  have L39 : ∀ (n39 : Nat) (b1 : Int32) (b3 : Int32) (m : St) (H : Heap) (locs : List Loc) (ls : Array Slot), lv_has ls 4 [(0, .ref (gq G 25)), (1, .int b1), (3, .int b3)] → Wd G s x m H locs → f4_feed_L39 n39 b1 b3 m = some r → W p l e (rmF 1 25) s mm args below meth c H locs 0 0 (QE below G (some (.int r.1)) x r.2 args s) (F0 mm 39 ls []) := by
    intro n39
    induction n39 with
    | zero =>
      intro b1 b3 m H locs ls hl hw h
      rw [f4_feed_L39_0] at h
      exact absurd h.symm (Option.some_ne_none _)
    | succ n39 ih39 =>
      intro b1 b3 m H locs ls hl hw h
      rw [f4_feed_L39_s] at h
      refine lv_iload_n hx hb dX4_feed_39 rfl (lv_at hl 2 rfl) ?_
      refine lv_if_lt (tgt := 78) hx hb dX4_feed_40 (by decide) (fun hc => ?_) (fun hc => ?_)
      · replace h := p_t hc h
        refine lv_aload_n hx hb dX4_feed_78 rfl (lv_at hl 0 rfl) ?_
        refine w_get C hw (v := .int (m 25 15)) (k := 15) (wk_model G x m) rfl it_4 (by decide) fl_X4_260 rfl dX4_feed_79 ?_
        replace h := Option.some.inj h
        subst h
        exact w_iret C hw (v := (m 25 15)) rfl rfl dX4_feed_82
      · replace h := p_f hc h
        refine lv_aload_n hx hb dX4_feed_43 rfl (lv_at hl 0 rfl) ?_
        refine w_get C hw (v := .ref (gq G 31)) (k := 14) (wk_model G x m) rfl it_4 (by decide) fl_X4_25 rfl dX4_feed_44 ?_
        refine lv_aload_n hx hb dX4_feed_47 rfl (lv_at hl 0 rfl) ?_
        refine w_get C hw (v := .int (m 25 15)) (k := 15) (wk_model G x m) rfl it_4 (by decide) fl_X4_260 rfl dX4_feed_48 ?_
        refine lv_iload_n hx hb dX4_feed_51 rfl (lv_at hl 1 rfl) ?_
        refine lv_bipush (v := (8 : Int32)) hx hb dX4_feed_52 (by decide) ?_
        refine lv_iload_n hx hb dX4_feed_54 rfl (lv_at hl 2 rfl) ?_
        refine lv_imul hx hb dX4_feed_55 ?_
        refine lv_ishr hx hb dX4_feed_56 ?_
        refine lv_sipush (v := (255 : Int32)) hx hb dX4_feed_57 (by decide) ?_
        refine lv_iand hx hb dX4_feed_60 ?_
        obtain ⟨hq, h⟩ := p_if h
        refine w_astM C hw am_31 hq dX4_feed_61 (fun H locs hw => ?_)
        refine lv_aload_n hx hb dX4_feed_62 rfl (lv_at hl 0 rfl) ?_
        refine lv_dup hx hb dX4_feed_63 rfl ?_
        refine w_get C hw (v := .int ((up m 31 (m 25 15).toNatClampNeg ((b1 >>> (((8 : Int32) * b3) &&& 31)) &&& (255 : Int32))) 25 15)) (k := 15) (wk_model G x (up m 31 (m 25 15).toNatClampNeg ((b1 >>> (((8 : Int32) * b3) &&& 31)) &&& (255 : Int32)))) rfl it_4 (by decide) fl_X4_260 rfl dX4_feed_64 ?_
        refine lv_iconst (v := (1 : Int32)) hx hb dX4_feed_67 (by decide) ?_
        refine lv_iadd hx hb dX4_feed_68 ?_
        refine w_put C hw (k := 15) tyX4 tyX4_ok nmX4 (wk_model G x (up m 31 (m 25 15).toNatClampNeg ((b1 >>> (((8 : Int32) * b3) &&& 31)) &&& (255 : Int32)))) rfl it_4 (by decide) fl_X4_260 rfl (ty := .int) rfl rfl rfl (Nat.le_of_ble_eq_true rfl) (ws_model_15 G x (up m 31 (m 25 15).toNatClampNeg ((b1 >>> (((8 : Int32) * b3) &&& 31)) &&& (255 : Int32))) _) dX4_feed_69 (fun H locs hw => ?_)
        refine lv_iinc (v := (b3 + (-1 : Int32))) (lv' := [(3, .int (b3 + (-1 : Int32))), (0, .ref (gq G 25)), (1, .int b1)]) hx hb dX4_feed_72 hl (k := 2) rfl rfl (by decide) rfl (fun ls hl => ?_)
        refine lv_goto (tgt := 39) hx hb dX4_feed_75 (by decide) ?_
        exact ih39 b1 (b3 + (-1 : Int32)) (up (up m 31 (m 25 15).toNatClampNeg ((b1 >>> (((8 : Int32) * b3) &&& 31)) &&& (255 : Int32))) 25 15 (((up m 31 (m 25 15).toNatClampNeg ((b1 >>> (((8 : Int32) * b3) &&& 31)) &&& (255 : Int32))) 25 15) + (1 : Int32))) _ _ _ (lv_sub hl [1, 2, 0] rfl) hw h
  unfold f4_feed at h
  refine lv_iload_n hx hb dX4_feed_0 rfl (lv_at hl 2 rfl) ?_
  refine lv_i2l hx hb dX4_feed_1 rfl ?_
  refine lv_lconst (v := (1 : Int64)) hx hb dX4_feed_2 (by decide) ?_
  refine lv_ldc2 hx hb hown (C.w kl_X4_94) dX4_feed_3 ?_
  refine w_Si C hw (As := [.long (a2.toInt64), .long (1 : Int64), .long (4 : Int64)]) (rest := []) (c4_in l G x m (a2.toInt64) (1 : Int64) (4 : Int64) _ rfl) ks_X4_in ml_X4_57 ⟨rfl, rfl⟩ ⟨Nat.le_of_ble_eq_true rfl, Nat.le_of_ble_eq_true rfl⟩ ⟨Nat.zero_le _, Nat.zero_le _⟩ rfl rfl (Nat.le_of_ble_eq_true rfl) (lv_sub hl [] rfl) dX4_feed_6 (fun H locs hw => ?_)
  refine lv_if_ne (tgt := 18) hx hb dX4_feed_9 (by decide) (fun hc => ?_) (fun hc => ?_)
  · replace h := p_f hc h
    refine lv_aload_n hx hb dX4_feed_18 rfl (lv_at hl 0 rfl) ?_
    refine w_get C hw (v := .int (m 25 15)) (k := 15) (wk_model G x m) rfl it_4 (by decide) fl_X4_260 rfl dX4_feed_19 ?_
    refine lv_iload_n hx hb dX4_feed_22 rfl (lv_at hl 2 rfl) ?_
    refine lv_iadd hx hb dX4_feed_23 ?_
    refine lv_bipush (v := (120 : Int32)) hx hb dX4_feed_24 (by decide) ?_
    refine lv_icmp_le (tgt := 35) hx hb dX4_feed_26 (by decide) (fun hc => ?_) (fun hc => ?_)
    · replace h := p_t hc h
      refine lv_iload_n hx hb dX4_feed_35 rfl (lv_at hl 2 rfl) ?_
      refine lv_iconst (v := (1 : Int32)) hx hb dX4_feed_36 (by decide) ?_
      refine lv_isub hx hb dX4_feed_37 ?_
      refine lv_istore_n (lv' := [(3, .int (a2 - (1 : Int32))), (0, .ref (gq G 25)), (1, .int a1), (2, .int a2)]) hx hb dX4_feed_38 rfl hl (by decide) rfl (fun ls hl => ?_)
      exact L39 fu a1 (a2 - (1 : Int32)) m _ _ _ (lv_sub hl [1, 2, 0] rfl) hw h
    · replace h := p_f hc h
      refine lv_aload_n hx hb dX4_feed_29 rfl (lv_at hl 0 rfl) ?_
      refine lv_iconst (v := (1 : Int32)) hx hb dX4_feed_30 (by decide) ?_
      obtain ⟨⟨v2, z1⟩, hq, h⟩ := p_bd h
      dsimp only at h
      refine w_Vi C hw (As := [.int (1 : Int32)]) (rest := []) (c4_finds l G x m (1 : Int32) (v2, z1) hq) kv_X4_finds ml_X4_82 ⟨rfl, rfl⟩ ⟨Nat.le_of_ble_eq_true rfl, Nat.le_of_ble_eq_true rfl⟩ ⟨Nat.zero_le _, Nat.zero_le _⟩ (w_recv C hw (wk_model G x m) rfl) rfl rfl (Nat.le_of_ble_eq_true rfl) (lv_sub hl [] rfl) dX4_feed_31 (fun H locs hw => ?_)
      replace h := Option.some.inj h
      subst h
      exact w_iret C hw (v := v2) rfl rfl dX4_feed_34
  · replace h := p_t hc h
    refine lv_aload_n hx hb dX4_feed_12 rfl (lv_at hl 0 rfl) ?_
    refine lv_iconst (v := (0 : Int32)) hx hb dX4_feed_13 (by decide) ?_
    obtain ⟨⟨v4, z3⟩, hq, h⟩ := p_bd h
    dsimp only at h
    refine w_Vi C hw (As := [.int (0 : Int32)]) (rest := []) (c4_finds l G x m (0 : Int32) (v4, z3) hq) kv_X4_finds ml_X4_82 ⟨rfl, rfl⟩ ⟨Nat.le_of_ble_eq_true rfl, Nat.le_of_ble_eq_true rfl⟩ ⟨Nat.zero_le _, Nat.zero_le _⟩ (w_recv C hw (wk_model G x m) rfl) rfl rfl (Nat.le_of_ble_eq_true rfl) (lv_sub hl [] rfl) dX4_feed_14 (fun H locs hw => ?_)
    replace h := Option.some.inj h
    subst h
    exact w_iret C hw (v := v4) rfl rfl dX4_feed_17

def f4_wipe   (m : St) : Int32 × St :=
  ((m 25 15), (up m 25 15 (0 : Int32)))
set_option maxHeartbeats 4000000 in
set_option maxRecDepth 100000 in
theorem c4_wipe (l : Launch) (G : GT)  (x m : St)  (r : Int32 × St) (h : f4_wipe m = r) : Mt l yX4_wipe cX4_wipe 2 (some .int) (rmF 0 0) G x m [.ref (gq G 25)] (some (.int r.1)) x r.2 := by
  refine Mt.of (by decide) (Nat.le_of_ble_eq_true rfl) ?_
  intro p e s mm args below meth c C ls hl hw
  have hx := C.1
  have hb := C.2.1
  have hown := C.2.2.2.2.1
  replace hl : lv_has ls 2 [(0, .ref (gq G 25))] := hl
  unfold f4_wipe at h
  refine lv_aload_n hx hb dX4_wipe_0 rfl (lv_at hl 0 rfl) ?_
  refine w_get C hw (v := .int (m 25 15)) (k := 15) (wk_model G x m) rfl it_4 (by decide) fl_X4_260 rfl dX4_wipe_1 ?_
  refine lv_istore_n (lv' := [(1, .int (m 25 15)), (0, .ref (gq G 25))]) hx hb dX4_wipe_4 rfl hl (by decide) rfl (fun ls hl => ?_)
  refine lv_aload_n hx hb dX4_wipe_5 rfl (lv_at hl 1 rfl) ?_
  refine lv_iconst (v := (0 : Int32)) hx hb dX4_wipe_6 (by decide) ?_
  refine w_put C hw (k := 15) tyX4 tyX4_ok nmX4 (wk_model G x m) rfl it_4 (by decide) fl_X4_260 rfl (ty := .int) rfl rfl rfl (Nat.le_of_ble_eq_true rfl) (ws_model_15 G x m _) dX4_wipe_7 (fun H locs hw => ?_)
  refine lv_iload_n hx hb dX4_wipe_10 rfl (lv_at hl 0 rfl) ?_
  subst h
  exact w_iret C hw (v := (m 25 15)) rfl rfl dX4_wipe_11

def f4_isByte  (a1 : Int32) (a2 : Int32) (a3 : Int32) (m : St) : Option (Int32) :=
  if (m 25 15) ≤ a1 then
    some (0 : Int32)
  else
    if a1 < 0 ∨ 120 ≤ a1.toNatClampNeg then none else
    if (f4_in ((m 31 a1.toNatClampNeg).toInt64) (a2.toInt64) (a3.toInt64)) = 0 then
      some (0 : Int32)
    else
      some (1 : Int32)
set_option maxHeartbeats 4000000 in
set_option maxRecDepth 100000 in
theorem c4_isByte (l : Launch) (G : GT)  (x m : St) (a1 : Int32) (a2 : Int32) (a3 : Int32) (r : Int32) (h : f4_isByte a1 a2 a3 m = some r) : Mt l yX4_isByte cX4_isByte 4 (some .boolean) (rmF 1 25) G x m [.ref (gq G 25), .int a1, .int a2, .int a3] (some (.int r)) x m := by
  refine Mt.of (by decide) (Nat.le_of_ble_eq_true rfl) ?_
  intro p e s mm args below meth c C ls hl hw
  have hx := C.1
  have hb := C.2.1
  have hown := C.2.2.2.2.1
  replace hl : lv_has ls 4 [(0, .ref (gq G 25)), (1, .int a1), (2, .int a2), (3, .int a3)] := hl
  unfold f4_isByte at h
  refine lv_iload_n hx hb dX4_isByte_0 rfl (lv_at hl 1 rfl) ?_
  refine lv_aload_n hx hb dX4_isByte_1 rfl (lv_at hl 0 rfl) ?_
  refine w_get C hw (v := .int (m 25 15)) (k := 15) (wk_model G x m) rfl it_4 (by decide) fl_X4_260 rfl dX4_isByte_2 ?_
  refine lv_icmp_ge (tgt := 29) hx hb dX4_isByte_5 (by decide) (fun hc => ?_) (fun hc => ?_)
  · replace h := p_t hc h
    refine lv_iconst (v := (0 : Int32)) hx hb dX4_isByte_29 (by decide) ?_
    replace h := Option.some.inj h
    subst h
    exact w_iret C hw (v := (0 : Int32)) rfl rfl dX4_isByte_30
  · replace h := p_f hc h
    refine lv_aload_n hx hb dX4_isByte_8 rfl (lv_at hl 0 rfl) ?_
    refine w_get C hw (v := .ref (gq G 31)) (k := 14) (wk_model G x m) rfl it_4 (by decide) fl_X4_25 rfl dX4_isByte_9 ?_
    refine lv_iload_n hx hb dX4_isByte_12 rfl (lv_at hl 1 rfl) ?_
    obtain ⟨hq, h⟩ := p_if h
    refine w_ald C hw (am_31 G x m).1 hq dX4_isByte_13 ?_
    refine lv_i2l hx hb dX4_isByte_14 rfl ?_
    refine lv_iload_n hx hb dX4_isByte_15 rfl (lv_at hl 2 rfl) ?_
    refine lv_i2l hx hb dX4_isByte_16 rfl ?_
    refine lv_iload_n hx hb dX4_isByte_17 rfl (lv_at hl 3 rfl) ?_
    refine lv_i2l hx hb dX4_isByte_18 rfl ?_
    refine w_Si C hw (As := [.long ((m 31 a1.toNatClampNeg).toInt64), .long (a2.toInt64), .long (a3.toInt64)]) (rest := []) (c4_in l G x m ((m 31 a1.toNatClampNeg).toInt64) (a2.toInt64) (a3.toInt64) _ rfl) ks_X4_in ml_X4_57 ⟨rfl, rfl⟩ ⟨Nat.le_of_ble_eq_true rfl, Nat.le_of_ble_eq_true rfl⟩ ⟨Nat.zero_le _, Nat.zero_le _⟩ rfl rfl (Nat.le_of_ble_eq_true rfl) (lv_sub hl [] rfl) dX4_isByte_19 (fun H locs hw => ?_)
    refine lv_if_eq (tgt := 29) hx hb dX4_isByte_22 (by decide) (fun hc => ?_) (fun hc => ?_)
    · replace h := p_t hc h
      refine lv_iconst (v := (0 : Int32)) hx hb dX4_isByte_29 (by decide) ?_
      replace h := Option.some.inj h
      subst h
      exact w_iret C hw (v := (0 : Int32)) rfl rfl dX4_isByte_30
    · replace h := p_f hc h
      refine lv_iconst (v := (1 : Int32)) hx hb dX4_isByte_25 (by decide) ?_
      refine lv_goto (tgt := 30) hx hb dX4_isByte_26 (by decide) ?_
      replace h := Option.some.inj h
      subst h
      exact w_iret C hw (v := (1 : Int32)) rfl rfl dX4_isByte_30

def f4_next_b149   (w1 : Int32) (m : St) : Option (St) :=
  some (up m 25 17 (w1 + (0 : Int32)))
def f4_next_b121   (b1 : Int32) (b2 : Int32) (m : St) : Option (St) :=
  if b1 = 0 then
    if b2 = 0 then
      if (m 25 15) ≤ (m 25 16) then
        f4_next_b149 (m 25 17) m
      else
        some (up m 25 17 ((m 25 17) + (1 : Int32)))
    else
      f4_next_b149 (m 25 17) m
  else
    f4_next_b149 (m 25 17) m
def f4_next_b108  (k70 : Int32 → Int32 → St → Option (St)) (b1 : Int32) (b2 : Int32) (m : St) : Option (St) :=
  k70 b1 b2 (up m 25 17 ((m 25 17) + (1 : Int32)))
def f4_next_b89  (k70 : Int32 → Int32 → St → Option (St)) (b1 : Int32) (b2 : Int32) (m : St) : Option (St) :=
  if b2 = 0 then
    f4_next_b121 b1 b2 m
  else
    (f4_isByte (m 25 17) (48 : Int32) (57 : Int32) m).bind fun v5 =>
    if v5 = 0 then
      f4_next_b121 b1 b2 m
    else
      f4_next_b108 k70 b1 b2 m
def f4_next_L70   : Nat → Int32 → Int32 → St → Option (St)
  | 0, _, _, _ => none
  | n + 1, b1, b2, m =>
    if b1 = 0 then
      f4_next_b89 (f4_next_L70 n) b1 b2 m
    else
      (f4_isByte (m 25 17) (97 : Int32) (122 : Int32) m).bind fun v4 =>
      if v4 = 0 then
        f4_next_b89 (f4_next_L70 n) b1 b2 m
      else
        f4_next_b108 (f4_next_L70 n) b1 b2 m
theorem f4_next_L70_0   (b1 : Int32) (b2 : Int32) (m : St) : f4_next_L70  0 b1 b2 m = none := rfl
theorem f4_next_L70_s   (n : Nat) (b1 : Int32) (b2 : Int32) (m : St) : f4_next_L70  (n + 1) b1 b2 m =
    if b1 = 0 then
      f4_next_b89 (f4_next_L70 n) b1 b2 m
    else
      (f4_isByte (m 25 17) (97 : Int32) (122 : Int32) m).bind fun v4 =>
      if v4 = 0 then
        f4_next_b89 (f4_next_L70 n) b1 b2 m
      else
        f4_next_b108 (f4_next_L70 n) b1 b2 m := rfl
def f4_next_L8   : Nat → St → Option (St)
  | 0, _ => none
  | n + 1, m =>
    (f4_isByte (m 25 16) (32 : Int32) (32 : Int32) m).bind fun v1 =>
    if v1 = 0 then
      (f4_isByte ((up m 25 17 (m 25 16)) 25 16) (97 : Int32) (122 : Int32) (up m 25 17 (m 25 16))).bind fun v2 =>
      (f4_isByte ((up m 25 17 (m 25 16)) 25 16) (48 : Int32) (57 : Int32) (up m 25 17 (m 25 16))).bind fun v3 =>
      f4_next_L70 fu v2 v3 (up m 25 17 (m 25 16))
    else
      (f4_next_L8 n) (up m 25 16 ((m 25 16) + (1 : Int32)))
theorem f4_next_L8_0    (m : St) : f4_next_L8  0 m = none := rfl
theorem f4_next_L8_s   (n : Nat)  (m : St) : f4_next_L8  (n + 1) m =
    (f4_isByte (m 25 16) (32 : Int32) (32 : Int32) m).bind fun v1 =>
    if v1 = 0 then
      (f4_isByte ((up m 25 17 (m 25 16)) 25 16) (97 : Int32) (122 : Int32) (up m 25 17 (m 25 16))).bind fun v2 =>
      (f4_isByte ((up m 25 17 (m 25 16)) 25 16) (48 : Int32) (57 : Int32) (up m 25 17 (m 25 16))).bind fun v3 =>
      f4_next_L70 fu v2 v3 (up m 25 17 (m 25 16))
    else
      (f4_next_L8 n) (up m 25 16 ((m 25 16) + (1 : Int32))) := rfl
def f4_next   (m : St) : Option (St) :=
  f4_next_L8 fu (up m 25 16 (m 25 17))
set_option maxHeartbeats 4000000 in
set_option maxRecDepth 100000 in
theorem c4_next (l : Launch) (G : GT)  (x m : St)  (r : St) (h : f4_next m = some r) : Mt l yX4_next cX4_next 3 none (rmF 2 48) G x m [.ref (gq G 25)] none x r := by
  refine Mt.of (by decide) (Nat.le_of_ble_eq_true rfl) ?_
  intro p e s mm args below meth c C ls hl hw
  have hx := C.1
  have hb := C.2.1
  have hown := C.2.2.2.2.1
  replace hl : lv_has ls 3 [(0, .ref (gq G 25))] := hl
  have B149 : ∀ (w1 : Int32) (m : St) (H : Heap) (locs : List Loc) (ls : Array Slot), lv_has ls 3 [] → Wd G s x m H locs → f4_next_b149 w1 m = some r → W p l e (rmF 2 48) s mm args below meth c H locs 0 0 (QE below G none x r args s) (F0 mm 149 ls [.int w1, .ref (gq G 25)]) := by
    intro w1 m H locs ls hl hw h
    unfold f4_next_b149 at h
    refine lv_iconst (v := (0 : Int32)) hx hb dX4_next_149 (by decide) ?_
    refine lv_iadd hx hb dX4_next_150 ?_
    refine w_put C hw (k := 17) tyX4 tyX4_ok nmX4 (wk_model G x m) rfl it_4 (by decide) fl_X4_263 rfl (ty := .int) rfl rfl rfl (Nat.le_of_ble_eq_true rfl) (ws_model_17 G x m _) dX4_next_151 (fun H locs hw => ?_)
    replace h := Option.some.inj h
    subst h
    exact w_vret C hw rfl dX4_next_154
  have B121 : ∀ (b1 : Int32) (b2 : Int32) (m : St) (H : Heap) (locs : List Loc) (ls : Array Slot), lv_has ls 3 [(0, .ref (gq G 25)), (1, .int b1), (2, .int b2)] → Wd G s x m H locs → f4_next_b121 b1 b2 m = some r → W p l e (rmF 2 48) s mm args below meth c H locs 0 0 (QE below G none x r args s) (F0 mm 121 ls []) := by
    intro b1 b2 m H locs ls hl hw h
    unfold f4_next_b121 at h
    refine lv_aload_n hx hb dX4_next_121 rfl (lv_at hl 0 rfl) ?_
    refine lv_dup hx hb dX4_next_122 rfl ?_
    refine w_get C hw (v := .int (m 25 17)) (k := 17) (wk_model G x m) rfl it_4 (by decide) fl_X4_263 rfl dX4_next_123 ?_
    refine lv_iload_n hx hb dX4_next_126 rfl (lv_at hl 1 rfl) ?_
    refine lv_if_ne (tgt := 149) hx hb dX4_next_127 (by decide) (fun hc => ?_) (fun hc => ?_)
    · replace h := p_f hc h
      exact B149 (m 25 17) m _ _ _ (lv_sub hl [] rfl) hw h
    · replace h := p_t hc h
      refine lv_iload_n hx hb dX4_next_130 rfl (lv_at hl 2 rfl) ?_
      refine lv_if_ne (tgt := 149) hx hb dX4_next_131 (by decide) (fun hc => ?_) (fun hc => ?_)
      · replace h := p_f hc h
        exact B149 (m 25 17) m _ _ _ (lv_sub hl [] rfl) hw h
      · replace h := p_t hc h
        refine lv_aload_n hx hb dX4_next_134 rfl (lv_at hl 0 rfl) ?_
        refine w_get C hw (v := .int (m 25 16)) (k := 16) (wk_model G x m) rfl it_4 (by decide) fl_X4_266 rfl dX4_next_135 ?_
        refine lv_aload_n hx hb dX4_next_138 rfl (lv_at hl 0 rfl) ?_
        refine w_get C hw (v := .int (m 25 15)) (k := 15) (wk_model G x m) rfl it_4 (by decide) fl_X4_260 rfl dX4_next_139 ?_
        refine lv_icmp_ge (tgt := 149) hx hb dX4_next_142 (by decide) (fun hc => ?_) (fun hc => ?_)
        · replace h := p_t hc h
          exact B149 (m 25 17) m _ _ _ (lv_sub hl [] rfl) hw h
        · replace h := p_f hc h
          refine lv_iconst (v := (1 : Int32)) hx hb dX4_next_145 (by decide) ?_
          refine lv_goto (tgt := 150) hx hb dX4_next_146 (by decide) ?_
          refine lv_iadd hx hb dX4_next_150 ?_
          refine w_put C hw (k := 17) tyX4 tyX4_ok nmX4 (wk_model G x m) rfl it_4 (by decide) fl_X4_263 rfl (ty := .int) rfl rfl rfl (Nat.le_of_ble_eq_true rfl) (ws_model_17 G x m _) dX4_next_151 (fun H locs hw => ?_)
          replace h := Option.some.inj h
          subst h
          exact w_vret C hw rfl dX4_next_154
  have L70 : ∀ (n70 : Nat) (b1 : Int32) (b2 : Int32) (m : St) (H : Heap) (locs : List Loc) (ls : Array Slot), lv_has ls 3 [(0, .ref (gq G 25)), (1, .int b1), (2, .int b2)] → Wd G s x m H locs → f4_next_L70 n70 b1 b2 m = some r → W p l e (rmF 2 48) s mm args below meth c H locs 0 0 (QE below G none x r args s) (F0 mm 70 ls []) := by
    intro n70
    induction n70 with
    | zero =>
      intro b1 b2 m H locs ls hl hw h
      rw [f4_next_L70_0] at h
      exact absurd h.symm (Option.some_ne_none _)
    | succ n70 ih70 =>
      have B108 : ∀ (b1 : Int32) (b2 : Int32) (m : St) (H : Heap) (locs : List Loc) (ls : Array Slot), lv_has ls 3 [(0, .ref (gq G 25)), (1, .int b1), (2, .int b2)] → Wd G s x m H locs → f4_next_b108 (f4_next_L70 n70) b1 b2 m = some r → W p l e (rmF 2 48) s mm args below meth c H locs 0 0 (QE below G none x r args s) (F0 mm 108 ls []) := by
        intro b1 b2 m H locs ls hl hw h
        unfold f4_next_b108 at h
        refine lv_aload_n hx hb dX4_next_108 rfl (lv_at hl 0 rfl) ?_
        refine lv_dup hx hb dX4_next_109 rfl ?_
        refine w_get C hw (v := .int (m 25 17)) (k := 17) (wk_model G x m) rfl it_4 (by decide) fl_X4_263 rfl dX4_next_110 ?_
        refine lv_iconst (v := (1 : Int32)) hx hb dX4_next_113 (by decide) ?_
        refine lv_iadd hx hb dX4_next_114 ?_
        refine w_put C hw (k := 17) tyX4 tyX4_ok nmX4 (wk_model G x m) rfl it_4 (by decide) fl_X4_263 rfl (ty := .int) rfl rfl rfl (Nat.le_of_ble_eq_true rfl) (ws_model_17 G x m _) dX4_next_115 (fun H locs hw => ?_)
        refine lv_goto (tgt := 70) hx hb dX4_next_118 (by decide) ?_
        exact ih70 b1 b2 (up m 25 17 ((m 25 17) + (1 : Int32))) _ _ _ (lv_sub hl [0, 1, 2] rfl) hw h
      have B89 : ∀ (b1 : Int32) (b2 : Int32) (m : St) (H : Heap) (locs : List Loc) (ls : Array Slot), lv_has ls 3 [(0, .ref (gq G 25)), (1, .int b1), (2, .int b2)] → Wd G s x m H locs → f4_next_b89 (f4_next_L70 n70) b1 b2 m = some r → W p l e (rmF 2 48) s mm args below meth c H locs 0 0 (QE below G none x r args s) (F0 mm 89 ls []) := by
        intro b1 b2 m H locs ls hl hw h
        unfold f4_next_b89 at h
        refine lv_iload_n hx hb dX4_next_89 rfl (lv_at hl 2 rfl) ?_
        refine lv_if_eq (tgt := 121) hx hb dX4_next_90 (by decide) (fun hc => ?_) (fun hc => ?_)
        · replace h := p_t hc h
          exact B121 b1 b2 m _ _ _ (lv_sub hl [0, 1, 2] rfl) hw h
        · replace h := p_f hc h
          refine lv_aload_n hx hb dX4_next_93 rfl (lv_at hl 0 rfl) ?_
          refine lv_aload_n hx hb dX4_next_94 rfl (lv_at hl 0 rfl) ?_
          refine w_get C hw (v := .int (m 25 17)) (k := 17) (wk_model G x m) rfl it_4 (by decide) fl_X4_263 rfl dX4_next_95 ?_
          refine lv_bipush (v := (48 : Int32)) hx hb dX4_next_98 (by decide) ?_
          refine lv_bipush (v := (57 : Int32)) hx hb dX4_next_100 (by decide) ?_
          obtain ⟨v5, hq, h⟩ := p_bd h
          refine w_Vi C hw (As := [.int (m 25 17), .int (48 : Int32), .int (57 : Int32)]) (rest := []) (c4_isByte l G x m (m 25 17) (48 : Int32) (57 : Int32) v5 hq) kv_X4_isByte ml_X4_269 ⟨rfl, rfl⟩ ⟨Nat.le_of_ble_eq_true rfl, Nat.le_of_ble_eq_true rfl⟩ ⟨Nat.zero_le _, Nat.zero_le _⟩ (w_recv C hw (wk_model G x m) rfl) rfl rfl (Nat.le_of_ble_eq_true rfl) (lv_sub hl [] rfl) dX4_next_102 (fun H locs hw => ?_)
          refine lv_if_eq (tgt := 121) hx hb dX4_next_105 (by decide) (fun hc => ?_) (fun hc => ?_)
          · replace h := p_t hc h
            exact B121 b1 b2 m _ _ _ (lv_sub hl [0, 1, 2] rfl) hw h
          · replace h := p_f hc h
            exact B108 b1 b2 m _ _ _ (lv_sub hl [0, 1, 2] rfl) hw h
      intro b1 b2 m H locs ls hl hw h
      rw [f4_next_L70_s] at h
      refine lv_iload_n hx hb dX4_next_70 rfl (lv_at hl 1 rfl) ?_
      refine lv_if_eq (tgt := 89) hx hb dX4_next_71 (by decide) (fun hc => ?_) (fun hc => ?_)
      · replace h := p_t hc h
        exact B89 b1 b2 m _ _ _ (lv_sub hl [0, 1, 2] rfl) hw h
      · replace h := p_f hc h
        refine lv_aload_n hx hb dX4_next_74 rfl (lv_at hl 0 rfl) ?_
        refine lv_aload_n hx hb dX4_next_75 rfl (lv_at hl 0 rfl) ?_
        refine w_get C hw (v := .int (m 25 17)) (k := 17) (wk_model G x m) rfl it_4 (by decide) fl_X4_263 rfl dX4_next_76 ?_
        refine lv_bipush (v := (97 : Int32)) hx hb dX4_next_79 (by decide) ?_
        refine lv_bipush (v := (122 : Int32)) hx hb dX4_next_81 (by decide) ?_
        obtain ⟨v4, hq, h⟩ := p_bd h
        refine w_Vi C hw (As := [.int (m 25 17), .int (97 : Int32), .int (122 : Int32)]) (rest := []) (c4_isByte l G x m (m 25 17) (97 : Int32) (122 : Int32) v4 hq) kv_X4_isByte ml_X4_269 ⟨rfl, rfl⟩ ⟨Nat.le_of_ble_eq_true rfl, Nat.le_of_ble_eq_true rfl⟩ ⟨Nat.zero_le _, Nat.zero_le _⟩ (w_recv C hw (wk_model G x m) rfl) rfl rfl (Nat.le_of_ble_eq_true rfl) (lv_sub hl [] rfl) dX4_next_83 (fun H locs hw => ?_)
        refine lv_if_ne (tgt := 108) hx hb dX4_next_86 (by decide) (fun hc => ?_) (fun hc => ?_)
        · replace h := p_f hc h
          exact B108 b1 b2 m _ _ _ (lv_sub hl [0, 1, 2] rfl) hw h
        · replace h := p_t hc h
          exact B89 b1 b2 m _ _ _ (lv_sub hl [0, 1, 2] rfl) hw h
  have L8 : ∀ (n8 : Nat)  (m : St) (H : Heap) (locs : List Loc) (ls : Array Slot), lv_has ls 3 [(0, .ref (gq G 25))] → Wd G s x m H locs → f4_next_L8 n8 m = some r → W p l e (rmF 2 48) s mm args below meth c H locs 0 0 (QE below G none x r args s) (F0 mm 8 ls []) := by
    intro n8
    induction n8 with
    | zero =>
      intro  m H locs ls hl hw h
      rw [f4_next_L8_0] at h
      exact absurd h.symm (Option.some_ne_none _)
    | succ n8 ih8 =>
      intro  m H locs ls hl hw h
      rw [f4_next_L8_s] at h
      refine lv_aload_n hx hb dX4_next_8 rfl (lv_at hl 0 rfl) ?_
      refine lv_aload_n hx hb dX4_next_9 rfl (lv_at hl 0 rfl) ?_
      refine w_get C hw (v := .int (m 25 16)) (k := 16) (wk_model G x m) rfl it_4 (by decide) fl_X4_266 rfl dX4_next_10 ?_
      refine lv_bipush (v := (32 : Int32)) hx hb dX4_next_13 (by decide) ?_
      refine lv_bipush (v := (32 : Int32)) hx hb dX4_next_15 (by decide) ?_
      obtain ⟨v1, hq, h⟩ := p_bd h
      refine w_Vi C hw (As := [.int (m 25 16), .int (32 : Int32), .int (32 : Int32)]) (rest := []) (c4_isByte l G x m (m 25 16) (32 : Int32) (32 : Int32) v1 hq) kv_X4_isByte ml_X4_269 ⟨rfl, rfl⟩ ⟨Nat.le_of_ble_eq_true rfl, Nat.le_of_ble_eq_true rfl⟩ ⟨Nat.zero_le _, Nat.zero_le _⟩ (w_recv C hw (wk_model G x m) rfl) rfl rfl (Nat.le_of_ble_eq_true rfl) (lv_sub hl [] rfl) dX4_next_17 (fun H locs hw => ?_)
      refine lv_if_eq (tgt := 36) hx hb dX4_next_20 (by decide) (fun hc => ?_) (fun hc => ?_)
      · replace h := p_t hc h
        refine lv_aload_n hx hb dX4_next_36 rfl (lv_at hl 0 rfl) ?_
        refine lv_aload_n hx hb dX4_next_37 rfl (lv_at hl 0 rfl) ?_
        refine w_get C hw (v := .int (m 25 16)) (k := 16) (wk_model G x m) rfl it_4 (by decide) fl_X4_266 rfl dX4_next_38 ?_
        refine w_put C hw (k := 17) tyX4 tyX4_ok nmX4 (wk_model G x m) rfl it_4 (by decide) fl_X4_263 rfl (ty := .int) rfl rfl rfl (Nat.le_of_ble_eq_true rfl) (ws_model_17 G x m _) dX4_next_41 (fun H locs hw => ?_)
        refine lv_aload_n hx hb dX4_next_44 rfl (lv_at hl 0 rfl) ?_
        refine lv_aload_n hx hb dX4_next_45 rfl (lv_at hl 0 rfl) ?_
        refine w_get C hw (v := .int ((up m 25 17 (m 25 16)) 25 16)) (k := 16) (wk_model G x (up m 25 17 (m 25 16))) rfl it_4 (by decide) fl_X4_266 rfl dX4_next_46 ?_
        refine lv_bipush (v := (97 : Int32)) hx hb dX4_next_49 (by decide) ?_
        refine lv_bipush (v := (122 : Int32)) hx hb dX4_next_51 (by decide) ?_
        obtain ⟨v2, hq, h⟩ := p_bd h
        refine w_Vi C hw (As := [.int ((up m 25 17 (m 25 16)) 25 16), .int (97 : Int32), .int (122 : Int32)]) (rest := []) (c4_isByte l G x (up m 25 17 (m 25 16)) ((up m 25 17 (m 25 16)) 25 16) (97 : Int32) (122 : Int32) v2 hq) kv_X4_isByte ml_X4_269 ⟨rfl, rfl⟩ ⟨Nat.le_of_ble_eq_true rfl, Nat.le_of_ble_eq_true rfl⟩ ⟨Nat.zero_le _, Nat.zero_le _⟩ (w_recv C hw (wk_model G x (up m 25 17 (m 25 16))) rfl) rfl rfl (Nat.le_of_ble_eq_true rfl) (lv_sub hl [] rfl) dX4_next_53 (fun H locs hw => ?_)
        refine lv_istore_n (lv' := [(1, .int v2), (0, .ref (gq G 25))]) hx hb dX4_next_56 rfl hl (by decide) rfl (fun ls hl => ?_)
        refine lv_aload_n hx hb dX4_next_57 rfl (lv_at hl 1 rfl) ?_
        refine lv_aload_n hx hb dX4_next_58 rfl (lv_at hl 1 rfl) ?_
        refine w_get C hw (v := .int ((up m 25 17 (m 25 16)) 25 16)) (k := 16) (wk_model G x (up m 25 17 (m 25 16))) rfl it_4 (by decide) fl_X4_266 rfl dX4_next_59 ?_
        refine lv_bipush (v := (48 : Int32)) hx hb dX4_next_62 (by decide) ?_
        refine lv_bipush (v := (57 : Int32)) hx hb dX4_next_64 (by decide) ?_
        obtain ⟨v3, hq, h⟩ := p_bd h
        refine w_Vi C hw (As := [.int ((up m 25 17 (m 25 16)) 25 16), .int (48 : Int32), .int (57 : Int32)]) (rest := []) (c4_isByte l G x (up m 25 17 (m 25 16)) ((up m 25 17 (m 25 16)) 25 16) (48 : Int32) (57 : Int32) v3 hq) kv_X4_isByte ml_X4_269 ⟨rfl, rfl⟩ ⟨Nat.le_of_ble_eq_true rfl, Nat.le_of_ble_eq_true rfl⟩ ⟨Nat.zero_le _, Nat.zero_le _⟩ (w_recv C hw (wk_model G x (up m 25 17 (m 25 16))) rfl) rfl rfl (Nat.le_of_ble_eq_true rfl) (lv_sub hl [] rfl) dX4_next_66 (fun H locs hw => ?_)
        refine lv_istore_n (lv' := [(2, .int v3), (1, .int v2), (0, .ref (gq G 25))]) hx hb dX4_next_69 rfl hl (by decide) rfl (fun ls hl => ?_)
        exact L70 fu v2 v3 (up m 25 17 (m 25 16)) _ _ _ (lv_sub hl [2, 1, 0] rfl) hw h
      · replace h := p_f hc h
        refine lv_aload_n hx hb dX4_next_23 rfl (lv_at hl 0 rfl) ?_
        refine lv_dup hx hb dX4_next_24 rfl ?_
        refine w_get C hw (v := .int (m 25 16)) (k := 16) (wk_model G x m) rfl it_4 (by decide) fl_X4_266 rfl dX4_next_25 ?_
        refine lv_iconst (v := (1 : Int32)) hx hb dX4_next_28 (by decide) ?_
        refine lv_iadd hx hb dX4_next_29 ?_
        refine w_put C hw (k := 16) tyX4 tyX4_ok nmX4 (wk_model G x m) rfl it_4 (by decide) fl_X4_266 rfl (ty := .int) rfl rfl rfl (Nat.le_of_ble_eq_true rfl) (ws_model_16 G x m _) dX4_next_30 (fun H locs hw => ?_)
        refine lv_goto (tgt := 8) hx hb dX4_next_33 (by decide) ?_
        exact ih8 (up m 25 16 ((m 25 16) + (1 : Int32))) _ _ _ (lv_sub hl [0] rfl) hw h
  unfold f4_next at h
  refine lv_aload_n hx hb dX4_next_0 rfl (lv_at hl 0 rfl) ?_
  refine lv_aload_n hx hb dX4_next_1 rfl (lv_at hl 0 rfl) ?_
  refine w_get C hw (v := .int (m 25 17)) (k := 17) (wk_model G x m) rfl it_4 (by decide) fl_X4_263 rfl dX4_next_2 ?_
  refine w_put C hw (k := 16) tyX4 tyX4_ok nmX4 (wk_model G x m) rfl it_4 (by decide) fl_X4_266 rfl (ty := .int) rfl rfl rfl (Nat.le_of_ble_eq_true rfl) (ws_model_16 G x m _) dX4_next_5 (fun H locs hw => ?_)
  exact L8 fu (up m 25 16 (m 25 17)) _ _ _ (lv_sub hl [0] rfl) hw h

def f4_isWord_b67 (i1 : Nat) (k31 : Int32 → Int32 → St → Option (Int32)) (b3 : Int32) (w0 : Int32) (m : St) : Option (Int32) :=
  k31 w0 (b3 + (1 : Int32)) m
def f4_isWord_L31 (i1 : Nat)  : Nat → Int32 → Int32 → St → Option (Int32)
  | 0, _, _, _ => none
  | n + 1, b2, b3, m =>
    if b2 = 0 then
      if b2 = 0 ∨ b2 = 1 then
        some b2
      else none
    else
      if (Int32.ofNat (sLen.getD i1 0)) ≤ b3 then
        if b2 = 0 ∨ b2 = 1 then
          some b2
        else none
      else
        if ((m 25 16) + b3) < 0 ∨ 120 ≤ ((m 25 16) + b3).toNatClampNeg then none else
        if b3 < 0 ∨ sLen.getD i1 0 ≤ b3.toNatClampNeg then none else
        if (m 31 ((m 25 16) + b3).toNatClampNeg) = (sch i1 b3) then
          f4_isWord_b67 i1 (f4_isWord_L31 i1 n) b3 (1 : Int32) m
        else
          f4_isWord_b67 i1 (f4_isWord_L31 i1 n) b3 (0 : Int32) m
theorem f4_isWord_L31_0 (i1 : Nat)  (b2 : Int32) (b3 : Int32) (m : St) : f4_isWord_L31 i1 0 b2 b3 m = none := rfl
theorem f4_isWord_L31_s (i1 : Nat)  (n : Nat) (b2 : Int32) (b3 : Int32) (m : St) : f4_isWord_L31 i1 (n + 1) b2 b3 m =
    if b2 = 0 then
      if b2 = 0 ∨ b2 = 1 then
        some b2
      else none
    else
      if (Int32.ofNat (sLen.getD i1 0)) ≤ b3 then
        if b2 = 0 ∨ b2 = 1 then
          some b2
        else none
      else
        if ((m 25 16) + b3) < 0 ∨ 120 ≤ ((m 25 16) + b3).toNatClampNeg then none else
        if b3 < 0 ∨ sLen.getD i1 0 ≤ b3.toNatClampNeg then none else
        if (m 31 ((m 25 16) + b3).toNatClampNeg) = (sch i1 b3) then
          f4_isWord_b67 i1 (f4_isWord_L31 i1 n) b3 (1 : Int32) m
        else
          f4_isWord_b67 i1 (f4_isWord_L31 i1 n) b3 (0 : Int32) m := rfl
def f4_isWord_b28 (i1 : Nat)  (w0 : Int32) (m : St) : Option (Int32) :=
  f4_isWord_L31 i1 fu w0 (0 : Int32) m
def f4_isWord_b27 (i1 : Nat)   (m : St) : Option (Int32) :=
  f4_isWord_b28 i1 (0 : Int32) m
def f4_isWord (i1 : Nat)  (m : St) : Option (Int32) :=
  if (m 25 18) = 0 then
    if ((m 25 17) - (m 25 16)) = (Int32.ofNat (sLen.getD i1 0)) then
      f4_isWord_b28 i1 (1 : Int32) m
    else
      f4_isWord_b27 i1 m
  else
    f4_isWord_b27 i1 m
set_option maxHeartbeats 4000000 in
set_option maxRecDepth 100000 in
theorem c4_isWord (l : Launch) (G : GT) (i1 : Nat) (hi1 : i1 < 18) (x m : St)  (r : Int32) (h : f4_isWord i1 m = some r) : Mt l yX4_isWord cX4_isWord 4 (some .boolean) (rmF 4 85) G x m [.ref (gq G 25), .ref (gK G i1)] (some (.int r)) x m := by
  refine Mt.of (by decide) (Nat.le_of_ble_eq_true rfl) ?_
  intro p e s mm args below meth c C ls hl hw
  have hx := C.1
  have hb := C.2.1
  have hown := C.2.2.2.2.1
  replace hl : lv_has ls 4 [(0, .ref (gq G 25)), (1, .ref (gK G i1))] := hl
  have L31 : ∀ (n31 : Nat) (b2 : Int32) (b3 : Int32) (H : Heap) (locs : List Loc) (ls : Array Slot), lv_has ls 4 [(0, .ref (gq G 25)), (1, .ref (gK G i1)), (2, .int b2), (3, .int b3)] → Wd G s x m H locs → f4_isWord_L31 i1 n31 b2 b3 m = some r → W p l e (rmF 4 85) s mm args below meth c H locs 0 0 (QE below G (some (.int r)) x m args s) (F0 mm 31 ls []) := by
    intro n31
    induction n31 with
    | zero =>
      intro b2 b3  H locs ls hl hw h
      rw [f4_isWord_L31_0] at h
      exact absurd h.symm (Option.some_ne_none _)
    | succ n31 ih31 =>
      have B67 : ∀ (b3 : Int32) (w0 : Int32) (H : Heap) (locs : List Loc) (ls : Array Slot), lv_has ls 4 [(0, .ref (gq G 25)), (1, .ref (gK G i1)), (3, .int b3)] → Wd G s x m H locs → f4_isWord_b67 i1 (f4_isWord_L31 i1 n31) b3 w0 m = some r → W p l e (rmF 4 85) s mm args below meth c H locs 0 0 (QE below G (some (.int r)) x m args s) (F0 mm 67 ls [.int w0]) := by
        intro b3 w0  H locs ls hl hw h
        unfold f4_isWord_b67 at h
        refine lv_istore_n (lv' := [(2, .int w0), (0, .ref (gq G 25)), (1, .ref (gK G i1)), (3, .int b3)]) hx hb dX4_isWord_67 rfl hl (by decide) rfl (fun ls hl => ?_)
        refine lv_iinc (v := (b3 + (1 : Int32))) (lv' := [(3, .int (b3 + (1 : Int32))), (2, .int w0), (0, .ref (gq G 25)), (1, .ref (gK G i1))]) hx hb dX4_isWord_68 hl (k := 3) rfl rfl (by decide) rfl (fun ls hl => ?_)
        refine lv_goto (tgt := 31) hx hb dX4_isWord_71 (by decide) ?_
        exact ih31 w0 (b3 + (1 : Int32)) _ _ _ (lv_sub hl [2, 3, 1, 0] rfl) hw h
      intro b2 b3  H locs ls hl hw h
      rw [f4_isWord_L31_s] at h
      refine lv_iload_n hx hb dX4_isWord_31 rfl (lv_at hl 2 rfl) ?_
      refine lv_if_eq (tgt := 74) hx hb dX4_isWord_32 (by decide) (fun hc => ?_) (fun hc => ?_)
      · replace h := p_t hc h
        refine lv_iload_n hx hb dX4_isWord_74 rfl (lv_at hl 2 rfl) ?_
        obtain ⟨hq, h⟩ := p_ck h
        replace h := Option.some.inj h
        subst h
        exact w_iret C hw (v := b2) rfl (nz_b hq) dX4_isWord_75
      · replace h := p_f hc h
        refine lv_iload_n hx hb dX4_isWord_35 rfl (lv_at hl 3 rfl) ?_
        refine lv_aload_n hx hb dX4_isWord_36 rfl (lv_at hl 1 rfl) ?_
        refine w_Vi C hw (As := []) (rest := [.int b3]) (cS_length l G i1 hi1 x m) kv_J0_length_8abf5 ml_X4_276 ⟨rfl, rfl⟩ ⟨Nat.le_of_ble_eq_true rfl, Nat.le_of_ble_eq_true rfl⟩ ⟨Nat.zero_le _, Nat.zero_le _⟩ (w_srecv C hw hi1) rfl rfl (Nat.le_of_ble_eq_true rfl) (lv_sub hl [] rfl) dX4_isWord_37 (fun H locs hw => ?_)
        refine lv_icmp_ge (tgt := 74) hx hb dX4_isWord_40 (by decide) (fun hc => ?_) (fun hc => ?_)
        · replace h := p_t hc h
          refine lv_iload_n hx hb dX4_isWord_74 rfl (lv_at hl 2 rfl) ?_
          obtain ⟨hq, h⟩ := p_ck h
          replace h := Option.some.inj h
          subst h
          exact w_iret C hw (v := b2) rfl (nz_b hq) dX4_isWord_75
        · replace h := p_f hc h
          refine lv_aload_n hx hb dX4_isWord_43 rfl (lv_at hl 0 rfl) ?_
          refine w_get C hw (v := .ref (gq G 31)) (k := 14) (wk_model G x m) rfl it_4 (by decide) fl_X4_25 rfl dX4_isWord_44 ?_
          refine lv_aload_n hx hb dX4_isWord_47 rfl (lv_at hl 0 rfl) ?_
          refine w_get C hw (v := .int (m 25 16)) (k := 16) (wk_model G x m) rfl it_4 (by decide) fl_X4_266 rfl dX4_isWord_48 ?_
          refine lv_iload_n hx hb dX4_isWord_51 rfl (lv_at hl 3 rfl) ?_
          refine lv_iadd hx hb dX4_isWord_52 ?_
          obtain ⟨hq, h⟩ := p_if h
          refine w_ald C hw (am_31 G x m).1 hq dX4_isWord_53 ?_
          refine lv_aload_n hx hb dX4_isWord_54 rfl (lv_at hl 1 rfl) ?_
          refine lv_iload_n hx hb dX4_isWord_55 rfl (lv_at hl 3 rfl) ?_
          obtain ⟨hq, h⟩ := p_if h
          refine w_Vi C hw (As := [.int b3]) (rest := [.int (m 31 ((m 25 16) + b3).toNatClampNeg)]) (cS_charAt l G i1 hi1 x m b3 hq) kv_J0_charAt_5068e ml_X4_281 ⟨rfl, rfl⟩ ⟨Nat.le_of_ble_eq_true rfl, Nat.le_of_ble_eq_true rfl⟩ ⟨Nat.zero_le _, Nat.zero_le _⟩ (w_srecv C hw hi1) rfl rfl (Nat.le_of_ble_eq_true rfl) (lv_sub hl [] rfl) dX4_isWord_56 (fun H locs hw => ?_)
          refine lv_icmp_ne (tgt := 66) hx hb dX4_isWord_59 (by decide) (fun hc => ?_) (fun hc => ?_)
          · replace h := p_f hc h
            refine lv_iconst (v := (0 : Int32)) hx hb dX4_isWord_66 (by decide) ?_
            exact B67 b3 (0 : Int32) _ _ _ (lv_sub hl [0, 1, 3] rfl) hw h
          · replace h := p_t hc h
            refine lv_iconst (v := (1 : Int32)) hx hb dX4_isWord_62 (by decide) ?_
            refine lv_goto (tgt := 67) hx hb dX4_isWord_63 (by decide) ?_
            exact B67 b3 (1 : Int32) _ _ _ (lv_sub hl [0, 1, 3] rfl) hw h
  have B28 : ∀ (w0 : Int32) (H : Heap) (locs : List Loc) (ls : Array Slot), lv_has ls 4 [(0, .ref (gq G 25)), (1, .ref (gK G i1))] → Wd G s x m H locs → f4_isWord_b28 i1 w0 m = some r → W p l e (rmF 4 85) s mm args below meth c H locs 0 0 (QE below G (some (.int r)) x m args s) (F0 mm 28 ls [.int w0]) := by
    intro w0  H locs ls hl hw h
    unfold f4_isWord_b28 at h
    refine lv_istore_n (lv' := [(2, .int w0), (0, .ref (gq G 25)), (1, .ref (gK G i1))]) hx hb dX4_isWord_28 rfl hl (by decide) rfl (fun ls hl => ?_)
    refine lv_iconst (v := (0 : Int32)) hx hb dX4_isWord_29 (by decide) ?_
    refine lv_istore_n (lv' := [(3, .int (0 : Int32)), (2, .int w0), (0, .ref (gq G 25)), (1, .ref (gK G i1))]) hx hb dX4_isWord_30 rfl hl (by decide) rfl (fun ls hl => ?_)
    exact L31 fu w0 (0 : Int32) _ _ _ (lv_sub hl [2, 3, 1, 0] rfl) hw h
  have B27 : ∀  (H : Heap) (locs : List Loc) (ls : Array Slot), lv_has ls 4 [(0, .ref (gq G 25)), (1, .ref (gK G i1))] → Wd G s x m H locs → f4_isWord_b27 i1 m = some r → W p l e (rmF 4 85) s mm args below meth c H locs 0 0 (QE below G (some (.int r)) x m args s) (F0 mm 27 ls []) := by
    intro   H locs ls hl hw h
    unfold f4_isWord_b27 at h
    refine lv_iconst (v := (0 : Int32)) hx hb dX4_isWord_27 (by decide) ?_
    exact B28 (0 : Int32) _ _ _ (lv_sub hl [0, 1] rfl) hw h
  unfold f4_isWord at h
  refine lv_aload_n hx hb dX4_isWord_0 rfl (lv_at hl 0 rfl) ?_
  refine w_get C hw (v := .int (m 25 18)) (k := 18) (wk_model G x m) rfl it_4 (by decide) fl_X4_272 rfl dX4_isWord_1 ?_
  refine lv_if_ne (tgt := 27) hx hb dX4_isWord_4 (by decide) (fun hc => ?_) (fun hc => ?_)
  · replace h := p_f hc h
    exact B27  _ _ _ (lv_sub hl [0, 1] rfl) hw h
  · replace h := p_t hc h
    refine lv_aload_n hx hb dX4_isWord_7 rfl (lv_at hl 0 rfl) ?_
    refine w_get C hw (v := .int (m 25 17)) (k := 17) (wk_model G x m) rfl it_4 (by decide) fl_X4_263 rfl dX4_isWord_8 ?_
    refine lv_aload_n hx hb dX4_isWord_11 rfl (lv_at hl 0 rfl) ?_
    refine w_get C hw (v := .int (m 25 16)) (k := 16) (wk_model G x m) rfl it_4 (by decide) fl_X4_266 rfl dX4_isWord_12 ?_
    refine lv_isub hx hb dX4_isWord_15 ?_
    refine lv_aload_n hx hb dX4_isWord_16 rfl (lv_at hl 1 rfl) ?_
    refine w_Vi C hw (As := []) (rest := [.int ((m 25 17) - (m 25 16))]) (cS_length l G i1 hi1 x m) kv_J0_length_8abf5 ml_X4_276 ⟨rfl, rfl⟩ ⟨Nat.le_of_ble_eq_true rfl, Nat.le_of_ble_eq_true rfl⟩ ⟨Nat.zero_le _, Nat.zero_le _⟩ (w_srecv C hw hi1) rfl rfl (Nat.le_of_ble_eq_true rfl) (lv_sub hl [] rfl) dX4_isWord_17 (fun H locs hw => ?_)
    refine lv_icmp_ne (tgt := 27) hx hb dX4_isWord_20 (by decide) (fun hc => ?_) (fun hc => ?_)
    · replace h := p_f hc h
      exact B27  _ _ _ (lv_sub hl [0, 1] rfl) hw h
    · replace h := p_t hc h
      refine lv_iconst (v := (1 : Int32)) hx hb dX4_isWord_23 (by decide) ?_
      refine lv_goto (tgt := 28) hx hb dX4_isWord_24 (by decide) ?_
      exact B28 (1 : Int32) _ _ _ (lv_sub hl [0, 1] rfl) hw h

def f4_must_b17   (w1 : Int32) (m : St) : Option (St) :=
  if w1 = 0 ∨ w1 = 1 then
    if ((up m 25 18 w1) 25 18) = 0 then
      (f4_next (up m 25 18 w1)).bind fun z1 =>
      some z1
    else
      some (up m 25 18 w1)
  else none
def f4_must_b12    (m : St) : Option (St) :=
  f4_must_b17 (1 : Int32) m
def f4_must  (a1 : Int32) (m : St) : Option (St) :=
  if (m 25 18) = 0 then
    if a1 = 0 then
      f4_must_b12 m
    else
      f4_must_b17 (0 : Int32) m
  else
    f4_must_b12 m
set_option maxHeartbeats 4000000 in
set_option maxRecDepth 100000 in
theorem c4_must (l : Launch) (G : GT)  (x m : St) (a1 : Int32) (r : St) (h : f4_must a1 m = some r) : Mt l yX4_must cX4_must 2 none (rmF 3 70) G x m [.ref (gq G 25), .int a1] none x r := by
  refine Mt.of (by decide) (Nat.le_of_ble_eq_true rfl) ?_
  intro p e s mm args below meth c C ls hl hw
  have hx := C.1
  have hb := C.2.1
  have hown := C.2.2.2.2.1
  replace hl : lv_has ls 2 [(0, .ref (gq G 25)), (1, .int a1)] := hl
  have B17 : ∀ (w1 : Int32) (m : St) (H : Heap) (locs : List Loc) (ls : Array Slot), lv_has ls 2 [(0, .ref (gq G 25))] → Wd G s x m H locs → f4_must_b17 w1 m = some r → W p l e (rmF 3 70) s mm args below meth c H locs 0 0 (QE below G none x r args s) (F0 mm 17 ls [.int w1, .ref (gq G 25)]) := by
    intro w1 m H locs ls hl hw h
    unfold f4_must_b17 at h
    obtain ⟨hq, h⟩ := p_ck h
    refine w_put C hw (k := 18) tyX4 tyX4_ok nmX4 (wk_model G x m) rfl it_4 (by decide) fl_X4_272 rfl (ty := .boolean) rfl (nz_b hq) (ft_b hq) (Nat.le_of_ble_eq_true rfl) (ws_model_18 G x m _) dX4_must_17 (fun H locs hw => ?_)
    refine lv_aload_n hx hb dX4_must_20 rfl (lv_at hl 0 rfl) ?_
    refine w_get C hw (v := .int ((up m 25 18 w1) 25 18)) (k := 18) (wk_model G x (up m 25 18 w1)) rfl it_4 (by decide) fl_X4_272 rfl dX4_must_21 ?_
    refine lv_if_ne (tgt := 31) hx hb dX4_must_24 (by decide) (fun hc => ?_) (fun hc => ?_)
    · replace h := p_f hc h
      replace h := Option.some.inj h
      subst h
      exact w_vret C hw rfl dX4_must_31
    · replace h := p_t hc h
      refine lv_aload_n hx hb dX4_must_27 rfl (lv_at hl 0 rfl) ?_
      obtain ⟨z1, hq, h⟩ := p_bd h
      refine w_Vv C hw (As := []) (rest := []) (c4_next l G x (up m 25 18 w1) z1 hq) kv_X4_next ml_X4_285 ⟨rfl, rfl⟩ ⟨Nat.le_of_ble_eq_true rfl, Nat.le_of_ble_eq_true rfl⟩ ⟨Nat.zero_le _, Nat.zero_le _⟩ (w_recv C hw (wk_model G x (up m 25 18 w1)) rfl) rfl rfl (Nat.le_of_ble_eq_true rfl) (lv_sub hl [] rfl) dX4_must_28 (fun H locs hw => ?_)
      replace h := Option.some.inj h
      subst h
      exact w_vret C hw rfl dX4_must_31
  have B12 : ∀  (m : St) (H : Heap) (locs : List Loc) (ls : Array Slot), lv_has ls 2 [(0, .ref (gq G 25))] → Wd G s x m H locs → f4_must_b12 m = some r → W p l e (rmF 3 70) s mm args below meth c H locs 0 0 (QE below G none x r args s) (F0 mm 12 ls [.ref (gq G 25)]) := by
    intro  m H locs ls hl hw h
    unfold f4_must_b12 at h
    refine lv_iconst (v := (1 : Int32)) hx hb dX4_must_12 (by decide) ?_
    refine lv_goto (tgt := 17) hx hb dX4_must_13 (by decide) ?_
    exact B17 (1 : Int32) m _ _ _ (lv_sub hl [0] rfl) hw h
  unfold f4_must at h
  refine lv_aload_n hx hb dX4_must_0 rfl (lv_at hl 0 rfl) ?_
  refine lv_aload_n hx hb dX4_must_1 rfl (lv_at hl 0 rfl) ?_
  refine w_get C hw (v := .int (m 25 18)) (k := 18) (wk_model G x m) rfl it_4 (by decide) fl_X4_272 rfl dX4_must_2 ?_
  refine lv_if_ne (tgt := 12) hx hb dX4_must_5 (by decide) (fun hc => ?_) (fun hc => ?_)
  · replace h := p_f hc h
    exact B12 m _ _ _ (lv_sub hl [0] rfl) hw h
  · replace h := p_t hc h
    refine lv_iload_n hx hb dX4_must_8 rfl (lv_at hl 1 rfl) ?_
    refine lv_if_ne (tgt := 16) hx hb dX4_must_9 (by decide) (fun hc => ?_) (fun hc => ?_)
    · replace h := p_f hc h
      refine lv_iconst (v := (0 : Int32)) hx hb dX4_must_16 (by decide) ?_
      exact B17 (0 : Int32) m _ _ _ (lv_sub hl [0] rfl) hw h
    · replace h := p_t hc h
      exact B12 m _ _ _ (lv_sub hl [0] rfl) hw h

def f4_takes (i1 : Nat)  (m : St) : Option (Int32 × St) :=
  (f4_isWord i1 m).bind fun v1 =>
  if v1 = 0 then
    if v1 = 0 ∨ v1 = 1 then
      some (v1, m)
    else none
  else
    (f4_next m).bind fun z2 =>
    if v1 = 0 ∨ v1 = 1 then
      some (v1, z2)
    else none
set_option maxHeartbeats 4000000 in
set_option maxRecDepth 100000 in
theorem c4_takes (l : Launch) (G : GT) (i1 : Nat) (hi1 : i1 < 18) (x m : St)  (r : Int32 × St) (h : f4_takes i1 m = some r) : Mt l yX4_takes cX4_takes 3 (some .boolean) (rmF 5 108) G x m [.ref (gq G 25), .ref (gK G i1)] (some (.int r.1)) x r.2 := by
  refine Mt.of (by decide) (Nat.le_of_ble_eq_true rfl) ?_
  intro p e s mm args below meth c C ls hl hw
  have hx := C.1
  have hb := C.2.1
  have hown := C.2.2.2.2.1
  replace hl : lv_has ls 3 [(0, .ref (gq G 25)), (1, .ref (gK G i1))] := hl
  unfold f4_takes at h
  refine lv_aload_n hx hb dX4_takes_0 rfl (lv_at hl 0 rfl) ?_
  refine lv_aload_n hx hb dX4_takes_1 rfl (lv_at hl 1 rfl) ?_
  obtain ⟨v1, hq, h⟩ := p_bd h
  refine w_Vi C hw (As := [.ref (gK G i1)]) (rest := []) (c4_isWord l G i1 hi1 x m v1 hq) kv_X4_isWord ml_X4_288 ⟨rfl, rfl⟩ ⟨Nat.le_of_ble_eq_true rfl, Nat.le_of_ble_eq_true rfl⟩ ⟨Nat.zero_le _, Nat.zero_le _⟩ (w_recv C hw (wk_model G x m) rfl) rfl rfl (Nat.le_of_ble_eq_true rfl) (lv_sub hl [] rfl) dX4_takes_2 (fun H locs hw => ?_)
  refine lv_istore_n (lv' := [(2, .int v1), (0, .ref (gq G 25)), (1, .ref (gK G i1))]) hx hb dX4_takes_5 rfl hl (by decide) rfl (fun ls hl => ?_)
  refine lv_iload_n hx hb dX4_takes_6 rfl (lv_at hl 0 rfl) ?_
  refine lv_if_eq (tgt := 14) hx hb dX4_takes_7 (by decide) (fun hc => ?_) (fun hc => ?_)
  · replace h := p_t hc h
    refine lv_iload_n hx hb dX4_takes_14 rfl (lv_at hl 0 rfl) ?_
    obtain ⟨hq, h⟩ := p_ck h
    replace h := Option.some.inj h
    subst h
    exact w_iret C hw (v := v1) rfl (nz_b hq) dX4_takes_15
  · replace h := p_f hc h
    refine lv_aload_n hx hb dX4_takes_10 rfl (lv_at hl 1 rfl) ?_
    obtain ⟨z2, hq, h⟩ := p_bd h
    refine w_Vv C hw (As := []) (rest := []) (c4_next l G x m z2 hq) kv_X4_next ml_X4_285 ⟨rfl, rfl⟩ ⟨Nat.le_of_ble_eq_true rfl, Nat.le_of_ble_eq_true rfl⟩ ⟨Nat.zero_le _, Nat.zero_le _⟩ (w_recv C hw (wk_model G x m) rfl) rfl rfl (Nat.le_of_ble_eq_true rfl) (lv_sub hl [] rfl) dX4_takes_11 (fun H locs hw => ?_)
    refine lv_iload_n hx hb dX4_takes_14 rfl (lv_at hl 0 rfl) ?_
    obtain ⟨hq, h⟩ := p_ck h
    replace h := Option.some.inj h
    subst h
    exact w_iret C hw (v := v1) rfl (nz_b hq) dX4_takes_15

def f4_numberRead_b72   (b1 : Int32) (b2 : Int32) (b3 : Int32) (m : St) : Option (Int32 × St) :=
  (f4_must (f4_in (b3.toInt64) (b1.toInt64) (b2.toInt64)) m).bind fun z2 =>
  some (b3, z2)
def f4_numberRead_b65  (k27 : Int32 → Int32 → Int32 → Int32 → St → Option (Int32 × St)) (b1 : Int32) (b2 : Int32) (b4 : Int32) (w0 : Int32) (m : St) : Option (Int32 × St) :=
  k27 b1 b2 w0 (b4 + (1 : Int32)) m
def f4_numberRead_L27   : Nat → Int32 → Int32 → Int32 → Int32 → St → Option (Int32 × St)
  | 0, _, _, _, _, _ => none
  | n + 1, b1, b2, b3, b4, m =>
    if (m 25 17) ≤ b4 then
      f4_numberRead_b72 b1 b2 b3 m
    else
      if b3 < 0 then
        f4_numberRead_b72 b1 b2 b3 m
      else
        if b3 ≤ (99999 : Int32) then
          if b4 < 0 ∨ 120 ≤ b4.toNatClampNeg then none else
          f4_numberRead_b65 (f4_numberRead_L27 n) b1 b2 b4 ((((10 : Int32) * b3) + (m 31 b4.toNatClampNeg)) - (48 : Int32)) m
        else
          f4_numberRead_b65 (f4_numberRead_L27 n) b1 b2 b4 b3 m
theorem f4_numberRead_L27_0   (b1 : Int32) (b2 : Int32) (b3 : Int32) (b4 : Int32) (m : St) : f4_numberRead_L27  0 b1 b2 b3 b4 m = none := rfl
theorem f4_numberRead_L27_s   (n : Nat) (b1 : Int32) (b2 : Int32) (b3 : Int32) (b4 : Int32) (m : St) : f4_numberRead_L27  (n + 1) b1 b2 b3 b4 m =
    if (m 25 17) ≤ b4 then
      f4_numberRead_b72 b1 b2 b3 m
    else
      if b3 < 0 then
        f4_numberRead_b72 b1 b2 b3 m
      else
        if b3 ≤ (99999 : Int32) then
          if b4 < 0 ∨ 120 ≤ b4.toNatClampNeg then none else
          f4_numberRead_b65 (f4_numberRead_L27 n) b1 b2 b4 ((((10 : Int32) * b3) + (m 31 b4.toNatClampNeg)) - (48 : Int32)) m
        else
          f4_numberRead_b65 (f4_numberRead_L27 n) b1 b2 b4 b3 m := rfl
def f4_numberRead_b20   (b1 : Int32) (b2 : Int32) (w0 : Int32) (m : St) : Option (Int32 × St) :=
  f4_numberRead_L27 fu b1 b2 w0 (m 25 16) m
def f4_numberRead  (a1 : Int32) (a2 : Int32) (m : St) : Option (Int32 × St) :=
  (f4_isByte (m 25 16) (48 : Int32) (57 : Int32) m).bind fun v1 =>
  if v1 = 0 then
    f4_numberRead_b20 a1 a2 (-1 : Int32) m
  else
    f4_numberRead_b20 a1 a2 (0 : Int32) m
set_option maxHeartbeats 4000000 in
set_option maxRecDepth 100000 in
theorem c4_numberRead (l : Launch) (G : GT)  (x m : St) (a1 : Int32) (a2 : Int32) (r : Int32 × St) (h : f4_numberRead a1 a2 m = some r) : Mt l yX4_numberRead cX4_numberRead 5 (some .int) (rmF 4 91) G x m [.ref (gq G 25), .int a1, .int a2] (some (.int r.1)) x r.2 := by
  refine Mt.of (by decide) (Nat.le_of_ble_eq_true rfl) ?_
  intro p e s mm args below meth c C ls hl hw
  have hx := C.1
  have hb := C.2.1
  have hown := C.2.2.2.2.1
  replace hl : lv_has ls 5 [(0, .ref (gq G 25)), (1, .int a1), (2, .int a2)] := hl
  have B72 : ∀ (b1 : Int32) (b2 : Int32) (b3 : Int32) (m : St) (H : Heap) (locs : List Loc) (ls : Array Slot), lv_has ls 5 [(0, .ref (gq G 25)), (1, .int b1), (2, .int b2), (3, .int b3)] → Wd G s x m H locs → f4_numberRead_b72 b1 b2 b3 m = some r → W p l e (rmF 4 91) s mm args below meth c H locs 0 0 (QE below G (some (.int r.1)) x r.2 args s) (F0 mm 72 ls []) := by
    intro b1 b2 b3 m H locs ls hl hw h
    unfold f4_numberRead_b72 at h
    refine lv_aload_n hx hb dX4_numberRead_72 rfl (lv_at hl 0 rfl) ?_
    refine lv_iload_n hx hb dX4_numberRead_73 rfl (lv_at hl 3 rfl) ?_
    refine lv_i2l hx hb dX4_numberRead_74 rfl ?_
    refine lv_iload_n hx hb dX4_numberRead_75 rfl (lv_at hl 1 rfl) ?_
    refine lv_i2l hx hb dX4_numberRead_76 rfl ?_
    refine lv_iload_n hx hb dX4_numberRead_77 rfl (lv_at hl 2 rfl) ?_
    refine lv_i2l hx hb dX4_numberRead_78 rfl ?_
    refine w_Si C hw (As := [.long (b3.toInt64), .long (b1.toInt64), .long (b2.toInt64)]) (rest := [.ref (gq G 25)]) (c4_in l G x m (b3.toInt64) (b1.toInt64) (b2.toInt64) _ rfl) ks_X4_in ml_X4_57 ⟨rfl, rfl⟩ ⟨Nat.le_of_ble_eq_true rfl, Nat.le_of_ble_eq_true rfl⟩ ⟨Nat.zero_le _, Nat.zero_le _⟩ rfl rfl (Nat.le_of_ble_eq_true rfl) (lv_sub hl [] rfl) dX4_numberRead_79 (fun H locs hw => ?_)
    obtain ⟨z2, hq, h⟩ := p_bd h
    refine w_Vv C hw (As := [.int (f4_in (b3.toInt64) (b1.toInt64) (b2.toInt64))]) (rest := []) (c4_must l G x m (f4_in (b3.toInt64) (b1.toInt64) (b2.toInt64)) z2 hq) kv_X4_must ml_X4_292 ⟨rfl, rfl⟩ ⟨Nat.le_of_ble_eq_true rfl, Nat.le_of_ble_eq_true rfl⟩ ⟨Nat.zero_le _, Nat.zero_le _⟩ (w_recv C hw (wk_model G x m) rfl) rfl rfl (Nat.le_of_ble_eq_true rfl) (lv_sub hl [] rfl) dX4_numberRead_82 (fun H locs hw => ?_)
    refine lv_iload_n hx hb dX4_numberRead_85 rfl (lv_at hl 3 rfl) ?_
    replace h := Option.some.inj h
    subst h
    exact w_iret C hw (v := b3) rfl rfl dX4_numberRead_86
  have L27 : ∀ (n27 : Nat) (b1 : Int32) (b2 : Int32) (b3 : Int32) (b4 : Int32) (m : St) (H : Heap) (locs : List Loc) (ls : Array Slot), lv_has ls 5 [(0, .ref (gq G 25)), (1, .int b1), (2, .int b2), (3, .int b3), (4, .int b4)] → Wd G s x m H locs → f4_numberRead_L27 n27 b1 b2 b3 b4 m = some r → W p l e (rmF 4 91) s mm args below meth c H locs 0 0 (QE below G (some (.int r.1)) x r.2 args s) (F0 mm 27 ls []) := by
    intro n27
    induction n27 with
    | zero =>
      intro b1 b2 b3 b4 m H locs ls hl hw h
      rw [f4_numberRead_L27_0] at h
      exact absurd h.symm (Option.some_ne_none _)
    | succ n27 ih27 =>
      have B65 : ∀ (b1 : Int32) (b2 : Int32) (b4 : Int32) (w0 : Int32) (m : St) (H : Heap) (locs : List Loc) (ls : Array Slot), lv_has ls 5 [(0, .ref (gq G 25)), (1, .int b1), (2, .int b2), (4, .int b4)] → Wd G s x m H locs → f4_numberRead_b65 (f4_numberRead_L27 n27) b1 b2 b4 w0 m = some r → W p l e (rmF 4 91) s mm args below meth c H locs 0 0 (QE below G (some (.int r.1)) x r.2 args s) (F0 mm 65 ls [.int w0]) := by
        intro b1 b2 b4 w0 m H locs ls hl hw h
        unfold f4_numberRead_b65 at h
        refine lv_istore_n (lv' := [(3, .int w0), (0, .ref (gq G 25)), (1, .int b1), (2, .int b2), (4, .int b4)]) hx hb dX4_numberRead_65 rfl hl (by decide) rfl (fun ls hl => ?_)
        refine lv_iinc (v := (b4 + (1 : Int32))) (lv' := [(4, .int (b4 + (1 : Int32))), (3, .int w0), (0, .ref (gq G 25)), (1, .int b1), (2, .int b2)]) hx hb dX4_numberRead_66 hl (k := 4) rfl rfl (by decide) rfl (fun ls hl => ?_)
        refine lv_goto (tgt := 27) hx hb dX4_numberRead_69 (by decide) ?_
        exact ih27 b1 b2 w0 (b4 + (1 : Int32)) m _ _ _ (lv_sub hl [2, 3, 4, 1, 0] rfl) hw h
      intro b1 b2 b3 b4 m H locs ls hl hw h
      rw [f4_numberRead_L27_s] at h
      refine lv_iload hx hb dX4_numberRead_27 (lv_at hl 4 rfl) ?_
      refine lv_aload_n hx hb dX4_numberRead_29 rfl (lv_at hl 0 rfl) ?_
      refine w_get C hw (v := .int (m 25 17)) (k := 17) (wk_model G x m) rfl it_4 (by decide) fl_X4_263 rfl dX4_numberRead_30 ?_
      refine lv_icmp_ge (tgt := 72) hx hb dX4_numberRead_33 (by decide) (fun hc => ?_) (fun hc => ?_)
      · replace h := p_t hc h
        exact B72 b1 b2 b3 m _ _ _ (lv_sub hl [0, 1, 2, 3] rfl) hw h
      · replace h := p_f hc h
        refine lv_iload_n hx hb dX4_numberRead_36 rfl (lv_at hl 3 rfl) ?_
        refine lv_if_lt (tgt := 72) hx hb dX4_numberRead_37 (by decide) (fun hc => ?_) (fun hc => ?_)
        · replace h := p_t hc h
          exact B72 b1 b2 b3 m _ _ _ (lv_sub hl [0, 1, 2, 3] rfl) hw h
        · replace h := p_f hc h
          refine lv_iload_n hx hb dX4_numberRead_40 rfl (lv_at hl 3 rfl) ?_
          refine lv_ldc hx hb hown (C.w kc_X4_151) dX4_numberRead_41 ?_
          refine lv_icmp_le (tgt := 50) hx hb dX4_numberRead_43 (by decide) (fun hc => ?_) (fun hc => ?_)
          · replace h := p_t hc h
            refine lv_bipush (v := (10 : Int32)) hx hb dX4_numberRead_50 (by decide) ?_
            refine lv_iload_n hx hb dX4_numberRead_52 rfl (lv_at hl 3 rfl) ?_
            refine lv_imul hx hb dX4_numberRead_53 ?_
            refine lv_aload_n hx hb dX4_numberRead_54 rfl (lv_at hl 0 rfl) ?_
            refine w_get C hw (v := .ref (gq G 31)) (k := 14) (wk_model G x m) rfl it_4 (by decide) fl_X4_25 rfl dX4_numberRead_55 ?_
            refine lv_iload hx hb dX4_numberRead_58 (lv_at hl 4 rfl) ?_
            obtain ⟨hq, h⟩ := p_if h
            refine w_ald C hw (am_31 G x m).1 hq dX4_numberRead_60 ?_
            refine lv_iadd hx hb dX4_numberRead_61 ?_
            refine lv_bipush (v := (48 : Int32)) hx hb dX4_numberRead_62 (by decide) ?_
            refine lv_isub hx hb dX4_numberRead_64 ?_
            exact B65 b1 b2 b4 ((((10 : Int32) * b3) + (m 31 b4.toNatClampNeg)) - (48 : Int32)) m _ _ _ (lv_sub hl [0, 1, 2, 4] rfl) hw h
          · replace h := p_f hc h
            refine lv_iload_n hx hb dX4_numberRead_46 rfl (lv_at hl 3 rfl) ?_
            refine lv_goto (tgt := 65) hx hb dX4_numberRead_47 (by decide) ?_
            exact B65 b1 b2 b4 b3 m _ _ _ (lv_sub hl [0, 1, 2, 4] rfl) hw h
  have B20 : ∀ (b1 : Int32) (b2 : Int32) (w0 : Int32) (m : St) (H : Heap) (locs : List Loc) (ls : Array Slot), lv_has ls 5 [(0, .ref (gq G 25)), (1, .int b1), (2, .int b2)] → Wd G s x m H locs → f4_numberRead_b20 b1 b2 w0 m = some r → W p l e (rmF 4 91) s mm args below meth c H locs 0 0 (QE below G (some (.int r.1)) x r.2 args s) (F0 mm 20 ls [.int w0]) := by
    intro b1 b2 w0 m H locs ls hl hw h
    unfold f4_numberRead_b20 at h
    refine lv_istore_n (lv' := [(3, .int w0), (0, .ref (gq G 25)), (1, .int b1), (2, .int b2)]) hx hb dX4_numberRead_20 rfl hl (by decide) rfl (fun ls hl => ?_)
    refine lv_aload_n hx hb dX4_numberRead_21 rfl (lv_at hl 1 rfl) ?_
    refine w_get C hw (v := .int (m 25 16)) (k := 16) (wk_model G x m) rfl it_4 (by decide) fl_X4_266 rfl dX4_numberRead_22 ?_
    refine lv_istore (lv' := [(4, .int (m 25 16)), (3, .int w0), (0, .ref (gq G 25)), (1, .int b1), (2, .int b2)]) hx hb dX4_numberRead_25 hl (by decide) rfl (fun ls hl => ?_)
    exact L27 fu b1 b2 w0 (m 25 16) m _ _ _ (lv_sub hl [2, 3, 4, 1, 0] rfl) hw h
  unfold f4_numberRead at h
  refine lv_aload_n hx hb dX4_numberRead_0 rfl (lv_at hl 0 rfl) ?_
  refine lv_aload_n hx hb dX4_numberRead_1 rfl (lv_at hl 0 rfl) ?_
  refine w_get C hw (v := .int (m 25 16)) (k := 16) (wk_model G x m) rfl it_4 (by decide) fl_X4_266 rfl dX4_numberRead_2 ?_
  refine lv_bipush (v := (48 : Int32)) hx hb dX4_numberRead_5 (by decide) ?_
  refine lv_bipush (v := (57 : Int32)) hx hb dX4_numberRead_7 (by decide) ?_
  obtain ⟨v1, hq, h⟩ := p_bd h
  refine w_Vi C hw (As := [.int (m 25 16), .int (48 : Int32), .int (57 : Int32)]) (rest := []) (c4_isByte l G x m (m 25 16) (48 : Int32) (57 : Int32) v1 hq) kv_X4_isByte ml_X4_269 ⟨rfl, rfl⟩ ⟨Nat.le_of_ble_eq_true rfl, Nat.le_of_ble_eq_true rfl⟩ ⟨Nat.zero_le _, Nat.zero_le _⟩ (w_recv C hw (wk_model G x m) rfl) rfl rfl (Nat.le_of_ble_eq_true rfl) (lv_sub hl [] rfl) dX4_numberRead_9 (fun H locs hw => ?_)
  refine lv_if_eq (tgt := 19) hx hb dX4_numberRead_12 (by decide) (fun hc => ?_) (fun hc => ?_)
  · replace h := p_t hc h
    refine lv_iconst (v := (-1 : Int32)) hx hb dX4_numberRead_19 (by decide) ?_
    exact B20 a1 a2 (-1 : Int32) m _ _ _ (lv_sub hl [0, 1, 2] rfl) hw h
  · replace h := p_f hc h
    refine lv_iconst (v := (0 : Int32)) hx hb dX4_numberRead_15 (by decide) ?_
    refine lv_goto (tgt := 20) hx hb dX4_numberRead_16 (by decide) ?_
    exact B20 a1 a2 (0 : Int32) m _ _ _ (lv_sub hl [0, 1, 2] rfl) hw h

def f4_kindHere_b87   (b1 : Int32) (w0 : Int32) (m : St) : Option (Int32) :=
  if b1 < 0 then
    if w0 < 0 then
      (f4_isWord 6 m).bind fun v7 =>
      if v7 = 0 then
        some (-1 : Int32)
      else
        some (6 : Int32)
    else
      some w0
  else
    some b1
def f4_kindHere_b43   (w0 : Int32) (m : St) : Option (Int32) :=
  (f4_isWord 3 m).bind fun v4 =>
  if v4 = 0 then
    (f4_isWord 4 m).bind fun v5 =>
    if v5 = 0 then
      (f4_isWord 5 m).bind fun v6 =>
      if v6 = 0 then
        f4_kindHere_b87 w0 (-1 : Int32) m
      else
        f4_kindHere_b87 w0 (5 : Int32) m
    else
      f4_kindHere_b87 w0 (4 : Int32) m
  else
    f4_kindHere_b87 w0 (3 : Int32) m
def f4_kindHere   (m : St) : Option (Int32) :=
  (f4_isWord 0 m).bind fun v1 =>
  if v1 = 0 then
    (f4_isWord 1 m).bind fun v2 =>
    if v2 = 0 then
      (f4_isWord 2 m).bind fun v3 =>
      if v3 = 0 then
        f4_kindHere_b43 (-1 : Int32) m
      else
        f4_kindHere_b43 (2 : Int32) m
    else
      f4_kindHere_b43 (1 : Int32) m
  else
    f4_kindHere_b43 (0 : Int32) m
set_option maxHeartbeats 4000000 in
set_option maxRecDepth 100000 in
theorem c4_kindHere (l : Launch) (G : GT)  (x m : St)  (r : Int32) (h : f4_kindHere m = some r) : Mt l yX4_kindHere cX4_kindHere 3 (some .int) (rmF 5 108) G x m [.ref (gq G 25)] (some (.int r)) x m := by
  refine Mt.of (by decide) (Nat.le_of_ble_eq_true rfl) ?_
  intro p e s mm args below meth c C ls hl hw
  have hx := C.1
  have hb := C.2.1
  have hown := C.2.2.2.2.1
  replace hl : lv_has ls 3 [(0, .ref (gq G 25))] := hl
  have B87 : ∀ (b1 : Int32) (w0 : Int32) (H : Heap) (locs : List Loc) (ls : Array Slot), lv_has ls 3 [(0, .ref (gq G 25)), (1, .int b1)] → Wd G s x m H locs → f4_kindHere_b87 b1 w0 m = some r → W p l e (rmF 5 108) s mm args below meth c H locs 0 0 (QE below G (some (.int r)) x m args s) (F0 mm 87 ls [.int w0]) := by
    intro b1 w0  H locs ls hl hw h
    unfold f4_kindHere_b87 at h
    refine lv_istore_n (lv' := [(2, .int w0), (0, .ref (gq G 25)), (1, .int b1)]) hx hb dX4_kindHere_87 rfl hl (by decide) rfl (fun ls hl => ?_)
    refine lv_iload_n hx hb dX4_kindHere_88 rfl (lv_at hl 2 rfl) ?_
    refine lv_if_lt (tgt := 96) hx hb dX4_kindHere_89 (by decide) (fun hc => ?_) (fun hc => ?_)
    · replace h := p_t hc h
      refine lv_iload_n hx hb dX4_kindHere_96 rfl (lv_at hl 0 rfl) ?_
      refine lv_if_lt (tgt := 104) hx hb dX4_kindHere_97 (by decide) (fun hc => ?_) (fun hc => ?_)
      · replace h := p_t hc h
        refine lv_aload_n hx hb dX4_kindHere_104 rfl (lv_at hl 1 rfl) ?_
        refine w_ldcSw C (i := 6) (List.mem_of_getElem? (i := 23) rfl) dX4_kindHere_105 ?_
        obtain ⟨v7, hq, h⟩ := p_bd h
        refine w_Vi C hw (As := [.ref (gK G 6)]) (rest := []) (c4_isWord l G 6 (by decide) x m v7 hq) kv_X4_isWord ml_X4_288 ⟨rfl, rfl⟩ ⟨Nat.le_of_ble_eq_true rfl, Nat.le_of_ble_eq_true rfl⟩ ⟨Nat.zero_le _, Nat.zero_le _⟩ (w_recv C hw (wk_model G x m) rfl) rfl rfl (Nat.le_of_ble_eq_true rfl) (lv_sub hl [] rfl) dX4_kindHere_108 (fun H locs hw => ?_)
        refine lv_if_eq (tgt := 119) hx hb dX4_kindHere_111 (by decide) (fun hc => ?_) (fun hc => ?_)
        · replace h := p_t hc h
          refine lv_iconst (v := (-1 : Int32)) hx hb dX4_kindHere_119 (by decide) ?_
          replace h := Option.some.inj h
          subst h
          exact w_iret C hw (v := (-1 : Int32)) rfl rfl dX4_kindHere_120
        · replace h := p_f hc h
          refine lv_bipush (v := (6 : Int32)) hx hb dX4_kindHere_114 (by decide) ?_
          refine lv_goto (tgt := 120) hx hb dX4_kindHere_116 (by decide) ?_
          replace h := Option.some.inj h
          subst h
          exact w_iret C hw (v := (6 : Int32)) rfl rfl dX4_kindHere_120
      · replace h := p_f hc h
        refine lv_iload_n hx hb dX4_kindHere_100 rfl (lv_at hl 0 rfl) ?_
        refine lv_goto (tgt := 120) hx hb dX4_kindHere_101 (by decide) ?_
        replace h := Option.some.inj h
        subst h
        exact w_iret C hw (v := w0) rfl rfl dX4_kindHere_120
    · replace h := p_f hc h
      refine lv_iload_n hx hb dX4_kindHere_92 rfl (lv_at hl 2 rfl) ?_
      refine lv_goto (tgt := 120) hx hb dX4_kindHere_93 (by decide) ?_
      replace h := Option.some.inj h
      subst h
      exact w_iret C hw (v := b1) rfl rfl dX4_kindHere_120
  have B43 : ∀ (w0 : Int32) (H : Heap) (locs : List Loc) (ls : Array Slot), lv_has ls 3 [(0, .ref (gq G 25))] → Wd G s x m H locs → f4_kindHere_b43 w0 m = some r → W p l e (rmF 5 108) s mm args below meth c H locs 0 0 (QE below G (some (.int r)) x m args s) (F0 mm 43 ls [.int w0]) := by
    intro w0  H locs ls hl hw h
    unfold f4_kindHere_b43 at h
    refine lv_istore_n (lv' := [(1, .int w0), (0, .ref (gq G 25))]) hx hb dX4_kindHere_43 rfl hl (by decide) rfl (fun ls hl => ?_)
    refine lv_aload_n hx hb dX4_kindHere_44 rfl (lv_at hl 1 rfl) ?_
    refine w_ldcSw C (i := 3) (List.mem_of_getElem? (i := 20) rfl) dX4_kindHere_45 ?_
    obtain ⟨v4, hq, h⟩ := p_bd h
    refine w_Vi C hw (As := [.ref (gK G 3)]) (rest := []) (c4_isWord l G 3 (by decide) x m v4 hq) kv_X4_isWord ml_X4_288 ⟨rfl, rfl⟩ ⟨Nat.le_of_ble_eq_true rfl, Nat.le_of_ble_eq_true rfl⟩ ⟨Nat.zero_le _, Nat.zero_le _⟩ (w_recv C hw (wk_model G x m) rfl) rfl rfl (Nat.le_of_ble_eq_true rfl) (lv_sub hl [] rfl) dX4_kindHere_48 (fun H locs hw => ?_)
    refine lv_if_eq (tgt := 58) hx hb dX4_kindHere_51 (by decide) (fun hc => ?_) (fun hc => ?_)
    · replace h := p_t hc h
      refine lv_aload_n hx hb dX4_kindHere_58 rfl (lv_at hl 1 rfl) ?_
      refine w_ldcSw C (i := 4) (List.mem_of_getElem? (i := 21) rfl) dX4_kindHere_59 ?_
      obtain ⟨v5, hq, h⟩ := p_bd h
      refine w_Vi C hw (As := [.ref (gK G 4)]) (rest := []) (c4_isWord l G 4 (by decide) x m v5 hq) kv_X4_isWord ml_X4_288 ⟨rfl, rfl⟩ ⟨Nat.le_of_ble_eq_true rfl, Nat.le_of_ble_eq_true rfl⟩ ⟨Nat.zero_le _, Nat.zero_le _⟩ (w_recv C hw (wk_model G x m) rfl) rfl rfl (Nat.le_of_ble_eq_true rfl) (lv_sub hl [] rfl) dX4_kindHere_62 (fun H locs hw => ?_)
      refine lv_if_eq (tgt := 72) hx hb dX4_kindHere_65 (by decide) (fun hc => ?_) (fun hc => ?_)
      · replace h := p_t hc h
        refine lv_aload_n hx hb dX4_kindHere_72 rfl (lv_at hl 1 rfl) ?_
        refine w_ldcSw C (i := 5) (List.mem_of_getElem? (i := 22) rfl) dX4_kindHere_73 ?_
        obtain ⟨v6, hq, h⟩ := p_bd h
        refine w_Vi C hw (As := [.ref (gK G 5)]) (rest := []) (c4_isWord l G 5 (by decide) x m v6 hq) kv_X4_isWord ml_X4_288 ⟨rfl, rfl⟩ ⟨Nat.le_of_ble_eq_true rfl, Nat.le_of_ble_eq_true rfl⟩ ⟨Nat.zero_le _, Nat.zero_le _⟩ (w_recv C hw (wk_model G x m) rfl) rfl rfl (Nat.le_of_ble_eq_true rfl) (lv_sub hl [] rfl) dX4_kindHere_76 (fun H locs hw => ?_)
        refine lv_if_eq (tgt := 86) hx hb dX4_kindHere_79 (by decide) (fun hc => ?_) (fun hc => ?_)
        · replace h := p_t hc h
          refine lv_iconst (v := (-1 : Int32)) hx hb dX4_kindHere_86 (by decide) ?_
          exact B87 w0 (-1 : Int32) _ _ _ (lv_sub hl [1, 0] rfl) hw h
        · replace h := p_f hc h
          refine lv_iconst (v := (5 : Int32)) hx hb dX4_kindHere_82 (by decide) ?_
          refine lv_goto (tgt := 87) hx hb dX4_kindHere_83 (by decide) ?_
          exact B87 w0 (5 : Int32) _ _ _ (lv_sub hl [1, 0] rfl) hw h
      · replace h := p_f hc h
        refine lv_iconst (v := (4 : Int32)) hx hb dX4_kindHere_68 (by decide) ?_
        refine lv_goto (tgt := 87) hx hb dX4_kindHere_69 (by decide) ?_
        exact B87 w0 (4 : Int32) _ _ _ (lv_sub hl [1, 0] rfl) hw h
    · replace h := p_f hc h
      refine lv_iconst (v := (3 : Int32)) hx hb dX4_kindHere_54 (by decide) ?_
      refine lv_goto (tgt := 87) hx hb dX4_kindHere_55 (by decide) ?_
      exact B87 w0 (3 : Int32) _ _ _ (lv_sub hl [1, 0] rfl) hw h
  unfold f4_kindHere at h
  refine lv_aload_n hx hb dX4_kindHere_0 rfl (lv_at hl 0 rfl) ?_
  refine w_ldcSw C (i := 0) (List.mem_of_getElem? (i := 17) rfl) dX4_kindHere_1 ?_
  obtain ⟨v1, hq, h⟩ := p_bd h
  refine w_Vi C hw (As := [.ref (gK G 0)]) (rest := []) (c4_isWord l G 0 (by decide) x m v1 hq) kv_X4_isWord ml_X4_288 ⟨rfl, rfl⟩ ⟨Nat.le_of_ble_eq_true rfl, Nat.le_of_ble_eq_true rfl⟩ ⟨Nat.zero_le _, Nat.zero_le _⟩ (w_recv C hw (wk_model G x m) rfl) rfl rfl (Nat.le_of_ble_eq_true rfl) (lv_sub hl [] rfl) dX4_kindHere_4 (fun H locs hw => ?_)
  refine lv_if_eq (tgt := 14) hx hb dX4_kindHere_7 (by decide) (fun hc => ?_) (fun hc => ?_)
  · replace h := p_t hc h
    refine lv_aload_n hx hb dX4_kindHere_14 rfl (lv_at hl 0 rfl) ?_
    refine w_ldcSw C (i := 1) (List.mem_of_getElem? (i := 18) rfl) dX4_kindHere_15 ?_
    obtain ⟨v2, hq, h⟩ := p_bd h
    refine w_Vi C hw (As := [.ref (gK G 1)]) (rest := []) (c4_isWord l G 1 (by decide) x m v2 hq) kv_X4_isWord ml_X4_288 ⟨rfl, rfl⟩ ⟨Nat.le_of_ble_eq_true rfl, Nat.le_of_ble_eq_true rfl⟩ ⟨Nat.zero_le _, Nat.zero_le _⟩ (w_recv C hw (wk_model G x m) rfl) rfl rfl (Nat.le_of_ble_eq_true rfl) (lv_sub hl [] rfl) dX4_kindHere_18 (fun H locs hw => ?_)
    refine lv_if_eq (tgt := 28) hx hb dX4_kindHere_21 (by decide) (fun hc => ?_) (fun hc => ?_)
    · replace h := p_t hc h
      refine lv_aload_n hx hb dX4_kindHere_28 rfl (lv_at hl 0 rfl) ?_
      refine w_ldcSw C (i := 2) (List.mem_of_getElem? (i := 19) rfl) dX4_kindHere_29 ?_
      obtain ⟨v3, hq, h⟩ := p_bd h
      refine w_Vi C hw (As := [.ref (gK G 2)]) (rest := []) (c4_isWord l G 2 (by decide) x m v3 hq) kv_X4_isWord ml_X4_288 ⟨rfl, rfl⟩ ⟨Nat.le_of_ble_eq_true rfl, Nat.le_of_ble_eq_true rfl⟩ ⟨Nat.zero_le _, Nat.zero_le _⟩ (w_recv C hw (wk_model G x m) rfl) rfl rfl (Nat.le_of_ble_eq_true rfl) (lv_sub hl [] rfl) dX4_kindHere_32 (fun H locs hw => ?_)
      refine lv_if_eq (tgt := 42) hx hb dX4_kindHere_35 (by decide) (fun hc => ?_) (fun hc => ?_)
      · replace h := p_t hc h
        refine lv_iconst (v := (-1 : Int32)) hx hb dX4_kindHere_42 (by decide) ?_
        exact B43 (-1 : Int32) _ _ _ (lv_sub hl [0] rfl) hw h
      · replace h := p_f hc h
        refine lv_iconst (v := (2 : Int32)) hx hb dX4_kindHere_38 (by decide) ?_
        refine lv_goto (tgt := 43) hx hb dX4_kindHere_39 (by decide) ?_
        exact B43 (2 : Int32) _ _ _ (lv_sub hl [0] rfl) hw h
    · replace h := p_f hc h
      refine lv_iconst (v := (1 : Int32)) hx hb dX4_kindHere_24 (by decide) ?_
      refine lv_goto (tgt := 43) hx hb dX4_kindHere_25 (by decide) ?_
      exact B43 (1 : Int32) _ _ _ (lv_sub hl [0] rfl) hw h
  · replace h := p_f hc h
    refine lv_iconst (v := (0 : Int32)) hx hb dX4_kindHere_10 (by decide) ?_
    refine lv_goto (tgt := 43) hx hb dX4_kindHere_11 (by decide) ?_
    exact B43 (0 : Int32) _ _ _ (lv_sub hl [0] rfl) hw h
