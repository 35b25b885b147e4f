def f3_now  (a1 : Int32) (x : St) : Option (Int32 × St) :=
  if a1 = (0 : Int32) then
    some ((x (1 + 4 * 0) 6), x)
  else
  if a1 = (1 : Int32) then
    (f2_heardCorners 0 x).bind fun v1 =>
    some (v1, x)
  else
  if a1 = (2 : Int32) then
    (f2_weightOfAll 0 x).bind fun v2 =>
    some (v2, x)
  else
  if a1 = (3 : Int32) then
    some ((x (1 + 4 * 0) 5), x)
  else
  if a1 = (4 : Int32) then
    some ((x (1 + 4 * 0) 4), x)
  else
  if a1 = (5 : Int32) then
    (f2_runningCorners 0 x).bind fun v3 =>
    some (v3, x)
  else
    (f3_finding (-1000001 : Int32) x).bind fun q => match q with
    | (v5, z4) =>
      some (v5, z4)
set_option maxHeartbeats 4000000 in
set_option maxRecDepth 100000 in
theorem c3_now (l : Launch) (G : GT)  (x m : St) (a1 : Int32) (r : Int32 × St) (h : f3_now a1 x = some r) : Mt l yX3_now cX3_now 2 (some .int) (rmF 5 111) G x m [.ref (gq G 0), .int a1] (some (.int r.1)) r.2 m := by
  refine Mt.of (by decide) (Nat.le_of_ble_eq_true rfl) ?_
  intro p e s mm args below meth c C ls hl hw
  have hx := C.1
  have hb := C.2.1
  have hown := C.2.2.2.2.1
  replace hl : lv_has ls 2 [(0, .ref (gq G 0)), (1, .int a1)] := hl
  unfold f3_now at h
  refine lv_iload_n hx hb dX3_now_0 rfl (lv_at hl 1 rfl) ?_
  by_cases hc0 : a1 = (0 : Int32)
  · replace h := p_t hc0 h
    refine lv_tableIn (tgt := 40) hx hb dX3_now_1 (by rw [hc0]; decide) (by rw [hc0]; decide) (by rw [hc0]; rfl) (by decide) ?_
    refine lv_aload_n hx hb dX3_now_40 rfl (lv_at hl 0 rfl) ?_
    refine w_get C hw (v := .ref (gq G (1 + 4 * 0))) (k := 0) (wk_main G x m) rfl it_3 (by decide) fl_X3_10 rfl dX3_now_41 ?_
    refine w_getN C hw (v := .int (x (1 + 4 * 0) 6)) (k := 6) (wk_town G x m (by decide)) rfl it_2 (by decide) (List.mem_of_getElem? (i := 5) rfl) rfl dX3_now_44 ?_
    replace h := Option.some.inj h
    subst h
    exact w_iret C hw (v := (x (1 + 4 * 0) 6)) rfl rfl dX3_now_47
  · replace h := p_f hc0 h
    by_cases hc1 : a1 = (1 : Int32)
    · replace h := p_t hc1 h
      refine lv_tableIn (tgt := 48) hx hb dX3_now_1 (by rw [hc1]; decide) (by rw [hc1]; decide) (by rw [hc1]; rfl) (by decide) ?_
      refine lv_aload_n hx hb dX3_now_48 rfl (lv_at hl 0 rfl) ?_
      refine w_get C hw (v := .ref (gq G (1 + 4 * 0))) (k := 0) (wk_main G x m) rfl it_3 (by decide) fl_X3_10 rfl dX3_now_49 ?_
      obtain ⟨v1, hq, h⟩ := p_bd h
      refine w_Vi C hw (As := []) (rest := []) (c2_heardCorners l G 0 (by decide) x m v1 hq) kv_X2_heardCorners ml_X3_125 ⟨rfl, rfl⟩ ⟨Nat.le_of_ble_eq_true rfl, Nat.le_of_ble_eq_true rfl⟩ ⟨Nat.zero_le _, Nat.zero_le _⟩ (w_recv C hw (wk_town G x m (by decide)) rfl) rfl rfl (Nat.le_of_ble_eq_true rfl) (lv_sub hl [] rfl) dX3_now_52 (fun H locs hw => ?_)
      replace h := Option.some.inj h
      subst h
      exact w_iret C hw (v := v1) rfl rfl dX3_now_55
    · replace h := p_f hc1 h
      by_cases hc2 : a1 = (2 : Int32)
      · replace h := p_t hc2 h
        refine lv_tableIn (tgt := 56) hx hb dX3_now_1 (by rw [hc2]; decide) (by rw [hc2]; decide) (by rw [hc2]; rfl) (by decide) ?_
        refine lv_aload_n hx hb dX3_now_56 rfl (lv_at hl 0 rfl) ?_
        refine w_get C hw (v := .ref (gq G (1 + 4 * 0))) (k := 0) (wk_main G x m) rfl it_3 (by decide) fl_X3_10 rfl dX3_now_57 ?_
        obtain ⟨v2, hq, h⟩ := p_bd h
        refine w_Vi C hw (As := []) (rest := []) (c2_weightOfAll l G 0 (by decide) x m v2 hq) kv_X2_weightOfAll ml_X3_129 ⟨rfl, rfl⟩ ⟨Nat.le_of_ble_eq_true rfl, Nat.le_of_ble_eq_true rfl⟩ ⟨Nat.zero_le _, Nat.zero_le _⟩ (w_recv C hw (wk_town G x m (by decide)) rfl) rfl rfl (Nat.le_of_ble_eq_true rfl) (lv_sub hl [] rfl) dX3_now_60 (fun H locs hw => ?_)
        replace h := Option.some.inj h
        subst h
        exact w_iret C hw (v := v2) rfl rfl dX3_now_63
      · replace h := p_f hc2 h
        by_cases hc3 : a1 = (3 : Int32)
        · replace h := p_t hc3 h
          refine lv_tableIn (tgt := 64) hx hb dX3_now_1 (by rw [hc3]; decide) (by rw [hc3]; decide) (by rw [hc3]; rfl) (by decide) ?_
          refine lv_aload_n hx hb dX3_now_64 rfl (lv_at hl 0 rfl) ?_
          refine w_get C hw (v := .ref (gq G (1 + 4 * 0))) (k := 0) (wk_main G x m) rfl it_3 (by decide) fl_X3_10 rfl dX3_now_65 ?_
          refine w_getN C hw (v := .int (x (1 + 4 * 0) 5)) (k := 5) (wk_town G x m (by decide)) rfl it_2 (by decide) (List.mem_of_getElem? (i := 4) rfl) rfl dX3_now_68 ?_
          replace h := Option.some.inj h
          subst h
          exact w_iret C hw (v := (x (1 + 4 * 0) 5)) rfl rfl dX3_now_71
        · replace h := p_f hc3 h
          by_cases hc4 : a1 = (4 : Int32)
          · replace h := p_t hc4 h
            refine lv_tableIn (tgt := 72) hx hb dX3_now_1 (by rw [hc4]; decide) (by rw [hc4]; decide) (by rw [hc4]; rfl) (by decide) ?_
            refine lv_aload_n hx hb dX3_now_72 rfl (lv_at hl 0 rfl) ?_
            refine w_get C hw (v := .ref (gq G (1 + 4 * 0))) (k := 0) (wk_main G x m) rfl it_3 (by decide) fl_X3_10 rfl dX3_now_73 ?_
            refine w_getN C hw (v := .int (x (1 + 4 * 0) 4)) (k := 4) (wk_town G x m (by decide)) rfl it_2 (by decide) (List.mem_of_getElem? (i := 2) rfl) rfl dX3_now_76 ?_
            replace h := Option.some.inj h
            subst h
            exact w_iret C hw (v := (x (1 + 4 * 0) 4)) rfl rfl dX3_now_79
          · replace h := p_f hc4 h
            by_cases hc5 : a1 = (5 : Int32)
            · replace h := p_t hc5 h
              refine lv_tableIn (tgt := 80) hx hb dX3_now_1 (by rw [hc5]; decide) (by rw [hc5]; decide) (by rw [hc5]; rfl) (by decide) ?_
              refine lv_aload_n hx hb dX3_now_80 rfl (lv_at hl 0 rfl) ?_
              refine w_get C hw (v := .ref (gq G (1 + 4 * 0))) (k := 0) (wk_main G x m) rfl it_3 (by decide) fl_X3_10 rfl dX3_now_81 ?_
              obtain ⟨v3, hq, h⟩ := p_bd h
              refine w_Vi C hw (As := []) (rest := []) (c2_runningCorners l G 0 (by decide) x m v3 hq) kv_X2_runningCorners ml_X3_132 ⟨rfl, rfl⟩ ⟨Nat.le_of_ble_eq_true rfl, Nat.le_of_ble_eq_true rfl⟩ ⟨Nat.zero_le _, Nat.zero_le _⟩ (w_recv C hw (wk_town G x m (by decide)) rfl) rfl rfl (Nat.le_of_ble_eq_true rfl) (lv_sub hl [] rfl) dX3_now_84 (fun H locs hw => ?_)
              replace h := Option.some.inj h
              subst h
              exact w_iret C hw (v := v3) rfl rfl dX3_now_87
            · replace h := p_f hc5 h
              refine lv_tableOut (tgt := 88) hx hb dX3_now_1 (by have q0 : ¬ a1.toInt = 0 := lv_neT hc0 rfl; have q1 : ¬ a1.toInt = 1 := lv_neT hc1 rfl; have q2 : ¬ a1.toInt = 2 := lv_neT hc2 rfl; have q3 : ¬ a1.toInt = 3 := lv_neT hc3 rfl; have q4 : ¬ a1.toInt = 4 := lv_neT hc4 rfl; have q5 : ¬ a1.toInt = 5 := lv_neT hc5 rfl; omega) (by decide) ?_
              refine lv_aload_n hx hb dX3_now_88 rfl (lv_at hl 0 rfl) ?_
              refine lv_ldc hx hb hown (C.w kc_X3_48) dX3_now_89 ?_
              obtain ⟨⟨v5, z4⟩, hq, h⟩ := p_bd h
              dsimp only at h
              refine w_Vi C hw (As := [.int (-1000001 : Int32)]) (rest := []) (c3_finding l G x m (-1000001 : Int32) (v5, z4) hq) kv_X3_finding ml_X3_49 ⟨rfl, rfl⟩ ⟨Nat.le_of_ble_eq_true rfl, Nat.le_of_ble_eq_true rfl⟩ ⟨Nat.zero_le _, Nat.zero_le _⟩ (w_recv C hw (wk_main G x m) rfl) rfl rfl (Nat.le_of_ble_eq_true rfl) (lv_sub hl [] rfl) dX3_now_91 (fun H locs hw => ?_)
              replace h := Option.some.inj h
              subst h
              exact w_iret C hw (v := v5) rfl rfl dX3_now_94

def f3_merge  (a1 : Int32) (x : St) : Option (Int32 × St) :=
  if (f3_isCorner a1) = 0 then
    (f3_finding (-1000001 : Int32) x).bind fun q => match q with
    | (v6, z5) =>
      some (v6, z5)
  else
    (f2_whispersAt 0 a1 x).bind fun v1 =>
    if v1 = 0 then
      (f3_finding (-1000004 : Int32) x).bind fun q => match q with
      | (v4, z3) =>
        some (v4, z3)
    else
      (f2_mergeAt 0 a1 x).bind fun z2 =>
      some (v1, z2)
set_option maxHeartbeats 4000000 in
set_option maxRecDepth 100000 in
theorem c3_merge (l : Launch) (G : GT)  (x m : St) (a1 : Int32) (r : Int32 × St) (h : f3_merge a1 x = some r) : Mt l yX3_merge cX3_merge 3 (some .int) (rmF 4 92) G x m [.ref (gq G 0), .int a1] (some (.int r.1)) r.2 m := by
  refine Mt.of (by decide) (Nat.le_of_ble_eq_true rfl) ?_
  intro p e s mm args below meth c C ls hl hw
  have hx := C.1
  have hb := C.2.1
  have hown := C.2.2.2.2.1
  replace hl : lv_has ls 3 [(0, .ref (gq G 0)), (1, .int a1)] := hl
  unfold f3_merge at h
  refine lv_iload_n hx hb dX3_merge_0 rfl (lv_at hl 1 rfl) ?_
  refine w_Si C hw (As := [.int a1]) (rest := []) (c3_isCorner l G x m a1 _ rfl) ks_X3_isCorner ml_X3_40 ⟨rfl, rfl⟩ ⟨Nat.le_of_ble_eq_true rfl, Nat.le_of_ble_eq_true rfl⟩ ⟨Nat.zero_le _, Nat.zero_le _⟩ rfl rfl (Nat.le_of_ble_eq_true rfl) (lv_sub hl [] rfl) dX3_merge_1 (fun H locs hw => ?_)
  refine lv_if_ne (tgt := 14) hx hb dX3_merge_4 (by decide) (fun hc => ?_) (fun hc => ?_)
  · replace h := p_f hc h
    refine lv_aload_n hx hb dX3_merge_14 rfl (lv_at hl 0 rfl) ?_
    refine w_get C hw (v := .ref (gq G (1 + 4 * 0))) (k := 0) (wk_main G x m) rfl it_3 (by decide) fl_X3_10 rfl dX3_merge_15 ?_
    refine lv_iload_n hx hb dX3_merge_18 rfl (lv_at hl 1 rfl) ?_
    obtain ⟨v1, hq, h⟩ := p_bd h
    refine w_Vi C hw (As := [.int a1]) (rest := []) (c2_whispersAt l G 0 (by decide) x m a1 v1 hq) kv_X2_whispersAt ml_X3_135 ⟨rfl, rfl⟩ ⟨Nat.le_of_ble_eq_true rfl, Nat.le_of_ble_eq_true rfl⟩ ⟨Nat.zero_le _, Nat.zero_le _⟩ (w_recv C hw (wk_town G x m (by decide)) rfl) rfl rfl (Nat.le_of_ble_eq_true rfl) (lv_sub hl [] rfl) dX3_merge_19 (fun H locs hw => ?_)
    refine lv_istore_n (lv' := [(2, .int v1), (0, .ref (gq G 0)), (1, .int a1)]) hx hb dX3_merge_22 rfl hl (by decide) rfl (fun ls hl => ?_)
    refine lv_iload_n hx hb dX3_merge_23 rfl (lv_at hl 0 rfl) ?_
    refine lv_if_ne (tgt := 34) hx hb dX3_merge_24 (by decide) (fun hc => ?_) (fun hc => ?_)
    · replace h := p_f hc h
      refine lv_aload_n hx hb dX3_merge_34 rfl (lv_at hl 1 rfl) ?_
      refine w_get C hw (v := .ref (gq G (1 + 4 * 0))) (k := 0) (wk_main G x m) rfl it_3 (by decide) fl_X3_10 rfl dX3_merge_35 ?_
      refine lv_iload_n hx hb dX3_merge_38 rfl (lv_at hl 2 rfl) ?_
      obtain ⟨z2, hq, h⟩ := p_bd h
      refine w_Vv C hw (As := [.int a1]) (rest := []) (c2_mergeAt l G 0 (by decide) x m a1 z2 hq) kv_X2_mergeAt ml_X3_139 ⟨rfl, rfl⟩ ⟨Nat.le_of_ble_eq_true rfl, Nat.le_of_ble_eq_true rfl⟩ ⟨Nat.zero_le _, Nat.zero_le _⟩ (w_recv C hw (wk_town G x m (by decide)) rfl) rfl rfl (Nat.le_of_ble_eq_true rfl) (lv_sub hl [] rfl) dX3_merge_39 (fun H locs hw => ?_)
      refine lv_iload_n hx hb dX3_merge_42 rfl (lv_at hl 0 rfl) ?_
      replace h := Option.some.inj h
      subst h
      exact w_iret C hw (v := v1) rfl rfl dX3_merge_43
    · replace h := p_t hc h
      refine lv_aload_n hx hb dX3_merge_27 rfl (lv_at hl 1 rfl) ?_
      refine lv_ldc hx hb hown (C.w kc_X3_138) dX3_merge_28 ?_
      obtain ⟨⟨v4, z3⟩, hq, h⟩ := p_bd h
      dsimp only at h
      refine w_Vi C hw (As := [.int (-1000004 : Int32)]) (rest := []) (c3_finding l G x m (-1000004 : Int32) (v4, z3) hq) kv_X3_finding ml_X3_49 ⟨rfl, rfl⟩ ⟨Nat.le_of_ble_eq_true rfl, Nat.le_of_ble_eq_true rfl⟩ ⟨Nat.zero_le _, Nat.zero_le _⟩ (w_recv C hw (wk_main G x m) rfl) rfl rfl (Nat.le_of_ble_eq_true rfl) (lv_sub hl [] rfl) dX3_merge_30 (fun H locs hw => ?_)
      replace h := Option.some.inj h
      subst h
      exact w_iret C hw (v := v4) rfl rfl dX3_merge_33
  · replace h := p_t hc h
    refine lv_aload_n hx hb dX3_merge_7 rfl (lv_at hl 0 rfl) ?_
    refine lv_ldc hx hb hown (C.w kc_X3_48) dX3_merge_8 ?_
    obtain ⟨⟨v6, z5⟩, hq, h⟩ := p_bd h
    dsimp only at h
    refine w_Vi C hw (As := [.int (-1000001 : Int32)]) (rest := []) (c3_finding l G x m (-1000001 : Int32) (v6, z5) hq) kv_X3_finding ml_X3_49 ⟨rfl, rfl⟩ ⟨Nat.le_of_ble_eq_true rfl, Nat.le_of_ble_eq_true rfl⟩ ⟨Nat.zero_le _, Nat.zero_le _⟩ (w_recv C hw (wk_main G x m) rfl) rfl rfl (Nat.le_of_ble_eq_true rfl) (lv_sub hl [] rfl) dX3_merge_10 (fun H locs hw => ?_)
    replace h := Option.some.inj h
    subst h
    exact w_iret C hw (v := v6) rfl rfl dX3_merge_13

def f3_ahead_b21    (x : St) : Option (Int32 × St) :=
  (f3_finding (-1000001 : Int32) x).bind fun q => match q with
  | (v6, z5) =>
    some (v6, z5)
def f3_ahead  (a1 : Int32) (a2 : Int32) (x : St) : Option (Int32 × St) :=
  if (f2_hasWhisper 0 a1 x) = 0 then
    f3_ahead_b21 x
  else
    if (f3_isWithin a2 (0 : Int32) (100 : Int32)) = 0 then
      f3_ahead_b21 x
    else
      (f2_become 2 0 x).bind fun z1 =>
      (f2_pass 2 a2 z1).bind fun q => match q with
      | (v3, z2) =>
        (f2_quality 2 a1 (1 : Int32) z2).bind fun v4 =>
        some (v4, z2)
set_option maxHeartbeats 4000000 in
set_option maxRecDepth 100000 in
theorem c3_ahead (l : Launch) (G : GT)  (x m : St) (a1 : Int32) (a2 : Int32) (r : Int32 × St) (h : f3_ahead a1 a2 x = some r) : Mt l yX3_ahead cX3_ahead 3 (some .int) (rmF 5 122) G x m [.ref (gq G 0), .int a1, .int a2] (some (.int r.1)) r.2 m := by
  refine Mt.of (by decide) (Nat.le_of_ble_eq_true rfl) ?_
  intro p e s mm args below meth c C ls hl hw
  have hx := C.1
  have hb := C.2.1
  have hown := C.2.2.2.2.1
  replace hl : lv_has ls 3 [(0, .ref (gq G 0)), (1, .int a1), (2, .int a2)] := hl
  have B21 : ∀  (x : St) (H : Heap) (locs : List Loc) (ls : Array Slot), lv_has ls 3 [(0, .ref (gq G 0))] → Wd G s x m H locs → f3_ahead_b21 x = some r → W p l e (rmF 5 122) s mm args below meth c H locs 0 0 (QE below G (some (.int r.1)) r.2 m args s) (F0 mm 21 ls []) := by
    intro  x H locs ls hl hw h
    unfold f3_ahead_b21 at h
    refine lv_aload_n hx hb dX3_ahead_21 rfl (lv_at hl 0 rfl) ?_
    refine lv_ldc hx hb hown (C.w kc_X3_48) dX3_ahead_22 ?_
    obtain ⟨⟨v6, z5⟩, hq, h⟩ := p_bd h
    dsimp only at h
    refine w_Vi C hw (As := [.int (-1000001 : Int32)]) (rest := []) (c3_finding l G x m (-1000001 : Int32) (v6, z5) hq) kv_X3_finding ml_X3_49 ⟨rfl, rfl⟩ ⟨Nat.le_of_ble_eq_true rfl, Nat.le_of_ble_eq_true rfl⟩ ⟨Nat.zero_le _, Nat.zero_le _⟩ (w_recv C hw (wk_main G x m) rfl) rfl rfl (Nat.le_of_ble_eq_true rfl) (lv_sub hl [] rfl) dX3_ahead_24 (fun H locs hw => ?_)
    replace h := Option.some.inj h
    subst h
    exact w_iret C hw (v := v6) rfl rfl dX3_ahead_27
  unfold f3_ahead at h
  refine lv_aload_n hx hb dX3_ahead_0 rfl (lv_at hl 0 rfl) ?_
  refine w_get C hw (v := .ref (gq G (1 + 4 * 0))) (k := 0) (wk_main G x m) rfl it_3 (by decide) fl_X3_10 rfl dX3_ahead_1 ?_
  refine lv_iload_n hx hb dX3_ahead_4 rfl (lv_at hl 1 rfl) ?_
  refine w_Vi C hw (As := [.int a1]) (rest := []) (c2_hasWhisper l G 0 (by decide) x m a1 _ rfl) kv_X2_hasWhisper ml_X3_89 ⟨rfl, rfl⟩ ⟨Nat.le_of_ble_eq_true rfl, Nat.le_of_ble_eq_true rfl⟩ ⟨Nat.zero_le _, Nat.zero_le _⟩ (w_recv C hw (wk_town G x m (by decide)) rfl) rfl rfl (Nat.le_of_ble_eq_true rfl) (lv_sub hl [] rfl) dX3_ahead_5 (fun H locs hw => ?_)
  refine lv_if_eq (tgt := 21) hx hb dX3_ahead_8 (by decide) (fun hc => ?_) (fun hc => ?_)
  · replace h := p_t hc h
    exact B21 x _ _ _ (lv_sub hl [0] rfl) hw h
  · replace h := p_f hc h
    refine lv_iload_n hx hb dX3_ahead_11 rfl (lv_at hl 2 rfl) ?_
    refine lv_iconst (v := (0 : Int32)) hx hb dX3_ahead_12 (by decide) ?_
    refine lv_bipush (v := (100 : Int32)) hx hb dX3_ahead_13 (by decide) ?_
    refine w_Si C hw (As := [.int a2, .int (0 : Int32), .int (100 : Int32)]) (rest := []) (c3_isWithin l G x m a2 (0 : Int32) (100 : Int32) _ rfl) ks_X3_isWithin ml_X3_44 ⟨rfl, rfl⟩ ⟨Nat.le_of_ble_eq_true rfl, Nat.le_of_ble_eq_true rfl⟩ ⟨Nat.zero_le _, Nat.zero_le _⟩ rfl rfl (Nat.le_of_ble_eq_true rfl) (lv_sub hl [] rfl) dX3_ahead_15 (fun H locs hw => ?_)
    refine lv_if_ne (tgt := 28) hx hb dX3_ahead_18 (by decide) (fun hc => ?_) (fun hc => ?_)
    · replace h := p_f hc h
      refine lv_aload_n hx hb dX3_ahead_28 rfl (lv_at hl 0 rfl) ?_
      refine w_get C hw (v := .ref (gq G (1 + 4 * 2))) (k := 2) (wk_main G x m) rfl it_3 (by decide) fl_X3_19 rfl dX3_ahead_29 ?_
      refine lv_aload_n hx hb dX3_ahead_32 rfl (lv_at hl 0 rfl) ?_
      refine w_get C hw (v := .ref (gq G (1 + 4 * 0))) (k := 0) (wk_main G x m) rfl it_3 (by decide) fl_X3_10 rfl dX3_ahead_33 ?_
      obtain ⟨z1, hq, h⟩ := p_bd h
      refine w_Vv C hw (As := [.ref (gq G (1 + 4 * 0))]) (rest := []) (c2_become l G 2 (by decide) 0 (by decide) x m z1 hq) kv_X2_become ml_X3_143 ⟨rfl, rfl⟩ ⟨Nat.le_of_ble_eq_true rfl, Nat.le_of_ble_eq_true rfl⟩ ⟨Nat.zero_le _, Nat.zero_le _⟩ (w_recv C hw (wk_town G x m (by decide)) rfl) rfl rfl (Nat.le_of_ble_eq_true rfl) (lv_sub hl [] rfl) dX3_ahead_36 (fun H locs hw => ?_)
      refine lv_aload_n hx hb dX3_ahead_39 rfl (lv_at hl 0 rfl) ?_
      refine w_get C hw (v := .ref (gq G (1 + 4 * 2))) (k := 2) (wk_main G z1 m) rfl it_3 (by decide) fl_X3_19 rfl dX3_ahead_40 ?_
      refine lv_iload_n hx hb dX3_ahead_43 rfl (lv_at hl 2 rfl) ?_
      obtain ⟨⟨v3, z2⟩, hq, h⟩ := p_bd h
      dsimp only at h
      refine w_Vi C hw (As := [.int a2]) (rest := []) (c2_pass l G 2 (by decide) z1 m a2 (v3, z2) hq) kv_X2_pass ml_X3_122 ⟨rfl, rfl⟩ ⟨Nat.le_of_ble_eq_true rfl, Nat.le_of_ble_eq_true rfl⟩ ⟨Nat.zero_le _, Nat.zero_le _⟩ (w_recv C hw (wk_town G z1 m (by decide)) rfl) rfl rfl (Nat.le_of_ble_eq_true rfl) (lv_sub hl [] rfl) dX3_ahead_44 (fun H locs hw => ?_)
      refine lv_pop hx hb dX3_ahead_47 rfl ?_
      refine lv_aload_n hx hb dX3_ahead_48 rfl (lv_at hl 0 rfl) ?_
      refine w_get C hw (v := .ref (gq G (1 + 4 * 2))) (k := 2) (wk_main G z2 m) rfl it_3 (by decide) fl_X3_19 rfl dX3_ahead_49 ?_
      refine lv_iload_n hx hb dX3_ahead_52 rfl (lv_at hl 1 rfl) ?_
      refine lv_iconst (v := (1 : Int32)) hx hb dX3_ahead_53 (by decide) ?_
      obtain ⟨v4, hq, h⟩ := p_bd h
      refine w_Vi C hw (As := [.int a1, .int (1 : Int32)]) (rest := []) (c2_quality l G 2 (by decide) z2 m a1 (1 : Int32) v4 hq) kv_X2_quality ml_X3_98 ⟨rfl, rfl⟩ ⟨Nat.le_of_ble_eq_true rfl, Nat.le_of_ble_eq_true rfl⟩ ⟨Nat.zero_le _, Nat.zero_le _⟩ (w_recv C hw (wk_town G z2 m (by decide)) rfl) rfl rfl (Nat.le_of_ble_eq_true rfl) (lv_sub hl [] rfl) dX3_ahead_54 (fun H locs hw => ?_)
      replace h := Option.some.inj h
      subst h
      exact w_iret C hw (v := v4) rfl rfl dX3_ahead_57
    · replace h := p_t hc h
      exact B21 x _ _ _ (lv_sub hl [0] rfl) hw h

def f3_loud_b17    (x : St) : Option (Int32 × St) :=
  (f3_finding (-1000001 : Int32) x).bind fun q => match q with
  | (v6, z5) =>
    some (v6, z5)
def f3_loud  (a1 : Int32) (a2 : Int32) (x : St) : Option (Int32 × St) :=
  if (f3_isCorner a1) = 0 then
    f3_loud_b17 x
  else
    if (f3_isWithin a2 (0 : Int32) (100 : Int32)) = 0 then
      f3_loud_b17 x
    else
      (f2_become 2 0 x).bind fun z1 =>
      (f2_pass 2 a2 z1).bind fun q => match q with
      | (v3, z2) =>
        (f2_loudAt 2 a1 z2).bind fun v4 =>
        some (v4, z2)
set_option maxHeartbeats 4000000 in
set_option maxRecDepth 100000 in
theorem c3_loud (l : Launch) (G : GT)  (x m : St) (a1 : Int32) (a2 : Int32) (r : Int32 × St) (h : f3_loud a1 a2 x = some r) : Mt l yX3_loud cX3_loud 3 (some .int) (rmF 5 122) G x m [.ref (gq G 0), .int a1, .int a2] (some (.int r.1)) r.2 m := by
  refine Mt.of (by decide) (Nat.le_of_ble_eq_true rfl) ?_
  intro p e s mm args below meth c C ls hl hw
  have hx := C.1
  have hb := C.2.1
  have hown := C.2.2.2.2.1
  replace hl : lv_has ls 3 [(0, .ref (gq G 0)), (1, .int a1), (2, .int a2)] := hl
  have B17 : ∀  (x : St) (H : Heap) (locs : List Loc) (ls : Array Slot), lv_has ls 3 [(0, .ref (gq G 0))] → Wd G s x m H locs → f3_loud_b17 x = some r → W p l e (rmF 5 122) s mm args below meth c H locs 0 0 (QE below G (some (.int r.1)) r.2 m args s) (F0 mm 17 ls []) := by
    intro  x H locs ls hl hw h
    unfold f3_loud_b17 at h
    refine lv_aload_n hx hb dX3_loud_17 rfl (lv_at hl 0 rfl) ?_
    refine lv_ldc hx hb hown (C.w kc_X3_48) dX3_loud_18 ?_
    obtain ⟨⟨v6, z5⟩, hq, h⟩ := p_bd h
    dsimp only at h
    refine w_Vi C hw (As := [.int (-1000001 : Int32)]) (rest := []) (c3_finding l G x m (-1000001 : Int32) (v6, z5) hq) kv_X3_finding ml_X3_49 ⟨rfl, rfl⟩ ⟨Nat.le_of_ble_eq_true rfl, Nat.le_of_ble_eq_true rfl⟩ ⟨Nat.zero_le _, Nat.zero_le _⟩ (w_recv C hw (wk_main G x m) rfl) rfl rfl (Nat.le_of_ble_eq_true rfl) (lv_sub hl [] rfl) dX3_loud_20 (fun H locs hw => ?_)
    replace h := Option.some.inj h
    subst h
    exact w_iret C hw (v := v6) rfl rfl dX3_loud_23
  unfold f3_loud at h
  refine lv_iload_n hx hb dX3_loud_0 rfl (lv_at hl 1 rfl) ?_
  refine w_Si C hw (As := [.int a1]) (rest := []) (c3_isCorner l G x m a1 _ rfl) ks_X3_isCorner ml_X3_40 ⟨rfl, rfl⟩ ⟨Nat.le_of_ble_eq_true rfl, Nat.le_of_ble_eq_true rfl⟩ ⟨Nat.zero_le _, Nat.zero_le _⟩ rfl rfl (Nat.le_of_ble_eq_true rfl) (lv_sub hl [] rfl) dX3_loud_1 (fun H locs hw => ?_)
  refine lv_if_eq (tgt := 17) hx hb dX3_loud_4 (by decide) (fun hc => ?_) (fun hc => ?_)
  · replace h := p_t hc h
    exact B17 x _ _ _ (lv_sub hl [0] rfl) hw h
  · replace h := p_f hc h
    refine lv_iload_n hx hb dX3_loud_7 rfl (lv_at hl 2 rfl) ?_
    refine lv_iconst (v := (0 : Int32)) hx hb dX3_loud_8 (by decide) ?_
    refine lv_bipush (v := (100 : Int32)) hx hb dX3_loud_9 (by decide) ?_
    refine w_Si C hw (As := [.int a2, .int (0 : Int32), .int (100 : Int32)]) (rest := []) (c3_isWithin l G x m a2 (0 : Int32) (100 : Int32) _ rfl) ks_X3_isWithin ml_X3_44 ⟨rfl, rfl⟩ ⟨Nat.le_of_ble_eq_true rfl, Nat.le_of_ble_eq_true rfl⟩ ⟨Nat.zero_le _, Nat.zero_le _⟩ rfl rfl (Nat.le_of_ble_eq_true rfl) (lv_sub hl [] rfl) dX3_loud_11 (fun H locs hw => ?_)
    refine lv_if_ne (tgt := 24) hx hb dX3_loud_14 (by decide) (fun hc => ?_) (fun hc => ?_)
    · replace h := p_f hc h
      refine lv_aload_n hx hb dX3_loud_24 rfl (lv_at hl 0 rfl) ?_
      refine w_get C hw (v := .ref (gq G (1 + 4 * 2))) (k := 2) (wk_main G x m) rfl it_3 (by decide) fl_X3_19 rfl dX3_loud_25 ?_
      refine lv_aload_n hx hb dX3_loud_28 rfl (lv_at hl 0 rfl) ?_
      refine w_get C hw (v := .ref (gq G (1 + 4 * 0))) (k := 0) (wk_main G x m) rfl it_3 (by decide) fl_X3_10 rfl dX3_loud_29 ?_
      obtain ⟨z1, hq, h⟩ := p_bd h
      refine w_Vv C hw (As := [.ref (gq G (1 + 4 * 0))]) (rest := []) (c2_become l G 2 (by decide) 0 (by decide) x m z1 hq) kv_X2_become ml_X3_143 ⟨rfl, rfl⟩ ⟨Nat.le_of_ble_eq_true rfl, Nat.le_of_ble_eq_true rfl⟩ ⟨Nat.zero_le _, Nat.zero_le _⟩ (w_recv C hw (wk_town G x m (by decide)) rfl) rfl rfl (Nat.le_of_ble_eq_true rfl) (lv_sub hl [] rfl) dX3_loud_32 (fun H locs hw => ?_)
      refine lv_aload_n hx hb dX3_loud_35 rfl (lv_at hl 0 rfl) ?_
      refine w_get C hw (v := .ref (gq G (1 + 4 * 2))) (k := 2) (wk_main G z1 m) rfl it_3 (by decide) fl_X3_19 rfl dX3_loud_36 ?_
      refine lv_iload_n hx hb dX3_loud_39 rfl (lv_at hl 2 rfl) ?_
      obtain ⟨⟨v3, z2⟩, hq, h⟩ := p_bd h
      dsimp only at h
      refine w_Vi C hw (As := [.int a2]) (rest := []) (c2_pass l G 2 (by decide) z1 m a2 (v3, z2) hq) kv_X2_pass ml_X3_122 ⟨rfl, rfl⟩ ⟨Nat.le_of_ble_eq_true rfl, Nat.le_of_ble_eq_true rfl⟩ ⟨Nat.zero_le _, Nat.zero_le _⟩ (w_recv C hw (wk_town G z1 m (by decide)) rfl) rfl rfl (Nat.le_of_ble_eq_true rfl) (lv_sub hl [] rfl) dX3_loud_40 (fun H locs hw => ?_)
      refine lv_pop hx hb dX3_loud_43 rfl ?_
      refine lv_aload_n hx hb dX3_loud_44 rfl (lv_at hl 0 rfl) ?_
      refine w_get C hw (v := .ref (gq G (1 + 4 * 2))) (k := 2) (wk_main G z2 m) rfl it_3 (by decide) fl_X3_19 rfl dX3_loud_45 ?_
      refine lv_iload_n hx hb dX3_loud_48 rfl (lv_at hl 1 rfl) ?_
      obtain ⟨v4, hq, h⟩ := p_bd h
      refine w_Vi C hw (As := [.int a1]) (rest := []) (c2_loudAt l G 2 (by decide) z2 m a1 v4 hq) kv_X2_loudAt ml_X3_56 ⟨rfl, rfl⟩ ⟨Nat.le_of_ble_eq_true rfl, Nat.le_of_ble_eq_true rfl⟩ ⟨Nat.zero_le _, Nat.zero_le _⟩ (w_recv C hw (wk_town G z2 m (by decide)) rfl) rfl rfl (Nat.le_of_ble_eq_true rfl) (lv_sub hl [] rfl) dX3_loud_49 (fun H locs hw => ?_)
      replace h := Option.some.inj h
      subst h
      exact w_iret C hw (v := v4) rfl rfl dX3_loud_52
    · replace h := p_t hc h
      exact B17 x _ _ _ (lv_sub hl [0] rfl) hw h

def f3_heard_L27   : Nat → Int32 → Int32 → St → Option (Int32 × St)
  | 0, _, _, _ => none
  | n + 1, b1, b2, x =>
    if (100 : Int32) < b2 then
      (f3_finding (-1000004 : Int32) x).bind fun q => match q with
      | (v5, z4) =>
        some (v5, z4)
    else
      (f2_isHeardAt 2 b1 x).bind fun v6 =>
      if v6 = 0 then
        (f2_pass 2 (1 : Int32) x).bind fun q => match q with
        | (v8, z7) =>
          (f3_heard_L27 n) b1 (b2 + (1 : Int32)) z7
      else
        some (b2, x)
theorem f3_heard_L27_0   (b1 : Int32) (b2 : Int32) (x : St) : f3_heard_L27  0 b1 b2 x = none := rfl
theorem f3_heard_L27_s   (n : Nat) (b1 : Int32) (b2 : Int32) (x : St) : f3_heard_L27  (n + 1) b1 b2 x =
    if (100 : Int32) < b2 then
      (f3_finding (-1000004 : Int32) x).bind fun q => match q with
      | (v5, z4) =>
        some (v5, z4)
    else
      (f2_isHeardAt 2 b1 x).bind fun v6 =>
      if v6 = 0 then
        (f2_pass 2 (1 : Int32) x).bind fun q => match q with
        | (v8, z7) =>
          (f3_heard_L27 n) b1 (b2 + (1 : Int32)) z7
      else
        some (b2, x) := rfl
def f3_heard  (a1 : Int32) (x : St) : Option (Int32 × St) :=
  if (f3_isCorner a1) = 0 then
    (f3_finding (-1000001 : Int32) x).bind fun q => match q with
    | (v3, z2) =>
      some (v3, z2)
  else
    (f2_become 2 0 x).bind fun z1 =>
    f3_heard_L27 fu a1 (0 : Int32) z1
set_option maxHeartbeats 4000000 in
set_option maxRecDepth 100000 in
theorem c3_heard (l : Launch) (G : GT)  (x m : St) (a1 : Int32) (r : Int32 × St) (h : f3_heard a1 x = some r) : Mt l yX3_heard cX3_heard 3 (some .int) (rmF 5 122) G x m [.ref (gq G 0), .int a1] (some (.int r.1)) r.2 m := by
  refine Mt.of (by decide) (Nat.le_of_ble_eq_true rfl) ?_
  intro p e s mm args below meth c C ls hl hw
  have hx := C.1
  have hb := C.2.1
  have hown := C.2.2.2.2.1
  replace hl : lv_has ls 3 [(0, .ref (gq G 0)), (1, .int a1)] := hl
  have L27 : ∀ (n27 : Nat) (b1 : Int32) (b2 : Int32) (x : St) (H : Heap) (locs : List Loc) (ls : Array Slot), lv_has ls 3 [(0, .ref (gq G 0)), (1, .int b1), (2, .int b2)] → Wd G s x m H locs → f3_heard_L27 n27 b1 b2 x = some r → W p l e (rmF 5 122) s mm args below meth c H locs 0 0 (QE below G (some (.int r.1)) r.2 m args s) (F0 mm 27 ls []) := by
    intro n27
    induction n27 with
    | zero =>
      intro b1 b2 x H locs ls hl hw h
      rw [f3_heard_L27_0] at h
      exact absurd h.symm (Option.some_ne_none _)
    | succ n27 ih27 =>
      intro b1 b2 x H locs ls hl hw h
      rw [f3_heard_L27_s] at h
      refine lv_iload_n hx hb dX3_heard_27 rfl (lv_at hl 2 rfl) ?_
      refine lv_bipush (v := (100 : Int32)) hx hb dX3_heard_28 (by decide) ?_
      refine lv_icmp_gt (tgt := 61) hx hb dX3_heard_30 (by decide) (fun hc => ?_) (fun hc => ?_)
      · replace h := p_t hc h
        refine lv_aload_n hx hb dX3_heard_61 rfl (lv_at hl 0 rfl) ?_
        refine lv_ldc hx hb hown (C.w kc_X3_138) dX3_heard_62 ?_
        obtain ⟨⟨v5, z4⟩, hq, h⟩ := p_bd h
        dsimp only at h
        refine w_Vi C hw (As := [.int (-1000004 : Int32)]) (rest := []) (c3_finding l G x m (-1000004 : Int32) (v5, z4) hq) kv_X3_finding ml_X3_49 ⟨rfl, rfl⟩ ⟨Nat.le_of_ble_eq_true rfl, Nat.le_of_ble_eq_true rfl⟩ ⟨Nat.zero_le _, Nat.zero_le _⟩ (w_recv C hw (wk_main G x m) rfl) rfl rfl (Nat.le_of_ble_eq_true rfl) (lv_sub hl [] rfl) dX3_heard_64 (fun H locs hw => ?_)
        replace h := Option.some.inj h
        subst h
        exact w_iret C hw (v := v5) rfl rfl dX3_heard_67
      · replace h := p_f hc h
        refine lv_aload_n hx hb dX3_heard_33 rfl (lv_at hl 0 rfl) ?_
        refine w_get C hw (v := .ref (gq G (1 + 4 * 2))) (k := 2) (wk_main G x m) rfl it_3 (by decide) fl_X3_19 rfl dX3_heard_34 ?_
        refine lv_iload_n hx hb dX3_heard_37 rfl (lv_at hl 1 rfl) ?_
        obtain ⟨v6, hq, h⟩ := p_bd h
        refine w_Vi C hw (As := [.int b1]) (rest := []) (c2_isHeardAt l G 2 (by decide) x m b1 v6 hq) kv_X2_isHeardAt ml_X3_59 ⟨rfl, rfl⟩ ⟨Nat.le_of_ble_eq_true rfl, Nat.le_of_ble_eq_true rfl⟩ ⟨Nat.zero_le _, Nat.zero_le _⟩ (w_recv C hw (wk_town G x m (by decide)) rfl) rfl rfl (Nat.le_of_ble_eq_true rfl) (lv_sub hl [] rfl) dX3_heard_38 (fun H locs hw => ?_)
        refine lv_if_eq (tgt := 46) hx hb dX3_heard_41 (by decide) (fun hc => ?_) (fun hc => ?_)
        · replace h := p_t hc h
          refine lv_aload_n hx hb dX3_heard_46 rfl (lv_at hl 0 rfl) ?_
          refine w_get C hw (v := .ref (gq G (1 + 4 * 2))) (k := 2) (wk_main G x m) rfl it_3 (by decide) fl_X3_19 rfl dX3_heard_47 ?_
          refine lv_iconst (v := (1 : Int32)) hx hb dX3_heard_50 (by decide) ?_
          obtain ⟨⟨v8, z7⟩, hq, h⟩ := p_bd h
          dsimp only at h
          refine w_Vi C hw (As := [.int (1 : Int32)]) (rest := []) (c2_pass l G 2 (by decide) x m (1 : Int32) (v8, z7) hq) kv_X2_pass ml_X3_122 ⟨rfl, rfl⟩ ⟨Nat.le_of_ble_eq_true rfl, Nat.le_of_ble_eq_true rfl⟩ ⟨Nat.zero_le _, Nat.zero_le _⟩ (w_recv C hw (wk_town G x m (by decide)) rfl) rfl rfl (Nat.le_of_ble_eq_true rfl) (lv_sub hl [] rfl) dX3_heard_51 (fun H locs hw => ?_)
          refine lv_pop hx hb dX3_heard_54 rfl ?_
          refine lv_iinc (v := (b2 + (1 : Int32))) (lv' := [(2, .int (b2 + (1 : Int32))), (0, .ref (gq G 0)), (1, .int b1)]) hx hb dX3_heard_55 hl (k := 2) rfl rfl (by decide) rfl (fun ls hl => ?_)
          refine lv_goto (tgt := 27) hx hb dX3_heard_58 (by decide) ?_
          exact ih27 b1 (b2 + (1 : Int32)) z7 _ _ _ (lv_sub hl [1, 2, 0] rfl) hw h
        · replace h := p_f hc h
          refine lv_iload_n hx hb dX3_heard_44 rfl (lv_at hl 2 rfl) ?_
          replace h := Option.some.inj h
          subst h
          exact w_iret C hw (v := b2) rfl rfl dX3_heard_45
  unfold f3_heard at h
  refine lv_iload_n hx hb dX3_heard_0 rfl (lv_at hl 1 rfl) ?_
  refine w_Si C hw (As := [.int a1]) (rest := []) (c3_isCorner l G x m a1 _ rfl) ks_X3_isCorner ml_X3_40 ⟨rfl, rfl⟩ ⟨Nat.le_of_ble_eq_true rfl, Nat.le_of_ble_eq_true rfl⟩ ⟨Nat.zero_le _, Nat.zero_le _⟩ rfl rfl (Nat.le_of_ble_eq_true rfl) (lv_sub hl [] rfl) dX3_heard_1 (fun H locs hw => ?_)
  refine lv_if_ne (tgt := 14) hx hb dX3_heard_4 (by decide) (fun hc => ?_) (fun hc => ?_)
  · replace h := p_f hc h
    refine lv_aload_n hx hb dX3_heard_14 rfl (lv_at hl 0 rfl) ?_
    refine w_get C hw (v := .ref (gq G (1 + 4 * 2))) (k := 2) (wk_main G x m) rfl it_3 (by decide) fl_X3_19 rfl dX3_heard_15 ?_
    refine lv_aload_n hx hb dX3_heard_18 rfl (lv_at hl 0 rfl) ?_
    refine w_get C hw (v := .ref (gq G (1 + 4 * 0))) (k := 0) (wk_main G x m) rfl it_3 (by decide) fl_X3_10 rfl dX3_heard_19 ?_
    obtain ⟨z1, hq, h⟩ := p_bd h
    refine w_Vv C hw (As := [.ref (gq G (1 + 4 * 0))]) (rest := []) (c2_become l G 2 (by decide) 0 (by decide) x m z1 hq) kv_X2_become ml_X3_143 ⟨rfl, rfl⟩ ⟨Nat.le_of_ble_eq_true rfl, Nat.le_of_ble_eq_true rfl⟩ ⟨Nat.zero_le _, Nat.zero_le _⟩ (w_recv C hw (wk_town G x m (by decide)) rfl) rfl rfl (Nat.le_of_ble_eq_true rfl) (lv_sub hl [] rfl) dX3_heard_22 (fun H locs hw => ?_)
    refine lv_iconst (v := (0 : Int32)) hx hb dX3_heard_25 (by decide) ?_
    refine lv_istore_n (lv' := [(2, .int (0 : Int32)), (0, .ref (gq G 0)), (1, .int a1)]) hx hb dX3_heard_26 rfl hl (by decide) rfl (fun ls hl => ?_)
    exact L27 fu a1 (0 : Int32) z1 _ _ _ (lv_sub hl [1, 2, 0] rfl) hw h
  · replace h := p_t hc h
    refine lv_aload_n hx hb dX3_heard_7 rfl (lv_at hl 0 rfl) ?_
    refine lv_ldc hx hb hown (C.w kc_X3_48) dX3_heard_8 ?_
    obtain ⟨⟨v3, z2⟩, hq, h⟩ := p_bd h
    dsimp only at h
    refine w_Vi C hw (As := [.int (-1000001 : Int32)]) (rest := []) (c3_finding l G x m (-1000001 : Int32) (v3, z2) hq) kv_X3_finding ml_X3_49 ⟨rfl, rfl⟩ ⟨Nat.le_of_ble_eq_true rfl, Nat.le_of_ble_eq_true rfl⟩ ⟨Nat.zero_le _, Nat.zero_le _⟩ (w_recv C hw (wk_main G x m) rfl) rfl rfl (Nat.le_of_ble_eq_true rfl) (lv_sub hl [] rfl) dX3_heard_10 (fun H locs hw => ?_)
    replace h := Option.some.inj h
    subst h
    exact w_iret C hw (v := v3) rfl rfl dX3_heard_13

def f3_still   (x : St) : Option (Int32 × St) :=
  (f2_become 2 0 x).bind fun z1 =>
  (f2_pass 2 (101 : Int32) z1).bind fun q => match q with
  | (v3, z2) =>
    if v3 ≤ (100 : Int32) then
      some (v3, z2)
    else
      (f3_finding (-1000004 : Int32) z2).bind fun q => match q with
      | (v5, z4) =>
        some (v5, z4)
set_option maxHeartbeats 4000000 in
set_option maxRecDepth 100000 in
theorem c3_still (l : Launch) (G : GT)  (x m : St)  (r : Int32 × St) (h : f3_still x = some r) : Mt l yX3_still cX3_still 2 (some .int) (rmF 5 122) G x m [.ref (gq G 0)] (some (.int r.1)) r.2 m := by
  refine Mt.of (by decide) (Nat.le_of_ble_eq_true rfl) ?_
  intro p e s mm args below meth c C ls hl hw
  have hx := C.1
  have hb := C.2.1
  have hown := C.2.2.2.2.1
  replace hl : lv_has ls 2 [(0, .ref (gq G 0))] := hl
  unfold f3_still at h
  refine lv_aload_n hx hb dX3_still_0 rfl (lv_at hl 0 rfl) ?_
  refine w_get C hw (v := .ref (gq G (1 + 4 * 2))) (k := 2) (wk_main G x m) rfl it_3 (by decide) fl_X3_19 rfl dX3_still_1 ?_
  refine lv_aload_n hx hb dX3_still_4 rfl (lv_at hl 0 rfl) ?_
  refine w_get C hw (v := .ref (gq G (1 + 4 * 0))) (k := 0) (wk_main G x m) rfl it_3 (by decide) fl_X3_10 rfl dX3_still_5 ?_
  obtain ⟨z1, hq, h⟩ := p_bd h
  refine w_Vv C hw (As := [.ref (gq G (1 + 4 * 0))]) (rest := []) (c2_become l G 2 (by decide) 0 (by decide) x m z1 hq) kv_X2_become ml_X3_143 ⟨rfl, rfl⟩ ⟨Nat.le_of_ble_eq_true rfl, Nat.le_of_ble_eq_true rfl⟩ ⟨Nat.zero_le _, Nat.zero_le _⟩ (w_recv C hw (wk_town G x m (by decide)) rfl) rfl rfl (Nat.le_of_ble_eq_true rfl) (lv_sub hl [] rfl) dX3_still_8 (fun H locs hw => ?_)
  refine lv_aload_n hx hb dX3_still_11 rfl (lv_at hl 0 rfl) ?_
  refine w_get C hw (v := .ref (gq G (1 + 4 * 2))) (k := 2) (wk_main G z1 m) rfl it_3 (by decide) fl_X3_19 rfl dX3_still_12 ?_
  refine lv_bipush (v := (101 : Int32)) hx hb dX3_still_15 (by decide) ?_
  obtain ⟨⟨v3, z2⟩, hq, h⟩ := p_bd h
  dsimp only at h
  refine w_Vi C hw (As := [.int (101 : Int32)]) (rest := []) (c2_pass l G 2 (by decide) z1 m (101 : Int32) (v3, z2) hq) kv_X2_pass ml_X3_122 ⟨rfl, rfl⟩ ⟨Nat.le_of_ble_eq_true rfl, Nat.le_of_ble_eq_true rfl⟩ ⟨Nat.zero_le _, Nat.zero_le _⟩ (w_recv C hw (wk_town G z1 m (by decide)) rfl) rfl rfl (Nat.le_of_ble_eq_true rfl) (lv_sub hl [] rfl) dX3_still_17 (fun H locs hw => ?_)
  refine lv_istore_n (lv' := [(1, .int v3), (0, .ref (gq G 0))]) hx hb dX3_still_20 rfl hl (by decide) rfl (fun ls hl => ?_)
  refine lv_iload_n hx hb dX3_still_21 rfl (lv_at hl 0 rfl) ?_
  refine lv_bipush (v := (100 : Int32)) hx hb dX3_still_22 (by decide) ?_
  refine lv_icmp_le (tgt := 36) hx hb dX3_still_24 (by decide) (fun hc => ?_) (fun hc => ?_)
  · replace h := p_t hc h
    refine lv_iload_n hx hb dX3_still_36 rfl (lv_at hl 0 rfl) ?_
    replace h := Option.some.inj h
    subst h
    exact w_iret C hw (v := v3) rfl rfl dX3_still_37
  · replace h := p_f hc h
    refine lv_aload_n hx hb dX3_still_27 rfl (lv_at hl 1 rfl) ?_
    refine lv_ldc hx hb hown (C.w kc_X3_138) dX3_still_28 ?_
    obtain ⟨⟨v5, z4⟩, hq, h⟩ := p_bd h
    dsimp only at h
    refine w_Vi C hw (As := [.int (-1000004 : Int32)]) (rest := []) (c3_finding l G z2 m (-1000004 : Int32) (v5, z4) hq) kv_X3_finding ml_X3_49 ⟨rfl, rfl⟩ ⟨Nat.le_of_ble_eq_true rfl, Nat.le_of_ble_eq_true rfl⟩ ⟨Nat.zero_le _, Nat.zero_le _⟩ (w_recv C hw (wk_main G z2 m) rfl) rfl rfl (Nat.le_of_ble_eq_true rfl) (lv_sub hl [] rfl) dX3_still_30 (fun H locs hw => ?_)
    refine lv_goto (tgt := 37) hx hb dX3_still_33 (by decide) ?_
    replace h := Option.some.inj h
    subst h
    exact w_iret C hw (v := v5) rfl rfl dX3_still_37

def f3_harbour  (a1 : Int32) (x : St) : Option (Int32 × St) :=
  if (f2_hasWhisper 0 a1 x) = 0 then
    (f3_finding (-1000001 : Int32) x).bind fun q => match q with
    | (v7, z6) =>
      some (v7, z6)
  else
    (f2_become 2 0 x).bind fun z1 =>
    (f2_minutesToHarbour 2 a1 z1).bind fun q => match q with
    | (v3, z2) =>
      if v3 ≤ (100 : Int32) then
        some (v3, z2)
      else
        (f3_finding (-1000004 : Int32) z2).bind fun q => match q with
        | (v5, z4) =>
          some (v5, z4)
set_option maxHeartbeats 4000000 in
set_option maxRecDepth 100000 in
theorem c3_harbour (l : Launch) (G : GT)  (x m : St) (a1 : Int32) (r : Int32 × St) (h : f3_harbour a1 x = some r) : Mt l yX3_harbour cX3_harbour 3 (some .int) (rmF 5 120) G x m [.ref (gq G 0), .int a1] (some (.int r.1)) r.2 m := by
  refine Mt.of (by decide) (Nat.le_of_ble_eq_true rfl) ?_
  intro p e s mm args below meth c C ls hl hw
  have hx := C.1
  have hb := C.2.1
  have hown := C.2.2.2.2.1
  replace hl : lv_has ls 3 [(0, .ref (gq G 0)), (1, .int a1)] := hl
  unfold f3_harbour at h
  refine lv_aload_n hx hb dX3_harbour_0 rfl (lv_at hl 0 rfl) ?_
  refine w_get C hw (v := .ref (gq G (1 + 4 * 0))) (k := 0) (wk_main G x m) rfl it_3 (by decide) fl_X3_10 rfl dX3_harbour_1 ?_
  refine lv_iload_n hx hb dX3_harbour_4 rfl (lv_at hl 1 rfl) ?_
  refine w_Vi C hw (As := [.int a1]) (rest := []) (c2_hasWhisper l G 0 (by decide) x m a1 _ rfl) kv_X2_hasWhisper ml_X3_89 ⟨rfl, rfl⟩ ⟨Nat.le_of_ble_eq_true rfl, Nat.le_of_ble_eq_true rfl⟩ ⟨Nat.zero_le _, Nat.zero_le _⟩ (w_recv C hw (wk_town G x m (by decide)) rfl) rfl rfl (Nat.le_of_ble_eq_true rfl) (lv_sub hl [] rfl) dX3_harbour_5 (fun H locs hw => ?_)
  refine lv_if_ne (tgt := 18) hx hb dX3_harbour_8 (by decide) (fun hc => ?_) (fun hc => ?_)
  · replace h := p_f hc h
    refine lv_aload_n hx hb dX3_harbour_18 rfl (lv_at hl 0 rfl) ?_
    refine w_get C hw (v := .ref (gq G (1 + 4 * 2))) (k := 2) (wk_main G x m) rfl it_3 (by decide) fl_X3_19 rfl dX3_harbour_19 ?_
    refine lv_aload_n hx hb dX3_harbour_22 rfl (lv_at hl 0 rfl) ?_
    refine w_get C hw (v := .ref (gq G (1 + 4 * 0))) (k := 0) (wk_main G x m) rfl it_3 (by decide) fl_X3_10 rfl dX3_harbour_23 ?_
    obtain ⟨z1, hq, h⟩ := p_bd h
    refine w_Vv C hw (As := [.ref (gq G (1 + 4 * 0))]) (rest := []) (c2_become l G 2 (by decide) 0 (by decide) x m z1 hq) kv_X2_become ml_X3_143 ⟨rfl, rfl⟩ ⟨Nat.le_of_ble_eq_true rfl, Nat.le_of_ble_eq_true rfl⟩ ⟨Nat.zero_le _, Nat.zero_le _⟩ (w_recv C hw (wk_town G x m (by decide)) rfl) rfl rfl (Nat.le_of_ble_eq_true rfl) (lv_sub hl [] rfl) dX3_harbour_26 (fun H locs hw => ?_)
    refine lv_aload_n hx hb dX3_harbour_29 rfl (lv_at hl 0 rfl) ?_
    refine w_get C hw (v := .ref (gq G (1 + 4 * 2))) (k := 2) (wk_main G z1 m) rfl it_3 (by decide) fl_X3_19 rfl dX3_harbour_30 ?_
    refine lv_iload_n hx hb dX3_harbour_33 rfl (lv_at hl 1 rfl) ?_
    obtain ⟨⟨v3, z2⟩, hq, h⟩ := p_bd h
    dsimp only at h
    refine w_Vi C hw (As := [.int a1]) (rest := []) (c2_minutesToHarbour l G 2 (by decide) z1 m a1 (v3, z2) hq) kv_X2_minutesToHarbour ml_X3_147 ⟨rfl, rfl⟩ ⟨Nat.le_of_ble_eq_true rfl, Nat.le_of_ble_eq_true rfl⟩ ⟨Nat.zero_le _, Nat.zero_le _⟩ (w_recv C hw (wk_town G z1 m (by decide)) rfl) rfl rfl (Nat.le_of_ble_eq_true rfl) (lv_sub hl [] rfl) dX3_harbour_34 (fun H locs hw => ?_)
    refine lv_istore_n (lv' := [(2, .int v3), (0, .ref (gq G 0)), (1, .int a1)]) hx hb dX3_harbour_37 rfl hl (by decide) rfl (fun ls hl => ?_)
    refine lv_iload_n hx hb dX3_harbour_38 rfl (lv_at hl 0 rfl) ?_
    refine lv_bipush (v := (100 : Int32)) hx hb dX3_harbour_39 (by decide) ?_
    refine lv_icmp_le (tgt := 53) hx hb dX3_harbour_41 (by decide) (fun hc => ?_) (fun hc => ?_)
    · replace h := p_t hc h
      refine lv_iload_n hx hb dX3_harbour_53 rfl (lv_at hl 0 rfl) ?_
      replace h := Option.some.inj h
      subst h
      exact w_iret C hw (v := v3) rfl rfl dX3_harbour_54
    · replace h := p_f hc h
      refine lv_aload_n hx hb dX3_harbour_44 rfl (lv_at hl 1 rfl) ?_
      refine lv_ldc hx hb hown (C.w kc_X3_138) dX3_harbour_45 ?_
      obtain ⟨⟨v5, z4⟩, hq, h⟩ := p_bd h
      dsimp only at h
      refine w_Vi C hw (As := [.int (-1000004 : Int32)]) (rest := []) (c3_finding l G z2 m (-1000004 : Int32) (v5, z4) hq) kv_X3_finding ml_X3_49 ⟨rfl, rfl⟩ ⟨Nat.le_of_ble_eq_true rfl, Nat.le_of_ble_eq_true rfl⟩ ⟨Nat.zero_le _, Nat.zero_le _⟩ (w_recv C hw (wk_main G z2 m) rfl) rfl rfl (Nat.le_of_ble_eq_true rfl) (lv_sub hl [] rfl) dX3_harbour_47 (fun H locs hw => ?_)
      refine lv_goto (tgt := 54) hx hb dX3_harbour_50 (by decide) ?_
      replace h := Option.some.inj h
      subst h
      exact w_iret C hw (v := v5) rfl rfl dX3_harbour_54
  · replace h := p_t hc h
    refine lv_aload_n hx hb dX3_harbour_11 rfl (lv_at hl 0 rfl) ?_
    refine lv_ldc hx hb hown (C.w kc_X3_48) dX3_harbour_12 ?_
    obtain ⟨⟨v7, z6⟩, hq, h⟩ := p_bd h
    dsimp only at h
    refine w_Vi C hw (As := [.int (-1000001 : Int32)]) (rest := []) (c3_finding l G x m (-1000001 : Int32) (v7, z6) hq) kv_X3_finding ml_X3_49 ⟨rfl, rfl⟩ ⟨Nat.le_of_ble_eq_true rfl, Nat.le_of_ble_eq_true rfl⟩ ⟨Nat.zero_le _, Nat.zero_le _⟩ (w_recv C hw (wk_main G x m) rfl) rfl rfl (Nat.le_of_ble_eq_true rfl) (lv_sub hl [] rfl) dX3_harbour_14 (fun H locs hw => ?_)
    replace h := Option.some.inj h
    subst h
    exact w_iret C hw (v := v7) rfl rfl dX3_harbour_17

def f3_loudest_L47   : Nat → Int32 → Int32 → Int32 → Int32 → St → Option (Int32 × St)
  | 0, _, _, _, _, _ => none
  | n + 1, b1, b2, b3, b4, x =>
    if b2 ≤ b4 then
      some (b3, x)
    else
      (f2_pass 2 (1 : Int32) x).bind fun q => match q with
      | (v6, z5) =>
        (f2_loudAt 2 b1 z5).bind fun v7 =>
        (f3_loudest_L47 n) b1 b2 (if b3 < v7 then v7 else b3) (b4 + (1 : Int32)) z5
theorem f3_loudest_L47_0   (b1 : Int32) (b2 : Int32) (b3 : Int32) (b4 : Int32) (x : St) : f3_loudest_L47  0 b1 b2 b3 b4 x = none := rfl
theorem f3_loudest_L47_s   (n : Nat) (b1 : Int32) (b2 : Int32) (b3 : Int32) (b4 : Int32) (x : St) : f3_loudest_L47  (n + 1) b1 b2 b3 b4 x =
    if b2 ≤ b4 then
      some (b3, x)
    else
      (f2_pass 2 (1 : Int32) x).bind fun q => match q with
      | (v6, z5) =>
        (f2_loudAt 2 b1 z5).bind fun v7 =>
        (f3_loudest_L47 n) b1 b2 (if b3 < v7 then v7 else b3) (b4 + (1 : Int32)) z5 := rfl
def f3_loudest_b17    (x : St) : Option (Int32 × St) :=
  (f3_finding (-1000001 : Int32) x).bind fun q => match q with
  | (v4, z3) =>
    some (v4, z3)
def f3_loudest  (a1 : Int32) (a2 : Int32) (x : St) : Option (Int32 × St) :=
  if (f3_isCorner a1) = 0 then
    f3_loudest_b17 x
  else
    if (f3_isWithin a2 (0 : Int32) (100 : Int32)) = 0 then
      f3_loudest_b17 x
    else
      (f2_become 2 0 x).bind fun z1 =>
      (f2_loudAt 2 a1 z1).bind fun v2 =>
      f3_loudest_L47 fu a1 a2 v2 (0 : Int32) z1
set_option maxHeartbeats 4000000 in
set_option maxRecDepth 100000 in
theorem c3_loudest (l : Launch) (G : GT)  (x m : St) (a1 : Int32) (a2 : Int32) (r : Int32 × St) (h : f3_loudest a1 a2 x = some r) : Mt l yX3_loudest cX3_loudest 5 (some .int) (rmF 5 122) G x m [.ref (gq G 0), .int a1, .int a2] (some (.int r.1)) r.2 m := by
  refine Mt.of (by decide) (Nat.le_of_ble_eq_true rfl) ?_
  intro p e s mm args below meth c C ls hl hw
  have hx := C.1
  have hb := C.2.1
  have hown := C.2.2.2.2.1
  replace hl : lv_has ls 5 [(0, .ref (gq G 0)), (1, .int a1), (2, .int a2)] := hl
  have L47 : ∀ (n47 : Nat) (b1 : Int32) (b2 : Int32) (b3 : Int32) (b4 : Int32) (x : St) (H : Heap) (locs : List Loc) (ls : Array Slot), lv_has ls 5 [(0, .ref (gq G 0)), (1, .int b1), (2, .int b2), (3, .int b3), (4, .int b4)] → Wd G s x m H locs → f3_loudest_L47 n47 b1 b2 b3 b4 x = some r → W p l e (rmF 5 122) s mm args below meth c H locs 0 0 (QE below G (some (.int r.1)) r.2 m args s) (F0 mm 47 ls []) := by
    intro n47
    induction n47 with
    | zero =>
      intro b1 b2 b3 b4 x H locs ls hl hw h
      rw [f3_loudest_L47_0] at h
      exact absurd h.symm (Option.some_ne_none _)
    | succ n47 ih47 =>
      intro b1 b2 b3 b4 x H locs ls hl hw h
      rw [f3_loudest_L47_s] at h
      refine lv_iload hx hb dX3_loudest_47 (lv_at hl 4 rfl) ?_
      refine lv_iload_n hx hb dX3_loudest_49 rfl (lv_at hl 2 rfl) ?_
      refine lv_icmp_ge (tgt := 81) hx hb dX3_loudest_50 (by decide) (fun hc => ?_) (fun hc => ?_)
      · replace h := p_t hc h
        refine lv_iload_n hx hb dX3_loudest_81 rfl (lv_at hl 3 rfl) ?_
        replace h := Option.some.inj h
        subst h
        exact w_iret C hw (v := b3) rfl rfl dX3_loudest_82
      · replace h := p_f hc h
        refine lv_aload_n hx hb dX3_loudest_53 rfl (lv_at hl 0 rfl) ?_
        refine w_get C hw (v := .ref (gq G (1 + 4 * 2))) (k := 2) (wk_main G x m) rfl it_3 (by decide) fl_X3_19 rfl dX3_loudest_54 ?_
        refine lv_iconst (v := (1 : Int32)) hx hb dX3_loudest_57 (by decide) ?_
        obtain ⟨⟨v6, z5⟩, hq, h⟩ := p_bd h
        dsimp only at h
        refine w_Vi C hw (As := [.int (1 : Int32)]) (rest := []) (c2_pass l G 2 (by decide) x m (1 : Int32) (v6, z5) hq) kv_X2_pass ml_X3_122 ⟨rfl, rfl⟩ ⟨Nat.le_of_ble_eq_true rfl, Nat.le_of_ble_eq_true rfl⟩ ⟨Nat.zero_le _, Nat.zero_le _⟩ (w_recv C hw (wk_town G x m (by decide)) rfl) rfl rfl (Nat.le_of_ble_eq_true rfl) (lv_sub hl [] rfl) dX3_loudest_58 (fun H locs hw => ?_)
        refine lv_pop hx hb dX3_loudest_61 rfl ?_
        refine lv_iload_n hx hb dX3_loudest_62 rfl (lv_at hl 3 rfl) ?_
        refine lv_aload_n hx hb dX3_loudest_63 rfl (lv_at hl 0 rfl) ?_
        refine w_get C hw (v := .ref (gq G (1 + 4 * 2))) (k := 2) (wk_main G z5 m) rfl it_3 (by decide) fl_X3_19 rfl dX3_loudest_64 ?_
        refine lv_iload_n hx hb dX3_loudest_67 rfl (lv_at hl 1 rfl) ?_
        obtain ⟨v7, hq, h⟩ := p_bd h
        refine w_Vi C hw (As := [.int b1]) (rest := [.int b3]) (c2_loudAt l G 2 (by decide) z5 m b1 v7 hq) kv_X2_loudAt ml_X3_56 ⟨rfl, rfl⟩ ⟨Nat.le_of_ble_eq_true rfl, Nat.le_of_ble_eq_true rfl⟩ ⟨Nat.zero_le _, Nat.zero_le _⟩ (w_recv C hw (wk_town G z5 m (by decide)) rfl) rfl rfl (Nat.le_of_ble_eq_true rfl) (lv_sub hl [] rfl) dX3_loudest_68 (fun H locs hw => ?_)
        refine w_max C (lv_sub hl [] rfl) ml_X3_150 k_max ⟨Nat.le_of_ble_eq_true rfl, Nat.le_of_ble_eq_true rfl⟩ ⟨Nat.zero_le _, Nat.zero_le _⟩ (Nat.le_of_ble_eq_true rfl) dX3_loudest_71 ?_
        refine lv_istore_n (lv' := [(3, .int (if b3 < v7 then v7 else b3)), (0, .ref (gq G 0)), (1, .int b1), (2, .int b2), (4, .int b4)]) hx hb dX3_loudest_74 rfl hl (by decide) rfl (fun ls hl => ?_)
        refine lv_iinc (v := (b4 + (1 : Int32))) (lv' := [(4, .int (b4 + (1 : Int32))), (3, .int (if b3 < v7 then v7 else b3)), (0, .ref (gq G 0)), (1, .int b1), (2, .int b2)]) hx hb dX3_loudest_75 hl (k := 4) rfl rfl (by decide) rfl (fun ls hl => ?_)
        refine lv_goto (tgt := 47) hx hb dX3_loudest_78 (by decide) ?_
        exact ih47 b1 b2 (if b3 < v7 then v7 else b3) (b4 + (1 : Int32)) z5 _ _ _ (lv_sub hl [2, 3, 4, 1, 0] rfl) hw h
  have B17 : ∀  (x : St) (H : Heap) (locs : List Loc) (ls : Array Slot), lv_has ls 5 [(0, .ref (gq G 0))] → Wd G s x m H locs → f3_loudest_b17 x = some r → W p l e (rmF 5 122) s mm args below meth c H locs 0 0 (QE below G (some (.int r.1)) r.2 m args s) (F0 mm 17 ls []) := by
    intro  x H locs ls hl hw h
    unfold f3_loudest_b17 at h
    refine lv_aload_n hx hb dX3_loudest_17 rfl (lv_at hl 0 rfl) ?_
    refine lv_ldc hx hb hown (C.w kc_X3_48) dX3_loudest_18 ?_
    obtain ⟨⟨v4, z3⟩, hq, h⟩ := p_bd h
    dsimp only at h
    refine w_Vi C hw (As := [.int (-1000001 : Int32)]) (rest := []) (c3_finding l G x m (-1000001 : Int32) (v4, z3) hq) kv_X3_finding ml_X3_49 ⟨rfl, rfl⟩ ⟨Nat.le_of_ble_eq_true rfl, Nat.le_of_ble_eq_true rfl⟩ ⟨Nat.zero_le _, Nat.zero_le _⟩ (w_recv C hw (wk_main G x m) rfl) rfl rfl (Nat.le_of_ble_eq_true rfl) (lv_sub hl [] rfl) dX3_loudest_20 (fun H locs hw => ?_)
    replace h := Option.some.inj h
    subst h
    exact w_iret C hw (v := v4) rfl rfl dX3_loudest_23
  unfold f3_loudest at h
  refine lv_iload_n hx hb dX3_loudest_0 rfl (lv_at hl 1 rfl) ?_
  refine w_Si C hw (As := [.int a1]) (rest := []) (c3_isCorner l G x m a1 _ rfl) ks_X3_isCorner ml_X3_40 ⟨rfl, rfl⟩ ⟨Nat.le_of_ble_eq_true rfl, Nat.le_of_ble_eq_true rfl⟩ ⟨Nat.zero_le _, Nat.zero_le _⟩ rfl rfl (Nat.le_of_ble_eq_true rfl) (lv_sub hl [] rfl) dX3_loudest_1 (fun H locs hw => ?_)
  refine lv_if_eq (tgt := 17) hx hb dX3_loudest_4 (by decide) (fun hc => ?_) (fun hc => ?_)
  · replace h := p_t hc h
    exact B17 x _ _ _ (lv_sub hl [0] rfl) hw h
  · replace h := p_f hc h
    refine lv_iload_n hx hb dX3_loudest_7 rfl (lv_at hl 2 rfl) ?_
    refine lv_iconst (v := (0 : Int32)) hx hb dX3_loudest_8 (by decide) ?_
    refine lv_bipush (v := (100 : Int32)) hx hb dX3_loudest_9 (by decide) ?_
    refine w_Si C hw (As := [.int a2, .int (0 : Int32), .int (100 : Int32)]) (rest := []) (c3_isWithin l G x m a2 (0 : Int32) (100 : Int32) _ rfl) ks_X3_isWithin ml_X3_44 ⟨rfl, rfl⟩ ⟨Nat.le_of_ble_eq_true rfl, Nat.le_of_ble_eq_true rfl⟩ ⟨Nat.zero_le _, Nat.zero_le _⟩ rfl rfl (Nat.le_of_ble_eq_true rfl) (lv_sub hl [] rfl) dX3_loudest_11 (fun H locs hw => ?_)
    refine lv_if_ne (tgt := 24) hx hb dX3_loudest_14 (by decide) (fun hc => ?_) (fun hc => ?_)
    · replace h := p_f hc h
      refine lv_aload_n hx hb dX3_loudest_24 rfl (lv_at hl 0 rfl) ?_
      refine w_get C hw (v := .ref (gq G (1 + 4 * 2))) (k := 2) (wk_main G x m) rfl it_3 (by decide) fl_X3_19 rfl dX3_loudest_25 ?_
      refine lv_aload_n hx hb dX3_loudest_28 rfl (lv_at hl 0 rfl) ?_
      refine w_get C hw (v := .ref (gq G (1 + 4 * 0))) (k := 0) (wk_main G x m) rfl it_3 (by decide) fl_X3_10 rfl dX3_loudest_29 ?_
      obtain ⟨z1, hq, h⟩ := p_bd h
      refine w_Vv C hw (As := [.ref (gq G (1 + 4 * 0))]) (rest := []) (c2_become l G 2 (by decide) 0 (by decide) x m z1 hq) kv_X2_become ml_X3_143 ⟨rfl, rfl⟩ ⟨Nat.le_of_ble_eq_true rfl, Nat.le_of_ble_eq_true rfl⟩ ⟨Nat.zero_le _, Nat.zero_le _⟩ (w_recv C hw (wk_town G x m (by decide)) rfl) rfl rfl (Nat.le_of_ble_eq_true rfl) (lv_sub hl [] rfl) dX3_loudest_32 (fun H locs hw => ?_)
      refine lv_aload_n hx hb dX3_loudest_35 rfl (lv_at hl 0 rfl) ?_
      refine w_get C hw (v := .ref (gq G (1 + 4 * 2))) (k := 2) (wk_main G z1 m) rfl it_3 (by decide) fl_X3_19 rfl dX3_loudest_36 ?_
      refine lv_iload_n hx hb dX3_loudest_39 rfl (lv_at hl 1 rfl) ?_
      obtain ⟨v2, hq, h⟩ := p_bd h
      refine w_Vi C hw (As := [.int a1]) (rest := []) (c2_loudAt l G 2 (by decide) z1 m a1 v2 hq) kv_X2_loudAt ml_X3_56 ⟨rfl, rfl⟩ ⟨Nat.le_of_ble_eq_true rfl, Nat.le_of_ble_eq_true rfl⟩ ⟨Nat.zero_le _, Nat.zero_le _⟩ (w_recv C hw (wk_town G z1 m (by decide)) rfl) rfl rfl (Nat.le_of_ble_eq_true rfl) (lv_sub hl [] rfl) dX3_loudest_40 (fun H locs hw => ?_)
      refine lv_istore_n (lv' := [(3, .int v2), (0, .ref (gq G 0)), (1, .int a1), (2, .int a2)]) hx hb dX3_loudest_43 rfl hl (by decide) rfl (fun ls hl => ?_)
      refine lv_iconst (v := (0 : Int32)) hx hb dX3_loudest_44 (by decide) ?_
      refine lv_istore (lv' := [(4, .int (0 : Int32)), (3, .int v2), (0, .ref (gq G 0)), (1, .int a1), (2, .int a2)]) hx hb dX3_loudest_45 hl (by decide) rfl (fun ls hl => ?_)
      exact L47 fu a1 a2 v2 (0 : Int32) z1 _ _ _ (lv_sub hl [2, 3, 4, 1, 0] rfl) hw h
    · replace h := p_t hc h
      exact B17 x _ _ _ (lv_sub hl [0] rfl) hw h

def f3_overtakes_L47   : Nat → Int32 → Int32 → Int32 → St → Option (Int32 × St)
  | 0, _, _, _, _ => none
  | n + 1, b1, b2, b3, x =>
    if (100 : Int32) < b3 then
      (f3_finding (-1000004 : Int32) x).bind fun q => match q with
      | (v5, z4) =>
        some (v5, z4)
    else
      (f2_heightOf 2 b1 x).bind fun v6 =>
      (f2_heightOf 2 b2 x).bind fun v7 =>
      if v7 ≤ v6 then
        (f2_pass 2 (1 : Int32) x).bind fun q => match q with
        | (v9, z8) =>
          (f3_overtakes_L47 n) b1 b2 (b3 + (1 : Int32)) z8
      else
        some (b3, x)
theorem f3_overtakes_L47_0   (b1 : Int32) (b2 : Int32) (b3 : Int32) (x : St) : f3_overtakes_L47  0 b1 b2 b3 x = none := rfl
theorem f3_overtakes_L47_s   (n : Nat) (b1 : Int32) (b2 : Int32) (b3 : Int32) (x : St) : f3_overtakes_L47  (n + 1) b1 b2 b3 x =
    if (100 : Int32) < b3 then
      (f3_finding (-1000004 : Int32) x).bind fun q => match q with
      | (v5, z4) =>
        some (v5, z4)
    else
      (f2_heightOf 2 b1 x).bind fun v6 =>
      (f2_heightOf 2 b2 x).bind fun v7 =>
      if v7 ≤ v6 then
        (f2_pass 2 (1 : Int32) x).bind fun q => match q with
        | (v9, z8) =>
          (f3_overtakes_L47 n) b1 b2 (b3 + (1 : Int32)) z8
      else
        some (b3, x) := rfl
def f3_overtakes_b27    (x : St) : Option (Int32 × St) :=
  (f3_finding (-1000001 : Int32) x).bind fun q => match q with
  | (v3, z2) =>
    some (v3, z2)
def f3_overtakes  (a1 : Int32) (a2 : Int32) (x : St) : Option (Int32 × St) :=
  if (f2_hasWhisper 0 a1 x) = 0 then
    f3_overtakes_b27 x
  else
    if (f2_hasWhisper 0 a2 x) = 0 then
      f3_overtakes_b27 x
    else
      if a1 = a2 then
        f3_overtakes_b27 x
      else
        (f2_become 2 0 x).bind fun z1 =>
        f3_overtakes_L47 fu a1 a2 (0 : Int32) z1
set_option maxHeartbeats 4000000 in
set_option maxRecDepth 100000 in
theorem c3_overtakes (l : Launch) (G : GT)  (x m : St) (a1 : Int32) (a2 : Int32) (r : Int32 × St) (h : f3_overtakes a1 a2 x = some r) : Mt l yX3_overtakes cX3_overtakes 4 (some .int) (rmF 5 122) G x m [.ref (gq G 0), .int a1, .int a2] (some (.int r.1)) r.2 m := by
  refine Mt.of (by decide) (Nat.le_of_ble_eq_true rfl) ?_
  intro p e s mm args below meth c C ls hl hw
  have hx := C.1
  have hb := C.2.1
  have hown := C.2.2.2.2.1
  replace hl : lv_has ls 4 [(0, .ref (gq G 0)), (1, .int a1), (2, .int a2)] := hl
  have L47 : ∀ (n47 : Nat) (b1 : Int32) (b2 : Int32) (b3 : Int32) (x : St) (H : Heap) (locs : List Loc) (ls : Array Slot), lv_has ls 4 [(0, .ref (gq G 0)), (1, .int b1), (2, .int b2), (3, .int b3)] → Wd G s x m H locs → f3_overtakes_L47 n47 b1 b2 b3 x = some r → W p l e (rmF 5 122) s mm args below meth c H locs 0 0 (QE below G (some (.int r.1)) r.2 m args s) (F0 mm 47 ls []) := by
    intro n47
    induction n47 with
    | zero =>
      intro b1 b2 b3 x H locs ls hl hw h
      rw [f3_overtakes_L47_0] at h
      exact absurd h.symm (Option.some_ne_none _)
    | succ n47 ih47 =>
      intro b1 b2 b3 x H locs ls hl hw h
      rw [f3_overtakes_L47_s] at h
      refine lv_iload_n hx hb dX3_overtakes_47 rfl (lv_at hl 3 rfl) ?_
      refine lv_bipush (v := (100 : Int32)) hx hb dX3_overtakes_48 (by decide) ?_
      refine lv_icmp_gt (tgt := 89) hx hb dX3_overtakes_50 (by decide) (fun hc => ?_) (fun hc => ?_)
      · replace h := p_t hc h
        refine lv_aload_n hx hb dX3_overtakes_89 rfl (lv_at hl 0 rfl) ?_
        refine lv_ldc hx hb hown (C.w kc_X3_138) dX3_overtakes_90 ?_
        obtain ⟨⟨v5, z4⟩, hq, h⟩ := p_bd h
        dsimp only at h
        refine w_Vi C hw (As := [.int (-1000004 : Int32)]) (rest := []) (c3_finding l G x m (-1000004 : Int32) (v5, z4) hq) kv_X3_finding ml_X3_49 ⟨rfl, rfl⟩ ⟨Nat.le_of_ble_eq_true rfl, Nat.le_of_ble_eq_true rfl⟩ ⟨Nat.zero_le _, Nat.zero_le _⟩ (w_recv C hw (wk_main G x m) rfl) rfl rfl (Nat.le_of_ble_eq_true rfl) (lv_sub hl [] rfl) dX3_overtakes_92 (fun H locs hw => ?_)
        replace h := Option.some.inj h
        subst h
        exact w_iret C hw (v := v5) rfl rfl dX3_overtakes_95
      · replace h := p_f hc h
        refine lv_aload_n hx hb dX3_overtakes_53 rfl (lv_at hl 0 rfl) ?_
        refine w_get C hw (v := .ref (gq G (1 + 4 * 2))) (k := 2) (wk_main G x m) rfl it_3 (by decide) fl_X3_19 rfl dX3_overtakes_54 ?_
        refine lv_iload_n hx hb dX3_overtakes_57 rfl (lv_at hl 1 rfl) ?_
        obtain ⟨v6, hq, h⟩ := p_bd h
        refine w_Vi C hw (As := [.int b1]) (rest := []) (c2_heightOf l G 2 (by decide) x m b1 v6 hq) kv_X2_heightOf ml_X3_155 ⟨rfl, rfl⟩ ⟨Nat.le_of_ble_eq_true rfl, Nat.le_of_ble_eq_true rfl⟩ ⟨Nat.zero_le _, Nat.zero_le _⟩ (w_recv C hw (wk_town G x m (by decide)) rfl) rfl rfl (Nat.le_of_ble_eq_true rfl) (lv_sub hl [] rfl) dX3_overtakes_58 (fun H locs hw => ?_)
        refine lv_aload_n hx hb dX3_overtakes_61 rfl (lv_at hl 0 rfl) ?_
        refine w_get C hw (v := .ref (gq G (1 + 4 * 2))) (k := 2) (wk_main G x m) rfl it_3 (by decide) fl_X3_19 rfl dX3_overtakes_62 ?_
        refine lv_iload_n hx hb dX3_overtakes_65 rfl (lv_at hl 2 rfl) ?_
        obtain ⟨v7, hq, h⟩ := p_bd h
        refine w_Vi C hw (As := [.int b2]) (rest := [.int v6]) (c2_heightOf l G 2 (by decide) x m b2 v7 hq) kv_X2_heightOf ml_X3_155 ⟨rfl, rfl⟩ ⟨Nat.le_of_ble_eq_true rfl, Nat.le_of_ble_eq_true rfl⟩ ⟨Nat.zero_le _, Nat.zero_le _⟩ (w_recv C hw (wk_town G x m (by decide)) rfl) rfl rfl (Nat.le_of_ble_eq_true rfl) (lv_sub hl [] rfl) dX3_overtakes_66 (fun H locs hw => ?_)
        refine lv_icmp_ge (tgt := 74) hx hb dX3_overtakes_69 (by decide) (fun hc => ?_) (fun hc => ?_)
        · replace h := p_t hc h
          refine lv_aload_n hx hb dX3_overtakes_74 rfl (lv_at hl 0 rfl) ?_
          refine w_get C hw (v := .ref (gq G (1 + 4 * 2))) (k := 2) (wk_main G x m) rfl it_3 (by decide) fl_X3_19 rfl dX3_overtakes_75 ?_
          refine lv_iconst (v := (1 : Int32)) hx hb dX3_overtakes_78 (by decide) ?_
          obtain ⟨⟨v9, z8⟩, hq, h⟩ := p_bd h
          dsimp only at h
          refine w_Vi C hw (As := [.int (1 : Int32)]) (rest := []) (c2_pass l G 2 (by decide) x m (1 : Int32) (v9, z8) hq) kv_X2_pass ml_X3_122 ⟨rfl, rfl⟩ ⟨Nat.le_of_ble_eq_true rfl, Nat.le_of_ble_eq_true rfl⟩ ⟨Nat.zero_le _, Nat.zero_le _⟩ (w_recv C hw (wk_town G x m (by decide)) rfl) rfl rfl (Nat.le_of_ble_eq_true rfl) (lv_sub hl [] rfl) dX3_overtakes_79 (fun H locs hw => ?_)
          refine lv_pop hx hb dX3_overtakes_82 rfl ?_
          refine lv_iinc (v := (b3 + (1 : Int32))) (lv' := [(3, .int (b3 + (1 : Int32))), (0, .ref (gq G 0)), (1, .int b1), (2, .int b2)]) hx hb dX3_overtakes_83 hl (k := 3) rfl rfl (by decide) rfl (fun ls hl => ?_)
          refine lv_goto (tgt := 47) hx hb dX3_overtakes_86 (by decide) ?_
          exact ih47 b1 b2 (b3 + (1 : Int32)) z8 _ _ _ (lv_sub hl [1, 2, 3, 0] rfl) hw h
        · replace h := p_f hc h
          refine lv_iload_n hx hb dX3_overtakes_72 rfl (lv_at hl 3 rfl) ?_
          replace h := Option.some.inj h
          subst h
          exact w_iret C hw (v := b3) rfl rfl dX3_overtakes_73
  have B27 : ∀  (x : St) (H : Heap) (locs : List Loc) (ls : Array Slot), lv_has ls 4 [(0, .ref (gq G 0))] → Wd G s x m H locs → f3_overtakes_b27 x = some r → W p l e (rmF 5 122) s mm args below meth c H locs 0 0 (QE below G (some (.int r.1)) r.2 m args s) (F0 mm 27 ls []) := by
    intro  x H locs ls hl hw h
    unfold f3_overtakes_b27 at h
    refine lv_aload_n hx hb dX3_overtakes_27 rfl (lv_at hl 0 rfl) ?_
    refine lv_ldc hx hb hown (C.w kc_X3_48) dX3_overtakes_28 ?_
    obtain ⟨⟨v3, z2⟩, hq, h⟩ := p_bd h
    dsimp only at h
    refine w_Vi C hw (As := [.int (-1000001 : Int32)]) (rest := []) (c3_finding l G x m (-1000001 : Int32) (v3, z2) hq) kv_X3_finding ml_X3_49 ⟨rfl, rfl⟩ ⟨Nat.le_of_ble_eq_true rfl, Nat.le_of_ble_eq_true rfl⟩ ⟨Nat.zero_le _, Nat.zero_le _⟩ (w_recv C hw (wk_main G x m) rfl) rfl rfl (Nat.le_of_ble_eq_true rfl) (lv_sub hl [] rfl) dX3_overtakes_30 (fun H locs hw => ?_)
    replace h := Option.some.inj h
    subst h
    exact w_iret C hw (v := v3) rfl rfl dX3_overtakes_33
  unfold f3_overtakes at h
  refine lv_aload_n hx hb dX3_overtakes_0 rfl (lv_at hl 0 rfl) ?_
  refine w_get C hw (v := .ref (gq G (1 + 4 * 0))) (k := 0) (wk_main G x m) rfl it_3 (by decide) fl_X3_10 rfl dX3_overtakes_1 ?_
  refine lv_iload_n hx hb dX3_overtakes_4 rfl (lv_at hl 1 rfl) ?_
  refine w_Vi C hw (As := [.int a1]) (rest := []) (c2_hasWhisper l G 0 (by decide) x m a1 _ rfl) kv_X2_hasWhisper ml_X3_89 ⟨rfl, rfl⟩ ⟨Nat.le_of_ble_eq_true rfl, Nat.le_of_ble_eq_true rfl⟩ ⟨Nat.zero_le _, Nat.zero_le _⟩ (w_recv C hw (wk_town G x m (by decide)) rfl) rfl rfl (Nat.le_of_ble_eq_true rfl) (lv_sub hl [] rfl) dX3_overtakes_5 (fun H locs hw => ?_)
  refine lv_if_eq (tgt := 27) hx hb dX3_overtakes_8 (by decide) (fun hc => ?_) (fun hc => ?_)
  · replace h := p_t hc h
    exact B27 x _ _ _ (lv_sub hl [0] rfl) hw h
  · replace h := p_f hc h
    refine lv_aload_n hx hb dX3_overtakes_11 rfl (lv_at hl 0 rfl) ?_
    refine w_get C hw (v := .ref (gq G (1 + 4 * 0))) (k := 0) (wk_main G x m) rfl it_3 (by decide) fl_X3_10 rfl dX3_overtakes_12 ?_
    refine lv_iload_n hx hb dX3_overtakes_15 rfl (lv_at hl 2 rfl) ?_
    refine w_Vi C hw (As := [.int a2]) (rest := []) (c2_hasWhisper l G 0 (by decide) x m a2 _ rfl) kv_X2_hasWhisper ml_X3_89 ⟨rfl, rfl⟩ ⟨Nat.le_of_ble_eq_true rfl, Nat.le_of_ble_eq_true rfl⟩ ⟨Nat.zero_le _, Nat.zero_le _⟩ (w_recv C hw (wk_town G x m (by decide)) rfl) rfl rfl (Nat.le_of_ble_eq_true rfl) (lv_sub hl [] rfl) dX3_overtakes_16 (fun H locs hw => ?_)
    refine lv_if_eq (tgt := 27) hx hb dX3_overtakes_19 (by decide) (fun hc => ?_) (fun hc => ?_)
    · replace h := p_t hc h
      exact B27 x _ _ _ (lv_sub hl [0] rfl) hw h
    · replace h := p_f hc h
      refine lv_iload_n hx hb dX3_overtakes_22 rfl (lv_at hl 1 rfl) ?_
      refine lv_iload_n hx hb dX3_overtakes_23 rfl (lv_at hl 2 rfl) ?_
      refine lv_icmp_ne (tgt := 34) hx hb dX3_overtakes_24 (by decide) (fun hc => ?_) (fun hc => ?_)
      · replace h := p_f hc h
        refine lv_aload_n hx hb dX3_overtakes_34 rfl (lv_at hl 0 rfl) ?_
        refine w_get C hw (v := .ref (gq G (1 + 4 * 2))) (k := 2) (wk_main G x m) rfl it_3 (by decide) fl_X3_19 rfl dX3_overtakes_35 ?_
        refine lv_aload_n hx hb dX3_overtakes_38 rfl (lv_at hl 0 rfl) ?_
        refine w_get C hw (v := .ref (gq G (1 + 4 * 0))) (k := 0) (wk_main G x m) rfl it_3 (by decide) fl_X3_10 rfl dX3_overtakes_39 ?_
        obtain ⟨z1, hq, h⟩ := p_bd h
        refine w_Vv C hw (As := [.ref (gq G (1 + 4 * 0))]) (rest := []) (c2_become l G 2 (by decide) 0 (by decide) x m z1 hq) kv_X2_become ml_X3_143 ⟨rfl, rfl⟩ ⟨Nat.le_of_ble_eq_true rfl, Nat.le_of_ble_eq_true rfl⟩ ⟨Nat.zero_le _, Nat.zero_le _⟩ (w_recv C hw (wk_town G x m (by decide)) rfl) rfl rfl (Nat.le_of_ble_eq_true rfl) (lv_sub hl [] rfl) dX3_overtakes_42 (fun H locs hw => ?_)
        refine lv_iconst (v := (0 : Int32)) hx hb dX3_overtakes_45 (by decide) ?_
        refine lv_istore_n (lv' := [(3, .int (0 : Int32)), (0, .ref (gq G 0)), (1, .int a1), (2, .int a2)]) hx hb dX3_overtakes_46 rfl hl (by decide) rfl (fun ls hl => ?_)
        exact L47 fu a1 a2 (0 : Int32) z1 _ _ _ (lv_sub hl [1, 2, 3, 0] rfl) hw h
      · replace h := p_t hc h
        exact B27 x _ _ _ (lv_sub hl [0] rfl) hw h

def f3_kindFor_b78  (k27 : Int32 → Int32 → Int32 → Int32 → St → Option (Int32 × St)) (b1 : Int32) (b2 : Int32) (b3 : Int32) (b4 : Int32) (x : St) : Option (Int32 × St) :=
  k27 b1 b2 b3 (b4 + (1 : Int32)) x
def f3_kindFor_L27   : Nat → Int32 → Int32 → Int32 → Int32 → St → Option (Int32 × St)
  | 0, _, _, _, _, _ => none
  | n + 1, b1, b2, b3, b4, x =>
    if (7 : Int32) ≤ b4 then
      if b2 = (-1000004 : Int32) then
        (f3_finding (-1000004 : Int32) x).bind fun q => match q with
        | (v4, z3) =>
          some (v4, z3)
      else
        some (b2, x)
    else
      (f2_become 2 0 x).bind fun z5 =>
      (f2_setQuality 2 b1 (0 : Int32) b4 z5).bind fun z6 =>
      (f2_minutesToHarbour 2 b1 z6).bind fun q => match q with
      | (v8, z7) =>
        if b3 ≤ v8 then
          f3_kindFor_b78 (f3_kindFor_L27 n) b1 b2 b3 b4 z7
        else
          f3_kindFor_b78 (f3_kindFor_L27 n) b1 b4 v8 b4 z7
theorem f3_kindFor_L27_0   (b1 : Int32) (b2 : Int32) (b3 : Int32) (b4 : Int32) (x : St) : f3_kindFor_L27  0 b1 b2 b3 b4 x = none := rfl
theorem f3_kindFor_L27_s   (n : Nat) (b1 : Int32) (b2 : Int32) (b3 : Int32) (b4 : Int32) (x : St) : f3_kindFor_L27  (n + 1) b1 b2 b3 b4 x =
    if (7 : Int32) ≤ b4 then
      if b2 = (-1000004 : Int32) then
        (f3_finding (-1000004 : Int32) x).bind fun q => match q with
        | (v4, z3) =>
          some (v4, z3)
      else
        some (b2, x)
    else
      (f2_become 2 0 x).bind fun z5 =>
      (f2_setQuality 2 b1 (0 : Int32) b4 z5).bind fun z6 =>
      (f2_minutesToHarbour 2 b1 z6).bind fun q => match q with
      | (v8, z7) =>
        if b3 ≤ v8 then
          f3_kindFor_b78 (f3_kindFor_L27 n) b1 b2 b3 b4 z7
        else
          f3_kindFor_b78 (f3_kindFor_L27 n) b1 b4 v8 b4 z7 := rfl
def f3_kindFor  (a1 : Int32) (x : St) : Option (Int32 × St) :=
  if (f2_hasWhisper 0 a1 x) = 0 then
    (f3_finding (-1000001 : Int32) x).bind fun q => match q with
    | (v2, z1) =>
      some (v2, z1)
  else
    f3_kindFor_L27 fu a1 (-1000004 : Int32) (101 : Int32) (0 : Int32) x
set_option maxHeartbeats 4000000 in
set_option maxRecDepth 100000 in
theorem c3_kindFor (l : Launch) (G : GT)  (x m : St) (a1 : Int32) (r : Int32 × St) (h : f3_kindFor a1 x = some r) : Mt l yX3_kindFor cX3_kindFor 6 (some .int) (rmF 5 120) G x m [.ref (gq G 0), .int a1] (some (.int r.1)) r.2 m := by
  refine Mt.of (by decide) (Nat.le_of_ble_eq_true rfl) ?_
  intro p e s mm args below meth c C ls hl hw
  have hx := C.1
  have hb := C.2.1
  have hown := C.2.2.2.2.1
  replace hl : lv_has ls 6 [(0, .ref (gq G 0)), (1, .int a1)] := hl
  have L27 : ∀ (n27 : Nat) (b1 : Int32) (b2 : Int32) (b3 : Int32) (b4 : Int32) (x : St) (H : Heap) (locs : List Loc) (ls : Array Slot), lv_has ls 6 [(0, .ref (gq G 0)), (1, .int b1), (2, .int b2), (3, .int b3), (4, .int b4)] → Wd G s x m H locs → f3_kindFor_L27 n27 b1 b2 b3 b4 x = some r → W p l e (rmF 5 120) s mm args below meth c H locs 0 0 (QE below G (some (.int r.1)) r.2 m args s) (F0 mm 27 ls []) := by
    intro n27
    induction n27 with
    | zero =>
      intro b1 b2 b3 b4 x H locs ls hl hw h
      rw [f3_kindFor_L27_0] at h
      exact absurd h.symm (Option.some_ne_none _)
    | succ n27 ih27 =>
      have B78 : ∀ (b1 : Int32) (b2 : Int32) (b3 : Int32) (b4 : Int32) (x : St) (H : Heap) (locs : List Loc) (ls : Array Slot), lv_has ls 6 [(0, .ref (gq G 0)), (1, .int b1), (2, .int b2), (3, .int b3), (4, .int b4)] → Wd G s x m H locs → f3_kindFor_b78 (f3_kindFor_L27 n27) b1 b2 b3 b4 x = some r → W p l e (rmF 5 120) s mm args below meth c H locs 0 0 (QE below G (some (.int r.1)) r.2 m args s) (F0 mm 78 ls []) := by
        intro b1 b2 b3 b4 x H locs ls hl hw h
        unfold f3_kindFor_b78 at h
        refine lv_iinc (v := (b4 + (1 : Int32))) (lv' := [(4, .int (b4 + (1 : Int32))), (0, .ref (gq G 0)), (1, .int b1), (2, .int b2), (3, .int b3)]) hx hb dX3_kindFor_78 hl (k := 4) rfl rfl (by decide) rfl (fun ls hl => ?_)
        refine lv_goto (tgt := 27) hx hb dX3_kindFor_81 (by decide) ?_
        exact ih27 b1 b2 b3 (b4 + (1 : Int32)) x _ _ _ (lv_sub hl [1, 2, 3, 4, 0] rfl) hw h
      intro b1 b2 b3 b4 x H locs ls hl hw h
      rw [f3_kindFor_L27_s] at h
      refine lv_iload hx hb dX3_kindFor_27 (lv_at hl 4 rfl) ?_
      refine lv_bipush (v := (7 : Int32)) hx hb dX3_kindFor_29 (by decide) ?_
      refine lv_icmp_ge (tgt := 84) hx hb dX3_kindFor_31 (by decide) (fun hc => ?_) (fun hc => ?_)
      · replace h := p_t hc h
        refine lv_iload_n hx hb dX3_kindFor_84 rfl (lv_at hl 2 rfl) ?_
        refine lv_ldc hx hb hown (C.w kc_X3_138) dX3_kindFor_85 ?_
        refine lv_icmp_ne (tgt := 99) hx hb dX3_kindFor_87 (by decide) (fun hc => ?_) (fun hc => ?_)
        · replace h := p_f hc h
          refine lv_iload_n hx hb dX3_kindFor_99 rfl (lv_at hl 2 rfl) ?_
          replace h := Option.some.inj h
          subst h
          exact w_iret C hw (v := b2) rfl rfl dX3_kindFor_100
        · replace h := p_t hc h
          refine lv_aload_n hx hb dX3_kindFor_90 rfl (lv_at hl 0 rfl) ?_
          refine lv_ldc hx hb hown (C.w kc_X3_138) dX3_kindFor_91 ?_
          obtain ⟨⟨v4, z3⟩, hq, h⟩ := p_bd h
          dsimp only at h
          refine w_Vi C hw (As := [.int (-1000004 : Int32)]) (rest := []) (c3_finding l G x m (-1000004 : Int32) (v4, z3) hq) kv_X3_finding ml_X3_49 ⟨rfl, rfl⟩ ⟨Nat.le_of_ble_eq_true rfl, Nat.le_of_ble_eq_true rfl⟩ ⟨Nat.zero_le _, Nat.zero_le _⟩ (w_recv C hw (wk_main G x m) rfl) rfl rfl (Nat.le_of_ble_eq_true rfl) (lv_sub hl [] rfl) dX3_kindFor_93 (fun H locs hw => ?_)
          refine lv_goto (tgt := 100) hx hb dX3_kindFor_96 (by decide) ?_
          replace h := Option.some.inj h
          subst h
          exact w_iret C hw (v := v4) rfl rfl dX3_kindFor_100
      · replace h := p_f hc h
        refine lv_aload_n hx hb dX3_kindFor_34 rfl (lv_at hl 0 rfl) ?_
        refine w_get C hw (v := .ref (gq G (1 + 4 * 2))) (k := 2) (wk_main G x m) rfl it_3 (by decide) fl_X3_19 rfl dX3_kindFor_35 ?_
        refine lv_aload_n hx hb dX3_kindFor_38 rfl (lv_at hl 0 rfl) ?_
        refine w_get C hw (v := .ref (gq G (1 + 4 * 0))) (k := 0) (wk_main G x m) rfl it_3 (by decide) fl_X3_10 rfl dX3_kindFor_39 ?_
        obtain ⟨z5, hq, h⟩ := p_bd h
        refine w_Vv C hw (As := [.ref (gq G (1 + 4 * 0))]) (rest := []) (c2_become l G 2 (by decide) 0 (by decide) x m z5 hq) kv_X2_become ml_X3_143 ⟨rfl, rfl⟩ ⟨Nat.le_of_ble_eq_true rfl, Nat.le_of_ble_eq_true rfl⟩ ⟨Nat.zero_le _, Nat.zero_le _⟩ (w_recv C hw (wk_town G x m (by decide)) rfl) rfl rfl (Nat.le_of_ble_eq_true rfl) (lv_sub hl [] rfl) dX3_kindFor_42 (fun H locs hw => ?_)
        refine lv_aload_n hx hb dX3_kindFor_45 rfl (lv_at hl 0 rfl) ?_
        refine w_get C hw (v := .ref (gq G (1 + 4 * 2))) (k := 2) (wk_main G z5 m) rfl it_3 (by decide) fl_X3_19 rfl dX3_kindFor_46 ?_
        refine lv_iload_n hx hb dX3_kindFor_49 rfl (lv_at hl 1 rfl) ?_
        refine lv_iconst (v := (0 : Int32)) hx hb dX3_kindFor_50 (by decide) ?_
        refine lv_iload hx hb dX3_kindFor_51 (lv_at hl 4 rfl) ?_
        obtain ⟨z6, hq, h⟩ := p_bd h
        refine w_Vv C hw (As := [.int b1, .int (0 : Int32), .int b4]) (rest := []) (c2_setQuality l G 2 (by decide) z5 m b1 (0 : Int32) b4 z6 hq) kv_X2_setQuality ml_X3_104 ⟨rfl, rfl⟩ ⟨Nat.le_of_ble_eq_true rfl, Nat.le_of_ble_eq_true rfl⟩ ⟨Nat.zero_le _, Nat.zero_le _⟩ (w_recv C hw (wk_town G z5 m (by decide)) rfl) rfl rfl (Nat.le_of_ble_eq_true rfl) (lv_sub hl [] rfl) dX3_kindFor_53 (fun H locs hw => ?_)
        refine lv_aload_n hx hb dX3_kindFor_56 rfl (lv_at hl 0 rfl) ?_
        refine w_get C hw (v := .ref (gq G (1 + 4 * 2))) (k := 2) (wk_main G z6 m) rfl it_3 (by decide) fl_X3_19 rfl dX3_kindFor_57 ?_
        refine lv_iload_n hx hb dX3_kindFor_60 rfl (lv_at hl 1 rfl) ?_
        obtain ⟨⟨v8, z7⟩, hq, h⟩ := p_bd h
        dsimp only at h
        refine w_Vi C hw (As := [.int b1]) (rest := []) (c2_minutesToHarbour l G 2 (by decide) z6 m b1 (v8, z7) hq) kv_X2_minutesToHarbour ml_X3_147 ⟨rfl, rfl⟩ ⟨Nat.le_of_ble_eq_true rfl, Nat.le_of_ble_eq_true rfl⟩ ⟨Nat.zero_le _, Nat.zero_le _⟩ (w_recv C hw (wk_town G z6 m (by decide)) rfl) rfl rfl (Nat.le_of_ble_eq_true rfl) (lv_sub hl [] rfl) dX3_kindFor_61 (fun H locs hw => ?_)
        refine lv_istore (lv' := [(5, .int v8), (0, .ref (gq G 0)), (1, .int b1), (2, .int b2), (3, .int b3), (4, .int b4)]) hx hb dX3_kindFor_64 hl (by decide) rfl (fun ls hl => ?_)
        refine lv_iload hx hb dX3_kindFor_66 (lv_at hl 0 rfl) ?_
        refine lv_iload_n hx hb dX3_kindFor_68 rfl (lv_at hl 4 rfl) ?_
        refine lv_icmp_ge (tgt := 78) hx hb dX3_kindFor_69 (by decide) (fun hc => ?_) (fun hc => ?_)
        · replace h := p_t hc h
          exact B78 b1 b2 b3 b4 z7 _ _ _ (lv_sub hl [1, 2, 3, 4, 5] rfl) hw h
        · replace h := p_f hc h
          refine lv_iload hx hb dX3_kindFor_72 (lv_at hl 0 rfl) ?_
          refine lv_istore_n (lv' := [(3, .int v8), (5, .int v8), (0, .ref (gq G 0)), (1, .int b1), (2, .int b2), (4, .int b4)]) hx hb dX3_kindFor_74 rfl hl (by decide) rfl (fun ls hl => ?_)
          refine lv_iload hx hb dX3_kindFor_75 (lv_at hl 5 rfl) ?_
          refine lv_istore_n (lv' := [(2, .int b4), (3, .int v8), (5, .int v8), (0, .ref (gq G 0)), (1, .int b1), (4, .int b4)]) hx hb dX3_kindFor_77 rfl hl (by decide) rfl (fun ls hl => ?_)
          exact B78 b1 b4 v8 b4 z7 _ _ _ (lv_sub hl [3, 4, 0, 1, 5] rfl) hw h
  unfold f3_kindFor at h
  refine lv_aload_n hx hb dX3_kindFor_0 rfl (lv_at hl 0 rfl) ?_
  refine w_get C hw (v := .ref (gq G (1 + 4 * 0))) (k := 0) (wk_main G x m) rfl it_3 (by decide) fl_X3_10 rfl dX3_kindFor_1 ?_
  refine lv_iload_n hx hb dX3_kindFor_4 rfl (lv_at hl 1 rfl) ?_
  refine w_Vi C hw (As := [.int a1]) (rest := []) (c2_hasWhisper l G 0 (by decide) x m a1 _ rfl) kv_X2_hasWhisper ml_X3_89 ⟨rfl, rfl⟩ ⟨Nat.le_of_ble_eq_true rfl, Nat.le_of_ble_eq_true rfl⟩ ⟨Nat.zero_le _, Nat.zero_le _⟩ (w_recv C hw (wk_town G x m (by decide)) rfl) rfl rfl (Nat.le_of_ble_eq_true rfl) (lv_sub hl [] rfl) dX3_kindFor_5 (fun H locs hw => ?_)
  refine lv_if_ne (tgt := 18) hx hb dX3_kindFor_8 (by decide) (fun hc => ?_) (fun hc => ?_)
  · replace h := p_f hc h
    refine lv_ldc hx hb hown (C.w kc_X3_138) dX3_kindFor_18 ?_
    refine lv_istore_n (lv' := [(2, .int (-1000004 : Int32)), (0, .ref (gq G 0)), (1, .int a1)]) hx hb dX3_kindFor_20 rfl hl (by decide) rfl (fun ls hl => ?_)
    refine lv_bipush (v := (101 : Int32)) hx hb dX3_kindFor_21 (by decide) ?_
    refine lv_istore_n (lv' := [(3, .int (101 : Int32)), (2, .int (-1000004 : Int32)), (0, .ref (gq G 0)), (1, .int a1)]) hx hb dX3_kindFor_23 rfl hl (by decide) rfl (fun ls hl => ?_)
    refine lv_iconst (v := (0 : Int32)) hx hb dX3_kindFor_24 (by decide) ?_
    refine lv_istore (lv' := [(4, .int (0 : Int32)), (3, .int (101 : Int32)), (2, .int (-1000004 : Int32)), (0, .ref (gq G 0)), (1, .int a1)]) hx hb dX3_kindFor_25 hl (by decide) rfl (fun ls hl => ?_)
    exact L27 fu a1 (-1000004 : Int32) (101 : Int32) (0 : Int32) x _ _ _ (lv_sub hl [3, 4, 2, 1, 0] rfl) hw h
  · replace h := p_t hc h
    refine lv_aload_n hx hb dX3_kindFor_11 rfl (lv_at hl 0 rfl) ?_
    refine lv_ldc hx hb hown (C.w kc_X3_48) dX3_kindFor_12 ?_
    obtain ⟨⟨v2, z1⟩, hq, h⟩ := p_bd h
    dsimp only at h
    refine w_Vi C hw (As := [.int (-1000001 : Int32)]) (rest := []) (c3_finding l G x m (-1000001 : Int32) (v2, z1) hq) kv_X3_finding ml_X3_49 ⟨rfl, rfl⟩ ⟨Nat.le_of_ble_eq_true rfl, Nat.le_of_ble_eq_true rfl⟩ ⟨Nat.zero_le _, Nat.zero_le _⟩ (w_recv C hw (wk_main G x m) rfl) rfl rfl (Nat.le_of_ble_eq_true rfl) (lv_sub hl [] rfl) dX3_kindFor_14 (fun H locs hw => ?_)
    replace h := Option.some.inj h
    subst h
    exact w_iret C hw (v := v2) rfl rfl dX3_kindFor_17

def f3_goesBy  (a1 : Int32) (x : St) : Option (Int32 × St) :=
  if (f2_hasWhisper 0 a1 x) = 0 then
    (f3_finding (-1000001 : Int32) x).bind fun q => match q with
    | (v5, z4) =>
      some (v5, z4)
  else
    (f2_become 2 0 x).bind fun z1 =>
    (f2_wayOf 2 a1 (100 : Int32) z1).bind fun q => match q with
    | (v3, z2) =>
      some (v3, z2)
set_option maxHeartbeats 4000000 in
set_option maxRecDepth 100000 in
theorem c3_goesBy (l : Launch) (G : GT)  (x m : St) (a1 : Int32) (r : Int32 × St) (h : f3_goesBy a1 x = some r) : Mt l yX3_goesBy cX3_goesBy 2 (some .int) (rmF 5 123) G x m [.ref (gq G 0), .int a1] (some (.int r.1)) r.2 m := by
  refine Mt.of (by decide) (Nat.le_of_ble_eq_true rfl) ?_
  intro p e s mm args below meth c C ls hl hw
  have hx := C.1
  have hb := C.2.1
  have hown := C.2.2.2.2.1
  replace hl : lv_has ls 2 [(0, .ref (gq G 0)), (1, .int a1)] := hl
  unfold f3_goesBy at h
  refine lv_aload_n hx hb dX3_goesBy_0 rfl (lv_at hl 0 rfl) ?_
  refine w_get C hw (v := .ref (gq G (1 + 4 * 0))) (k := 0) (wk_main G x m) rfl it_3 (by decide) fl_X3_10 rfl dX3_goesBy_1 ?_
  refine lv_iload_n hx hb dX3_goesBy_4 rfl (lv_at hl 1 rfl) ?_
  refine w_Vi C hw (As := [.int a1]) (rest := []) (c2_hasWhisper l G 0 (by decide) x m a1 _ rfl) kv_X2_hasWhisper ml_X3_89 ⟨rfl, rfl⟩ ⟨Nat.le_of_ble_eq_true rfl, Nat.le_of_ble_eq_true rfl⟩ ⟨Nat.zero_le _, Nat.zero_le _⟩ (w_recv C hw (wk_town G x m (by decide)) rfl) rfl rfl (Nat.le_of_ble_eq_true rfl) (lv_sub hl [] rfl) dX3_goesBy_5 (fun H locs hw => ?_)
  refine lv_if_ne (tgt := 18) hx hb dX3_goesBy_8 (by decide) (fun hc => ?_) (fun hc => ?_)
  · replace h := p_f hc h
    refine lv_aload_n hx hb dX3_goesBy_18 rfl (lv_at hl 0 rfl) ?_
    refine w_get C hw (v := .ref (gq G (1 + 4 * 2))) (k := 2) (wk_main G x m) rfl it_3 (by decide) fl_X3_19 rfl dX3_goesBy_19 ?_
    refine lv_aload_n hx hb dX3_goesBy_22 rfl (lv_at hl 0 rfl) ?_
    refine w_get C hw (v := .ref (gq G (1 + 4 * 0))) (k := 0) (wk_main G x m) rfl it_3 (by decide) fl_X3_10 rfl dX3_goesBy_23 ?_
    obtain ⟨z1, hq, h⟩ := p_bd h
    refine w_Vv C hw (As := [.ref (gq G (1 + 4 * 0))]) (rest := []) (c2_become l G 2 (by decide) 0 (by decide) x m z1 hq) kv_X2_become ml_X3_143 ⟨rfl, rfl⟩ ⟨Nat.le_of_ble_eq_true rfl, Nat.le_of_ble_eq_true rfl⟩ ⟨Nat.zero_le _, Nat.zero_le _⟩ (w_recv C hw (wk_town G x m (by decide)) rfl) rfl rfl (Nat.le_of_ble_eq_true rfl) (lv_sub hl [] rfl) dX3_goesBy_26 (fun H locs hw => ?_)
    refine lv_aload_n hx hb dX3_goesBy_29 rfl (lv_at hl 0 rfl) ?_
    refine w_get C hw (v := .ref (gq G (1 + 4 * 2))) (k := 2) (wk_main G z1 m) rfl it_3 (by decide) fl_X3_19 rfl dX3_goesBy_30 ?_
    refine lv_iload_n hx hb dX3_goesBy_33 rfl (lv_at hl 1 rfl) ?_
    refine lv_bipush (v := (100 : Int32)) hx hb dX3_goesBy_34 (by decide) ?_
    obtain ⟨⟨v3, z2⟩, hq, h⟩ := p_bd h
    dsimp only at h
    refine w_Vi C hw (As := [.int a1, .int (100 : Int32)]) (rest := []) (c2_wayOf l G 2 (by decide) z1 m a1 (100 : Int32) (v3, z2) hq) kv_X2_wayOf ml_X3_158 ⟨rfl, rfl⟩ ⟨Nat.le_of_ble_eq_true rfl, Nat.le_of_ble_eq_true rfl⟩ ⟨Nat.zero_le _, Nat.zero_le _⟩ (w_recv C hw (wk_town G z1 m (by decide)) rfl) rfl rfl (Nat.le_of_ble_eq_true rfl) (lv_sub hl [] rfl) dX3_goesBy_36 (fun H locs hw => ?_)
    replace h := Option.some.inj h
    subst h
    exact w_iret C hw (v := v3) rfl rfl dX3_goesBy_39
  · replace h := p_t hc h
    refine lv_aload_n hx hb dX3_goesBy_11 rfl (lv_at hl 0 rfl) ?_
    refine lv_ldc hx hb hown (C.w kc_X3_48) dX3_goesBy_12 ?_
    obtain ⟨⟨v5, z4⟩, hq, h⟩ := p_bd h
    dsimp only at h
    refine w_Vi C hw (As := [.int (-1000001 : Int32)]) (rest := []) (c3_finding l G x m (-1000001 : Int32) (v5, z4) hq) kv_X3_finding ml_X3_49 ⟨rfl, rfl⟩ ⟨Nat.le_of_ble_eq_true rfl, Nat.le_of_ble_eq_true rfl⟩ ⟨Nat.zero_le _, Nat.zero_le _⟩ (w_recv C hw (wk_main G x m) rfl) rfl rfl (Nat.le_of_ble_eq_true rfl) (lv_sub hl [] rfl) dX3_goesBy_14 (fun H locs hw => ?_)
    replace h := Option.some.inj h
    subst h
    exact w_iret C hw (v := v5) rfl rfl dX3_goesBy_17

def f3_goodPlaces_b71  (k6 : Int32 → Int32 → Int32 → Int32 → Int32 → St → Option (Int32 × St)) (b1 : Int32) (b2 : Int32) (b3 : Int32) (b4 : Int32) (b5 : Int32) (x : St) : Option (Int32 × St) :=
  k6 b1 b2 b3 b4 (b5 + (1 : Int32)) x
def f3_goodPlaces_L6   : Nat → Int32 → Int32 → Int32 → Int32 → Int32 → St → Option (Int32 × St)
  | 0, _, _, _, _, _, _ => none
  | n + 1, b1, b2, b3, b4, b5, x =>
    if (16 : Int32) ≤ b5 then
      some (b4, x)
    else
      (f2_become 2 0 x).bind fun z1 =>
      (f2_setQuality 2 b1 (1 : Int32) b5 z1).bind fun z2 =>
      (f2_wayOf 2 b1 (100 : Int32) z2).bind fun q => match q with
      | (v4, z3) =>
        if (v4 &&& b2) = b2 then
          if (v4 &&& b3) = 0 then
            f3_goodPlaces_b71 (f3_goodPlaces_L6 n) b1 b2 b3 (b4 ||| ((1 : Int32) <<< (b5 &&& 31))) b5 z3
          else
            f3_goodPlaces_b71 (f3_goodPlaces_L6 n) b1 b2 b3 b4 b5 z3
        else
          f3_goodPlaces_b71 (f3_goodPlaces_L6 n) b1 b2 b3 b4 b5 z3
theorem f3_goodPlaces_L6_0   (b1 : Int32) (b2 : Int32) (b3 : Int32) (b4 : Int32) (b5 : Int32) (x : St) : f3_goodPlaces_L6  0 b1 b2 b3 b4 b5 x = none := rfl
theorem f3_goodPlaces_L6_s   (n : Nat) (b1 : Int32) (b2 : Int32) (b3 : Int32) (b4 : Int32) (b5 : Int32) (x : St) : f3_goodPlaces_L6  (n + 1) b1 b2 b3 b4 b5 x =
    if (16 : Int32) ≤ b5 then
      some (b4, x)
    else
      (f2_become 2 0 x).bind fun z1 =>
      (f2_setQuality 2 b1 (1 : Int32) b5 z1).bind fun z2 =>
      (f2_wayOf 2 b1 (100 : Int32) z2).bind fun q => match q with
      | (v4, z3) =>
        if (v4 &&& b2) = b2 then
          if (v4 &&& b3) = 0 then
            f3_goodPlaces_b71 (f3_goodPlaces_L6 n) b1 b2 b3 (b4 ||| ((1 : Int32) <<< (b5 &&& 31))) b5 z3
          else
            f3_goodPlaces_b71 (f3_goodPlaces_L6 n) b1 b2 b3 b4 b5 z3
        else
          f3_goodPlaces_b71 (f3_goodPlaces_L6 n) b1 b2 b3 b4 b5 z3 := rfl
def f3_goodPlaces  (a1 : Int32) (a2 : Int32) (a3 : Int32) (x : St) : Option (Int32 × St) :=
  f3_goodPlaces_L6 fu a1 a2 a3 (0 : Int32) (0 : Int32) x
set_option maxHeartbeats 4000000 in
set_option maxRecDepth 100000 in
theorem c3_goodPlaces (l : Launch) (G : GT)  (x m : St) (a1 : Int32) (a2 : Int32) (a3 : Int32) (r : Int32 × St) (h : f3_goodPlaces a1 a2 a3 x = some r) : Mt l yX3_goodPlaces cX3_goodPlaces 7 (some .int) (rmF 5 123) G x m [.ref (gq G 0), .int a1, .int a2, .int a3] (some (.int r.1)) r.2 m := by
  refine Mt.of (by decide) (Nat.le_of_ble_eq_true rfl) ?_
  intro p e s mm args below meth c C ls hl hw
  have hx := C.1
  have hb := C.2.1
  have hown := C.2.2.2.2.1
  replace hl : lv_has ls 7 [(0, .ref (gq G 0)), (1, .int a1), (2, .int a2), (3, .int a3)] := hl
  have L6 : ∀ (n6 : Nat) (b1 : Int32) (b2 : Int32) (b3 : Int32) (b4 : Int32) (b5 : Int32) (x : St) (H : Heap) (locs : List Loc) (ls : Array Slot), lv_has ls 7 [(0, .ref (gq G 0)), (1, .int b1), (2, .int b2), (3, .int b3), (4, .int b4), (5, .int b5)] → Wd G s x m H locs → f3_goodPlaces_L6 n6 b1 b2 b3 b4 b5 x = some r → W p l e (rmF 5 123) s mm args below meth c H locs 0 0 (QE below G (some (.int r.1)) r.2 m args s) (F0 mm 6 ls []) := by
    intro n6
    induction n6 with
    | zero =>
      intro b1 b2 b3 b4 b5 x H locs ls hl hw h
      rw [f3_goodPlaces_L6_0] at h
      exact absurd h.symm (Option.some_ne_none _)
    | succ n6 ih6 =>
      have B71 : ∀ (b1 : Int32) (b2 : Int32) (b3 : Int32) (b4 : Int32) (b5 : Int32) (x : St) (H : Heap) (locs : List Loc) (ls : Array Slot), lv_has ls 7 [(0, .ref (gq G 0)), (1, .int b1), (2, .int b2), (3, .int b3), (4, .int b4), (5, .int b5)] → Wd G s x m H locs → f3_goodPlaces_b71 (f3_goodPlaces_L6 n6) b1 b2 b3 b4 b5 x = some r → W p l e (rmF 5 123) s mm args below meth c H locs 0 0 (QE below G (some (.int r.1)) r.2 m args s) (F0 mm 71 ls []) := by
        intro b1 b2 b3 b4 b5 x H locs ls hl hw h
        unfold f3_goodPlaces_b71 at h
        refine lv_iinc (v := (b5 + (1 : Int32))) (lv' := [(5, .int (b5 + (1 : Int32))), (0, .ref (gq G 0)), (1, .int b1), (2, .int b2), (3, .int b3), (4, .int b4)]) hx hb dX3_goodPlaces_71 hl (k := 5) rfl rfl (by decide) rfl (fun ls hl => ?_)
        refine lv_goto (tgt := 6) hx hb dX3_goodPlaces_74 (by decide) ?_
        exact ih6 b1 b2 b3 b4 (b5 + (1 : Int32)) x _ _ _ (lv_sub hl [1, 2, 3, 4, 5, 0] rfl) hw h
      intro b1 b2 b3 b4 b5 x H locs ls hl hw h
      rw [f3_goodPlaces_L6_s] at h
      refine lv_iload hx hb dX3_goodPlaces_6 (lv_at hl 5 rfl) ?_
      refine lv_bipush (v := (16 : Int32)) hx hb dX3_goodPlaces_8 (by decide) ?_
      refine lv_icmp_ge (tgt := 77) hx hb dX3_goodPlaces_10 (by decide) (fun hc => ?_) (fun hc => ?_)
      · replace h := p_t hc h
        refine lv_iload hx hb dX3_goodPlaces_77 (lv_at hl 4 rfl) ?_
        replace h := Option.some.inj h
        subst h
        exact w_iret C hw (v := b4) rfl rfl dX3_goodPlaces_79
      · replace h := p_f hc h
        refine lv_aload_n hx hb dX3_goodPlaces_13 rfl (lv_at hl 0 rfl) ?_
        refine w_get C hw (v := .ref (gq G (1 + 4 * 2))) (k := 2) (wk_main G x m) rfl it_3 (by decide) fl_X3_19 rfl dX3_goodPlaces_14 ?_
        refine lv_aload_n hx hb dX3_goodPlaces_17 rfl (lv_at hl 0 rfl) ?_
        refine w_get C hw (v := .ref (gq G (1 + 4 * 0))) (k := 0) (wk_main G x m) rfl it_3 (by decide) fl_X3_10 rfl dX3_goodPlaces_18 ?_
        obtain ⟨z1, hq, h⟩ := p_bd h
        refine w_Vv C hw (As := [.ref (gq G (1 + 4 * 0))]) (rest := []) (c2_become l G 2 (by decide) 0 (by decide) x m z1 hq) kv_X2_become ml_X3_143 ⟨rfl, rfl⟩ ⟨Nat.le_of_ble_eq_true rfl, Nat.le_of_ble_eq_true rfl⟩ ⟨Nat.zero_le _, Nat.zero_le _⟩ (w_recv C hw (wk_town G x m (by decide)) rfl) rfl rfl (Nat.le_of_ble_eq_true rfl) (lv_sub hl [] rfl) dX3_goodPlaces_21 (fun H locs hw => ?_)
        refine lv_aload_n hx hb dX3_goodPlaces_24 rfl (lv_at hl 0 rfl) ?_
        refine w_get C hw (v := .ref (gq G (1 + 4 * 2))) (k := 2) (wk_main G z1 m) rfl it_3 (by decide) fl_X3_19 rfl dX3_goodPlaces_25 ?_
        refine lv_iload_n hx hb dX3_goodPlaces_28 rfl (lv_at hl 1 rfl) ?_
        refine lv_iconst (v := (1 : Int32)) hx hb dX3_goodPlaces_29 (by decide) ?_
        refine lv_iload hx hb dX3_goodPlaces_30 (lv_at hl 5 rfl) ?_
        obtain ⟨z2, hq, h⟩ := p_bd h
        refine w_Vv C hw (As := [.int b1, .int (1 : Int32), .int b5]) (rest := []) (c2_setQuality l G 2 (by decide) z1 m b1 (1 : Int32) b5 z2 hq) kv_X2_setQuality ml_X3_104 ⟨rfl, rfl⟩ ⟨Nat.le_of_ble_eq_true rfl, Nat.le_of_ble_eq_true rfl⟩ ⟨Nat.zero_le _, Nat.zero_le _⟩ (w_recv C hw (wk_town G z1 m (by decide)) rfl) rfl rfl (Nat.le_of_ble_eq_true rfl) (lv_sub hl [] rfl) dX3_goodPlaces_32 (fun H locs hw => ?_)
        refine lv_aload_n hx hb dX3_goodPlaces_35 rfl (lv_at hl 0 rfl) ?_
        refine w_get C hw (v := .ref (gq G (1 + 4 * 2))) (k := 2) (wk_main G z2 m) rfl it_3 (by decide) fl_X3_19 rfl dX3_goodPlaces_36 ?_
        refine lv_iload_n hx hb dX3_goodPlaces_39 rfl (lv_at hl 1 rfl) ?_
        refine lv_bipush (v := (100 : Int32)) hx hb dX3_goodPlaces_40 (by decide) ?_
        obtain ⟨⟨v4, z3⟩, hq, h⟩ := p_bd h
        dsimp only at h
        refine w_Vi C hw (As := [.int b1, .int (100 : Int32)]) (rest := []) (c2_wayOf l G 2 (by decide) z2 m b1 (100 : Int32) (v4, z3) hq) kv_X2_wayOf ml_X3_158 ⟨rfl, rfl⟩ ⟨Nat.le_of_ble_eq_true rfl, Nat.le_of_ble_eq_true rfl⟩ ⟨Nat.zero_le _, Nat.zero_le _⟩ (w_recv C hw (wk_town G z2 m (by decide)) rfl) rfl rfl (Nat.le_of_ble_eq_true rfl) (lv_sub hl [] rfl) dX3_goodPlaces_42 (fun H locs hw => ?_)
        refine lv_istore (lv' := [(6, .int v4), (0, .ref (gq G 0)), (1, .int b1), (2, .int b2), (3, .int b3), (4, .int b4), (5, .int b5)]) hx hb dX3_goodPlaces_45 hl (by decide) rfl (fun ls hl => ?_)
        refine lv_iload hx hb dX3_goodPlaces_47 (lv_at hl 0 rfl) ?_
        refine lv_iload_n hx hb dX3_goodPlaces_49 rfl (lv_at hl 3 rfl) ?_
        refine lv_iand hx hb dX3_goodPlaces_50 ?_
        refine lv_iload_n hx hb dX3_goodPlaces_51 rfl (lv_at hl 3 rfl) ?_
        refine lv_icmp_ne (tgt := 71) hx hb dX3_goodPlaces_52 (by decide) (fun hc => ?_) (fun hc => ?_)
        · replace h := p_f hc h
          exact B71 b1 b2 b3 b4 b5 z3 _ _ _ (lv_sub hl [1, 2, 3, 4, 5, 6] rfl) hw h
        · replace h := p_t hc h
          refine lv_iload hx hb dX3_goodPlaces_55 (lv_at hl 0 rfl) ?_
          refine lv_iload_n hx hb dX3_goodPlaces_57 rfl (lv_at hl 4 rfl) ?_
          refine lv_iand hx hb dX3_goodPlaces_58 ?_
          refine lv_if_ne (tgt := 71) hx hb dX3_goodPlaces_59 (by decide) (fun hc => ?_) (fun hc => ?_)
          · replace h := p_f hc h
            exact B71 b1 b2 b3 b4 b5 z3 _ _ _ (lv_sub hl [1, 2, 3, 4, 5, 6] rfl) hw h
          · replace h := p_t hc h
            refine lv_iload hx hb dX3_goodPlaces_62 (lv_at hl 5 rfl) ?_
            refine lv_iconst (v := (1 : Int32)) hx hb dX3_goodPlaces_64 (by decide) ?_
            refine lv_iload hx hb dX3_goodPlaces_65 (lv_at hl 6 rfl) ?_
            refine lv_ishl hx hb dX3_goodPlaces_67 ?_
            refine lv_ior hx hb dX3_goodPlaces_68 ?_
            refine lv_istore (lv' := [(4, .int (b4 ||| ((1 : Int32) <<< (b5 &&& 31)))), (6, .int v4), (0, .ref (gq G 0)), (1, .int b1), (2, .int b2), (3, .int b3), (5, .int b5)]) hx hb dX3_goodPlaces_69 hl (by decide) rfl (fun ls hl => ?_)
            exact B71 b1 b2 b3 (b4 ||| ((1 : Int32) <<< (b5 &&& 31))) b5 z3 _ _ _ (lv_sub hl [2, 3, 4, 5, 0, 6] rfl) hw h
  unfold f3_goodPlaces at h
  refine lv_iconst (v := (0 : Int32)) hx hb dX3_goodPlaces_0 (by decide) ?_
  refine lv_istore (lv' := [(4, .int (0 : Int32)), (0, .ref (gq G 0)), (1, .int a1), (2, .int a2), (3, .int a3)]) hx hb dX3_goodPlaces_1 hl (by decide) rfl (fun ls hl => ?_)
  refine lv_iconst (v := (0 : Int32)) hx hb dX3_goodPlaces_3 (by decide) ?_
  refine lv_istore (lv' := [(5, .int (0 : Int32)), (4, .int (0 : Int32)), (0, .ref (gq G 0)), (1, .int a1), (2, .int a2), (3, .int a3)]) hx hb dX3_goodPlaces_4 hl (by decide) rfl (fun ls hl => ?_)
  exact L6 fu a1 a2 a3 (0 : Int32) (0 : Int32) x _ _ _ (lv_sub hl [2, 3, 4, 5, 1, 0] rfl) hw h

def f3_where_b99  (k51 : Int32 → Int32 → Int32 → Int32 → St → Option (Int32 × St)) (b4 : Int32) (b5 : Int32) (b6 : Int32) (b7 : Int32) (x : St) : Option (Int32 × St) :=
  k51 b4 b5 b6 (b7 + (1 : Int32)) x
def f3_where_L51   : Nat → Int32 → Int32 → Int32 → Int32 → St → Option (Int32 × St)
  | 0, _, _, _, _, _ => none
  | n + 1, b4, b5, b6, b7, x =>
    if (16 : Int32) ≤ b7 then
      if b5 = (-1000004 : Int32) then
        (f3_finding (-1000004 : Int32) x).bind fun q => match q with
        | (v6, z5) =>
          some (v6, z5)
      else
        some (b5, x)
    else
      if (f3_isIn b4 b7) = 0 then
        f3_where_b99 (f3_where_L51 n) b4 b5 b6 b7 x
      else
        (f2_trait 0 b7 (0 : Int32) x).bind fun v7 =>
        if v7 ≤ b6 then
          f3_where_b99 (f3_where_L51 n) b4 b5 b6 b7 x
        else
          (f2_trait 0 b7 (0 : Int32) x).bind fun v8 =>
          f3_where_b99 (f3_where_L51 n) b4 b7 v8 b7 x
theorem f3_where_L51_0   (b4 : Int32) (b5 : Int32) (b6 : Int32) (b7 : Int32) (x : St) : f3_where_L51  0 b4 b5 b6 b7 x = none := rfl
theorem f3_where_L51_s   (n : Nat) (b4 : Int32) (b5 : Int32) (b6 : Int32) (b7 : Int32) (x : St) : f3_where_L51  (n + 1) b4 b5 b6 b7 x =
    if (16 : Int32) ≤ b7 then
      if b5 = (-1000004 : Int32) then
        (f3_finding (-1000004 : Int32) x).bind fun q => match q with
        | (v6, z5) =>
          some (v6, z5)
      else
        some (b5, x)
    else
      if (f3_isIn b4 b7) = 0 then
        f3_where_b99 (f3_where_L51 n) b4 b5 b6 b7 x
      else
        (f2_trait 0 b7 (0 : Int32) x).bind fun v7 =>
        if v7 ≤ b6 then
          f3_where_b99 (f3_where_L51 n) b4 b5 b6 b7 x
        else
          (f2_trait 0 b7 (0 : Int32) x).bind fun v8 =>
          f3_where_b99 (f3_where_L51 n) b4 b7 v8 b7 x := rfl
def f3_where_b25    (x : St) : Option (Int32 × St) :=
  (f3_finding (-1000001 : Int32) x).bind fun q => match q with
  | (v4, z3) =>
    some (v4, z3)
def f3_where  (a1 : Int32) (a2 : Int32) (a3 : Int32) (x : St) : Option (Int32 × St) :=
  if (f2_hasWhisper 0 a1 x) = 0 then
    f3_where_b25 x
  else
    if (f3_isSet a2) = 0 then
      f3_where_b25 x
    else
      if (f3_isSet a3) = 0 then
        f3_where_b25 x
      else
        (f3_goodPlaces a1 a2 a3 x).bind fun q => match q with
        | (v2, z1) =>
          f3_where_L51 fu v2 (-1000004 : Int32) (-1 : Int32) (0 : Int32) z1
set_option maxHeartbeats 4000000 in
set_option maxRecDepth 100000 in
theorem c3_where (l : Launch) (G : GT)  (x m : St) (a1 : Int32) (a2 : Int32) (a3 : Int32) (r : Int32 × St) (h : f3_where a1 a2 a3 x = some r) : Mt l yX3_where cX3_where 8 (some .int) (rmF 6 149) G x m [.ref (gq G 0), .int a1, .int a2, .int a3] (some (.int r.1)) r.2 m := by
  refine Mt.of (by decide) (Nat.le_of_ble_eq_true rfl) ?_
  intro p e s mm args below meth c C ls hl hw
  have hx := C.1
  have hb := C.2.1
  have hown := C.2.2.2.2.1
  replace hl : lv_has ls 8 [(0, .ref (gq G 0)), (1, .int a1), (2, .int a2), (3, .int a3)] := hl
  have L51 : ∀ (n51 : Nat) (b4 : Int32) (b5 : Int32) (b6 : Int32) (b7 : Int32) (x : St) (H : Heap) (locs : List Loc) (ls : Array Slot), lv_has ls 8 [(0, .ref (gq G 0)), (4, .int b4), (5, .int b5), (6, .int b6), (7, .int b7)] → Wd G s x m H locs → f3_where_L51 n51 b4 b5 b6 b7 x = some r → W p l e (rmF 6 149) s mm args below meth c H locs 0 0 (QE below G (some (.int r.1)) r.2 m args s) (F0 mm 51 ls []) := by
    intro n51
    induction n51 with
    | zero =>
      intro b4 b5 b6 b7 x H locs ls hl hw h
      rw [f3_where_L51_0] at h
      exact absurd h.symm (Option.some_ne_none _)
    | succ n51 ih51 =>
      have B99 : ∀ (b4 : Int32) (b5 : Int32) (b6 : Int32) (b7 : Int32) (x : St) (H : Heap) (locs : List Loc) (ls : Array Slot), lv_has ls 8 [(0, .ref (gq G 0)), (4, .int b4), (5, .int b5), (6, .int b6), (7, .int b7)] → Wd G s x m H locs → f3_where_b99 (f3_where_L51 n51) b4 b5 b6 b7 x = some r → W p l e (rmF 6 149) s mm args below meth c H locs 0 0 (QE below G (some (.int r.1)) r.2 m args s) (F0 mm 99 ls []) := by
        intro b4 b5 b6 b7 x H locs ls hl hw h
        unfold f3_where_b99 at h
        refine lv_iinc (v := (b7 + (1 : Int32))) (lv' := [(7, .int (b7 + (1 : Int32))), (0, .ref (gq G 0)), (4, .int b4), (5, .int b5), (6, .int b6)]) hx hb dX3_where_99 hl (k := 4) rfl rfl (by decide) rfl (fun ls hl => ?_)
        refine lv_goto (tgt := 51) hx hb dX3_where_102 (by decide) ?_
        exact ih51 b4 b5 b6 (b7 + (1 : Int32)) x _ _ _ (lv_sub hl [1, 2, 3, 4, 0] rfl) hw h
      intro b4 b5 b6 b7 x H locs ls hl hw h
      rw [f3_where_L51_s] at h
      refine lv_iload hx hb dX3_where_51 (lv_at hl 4 rfl) ?_
      refine lv_bipush (v := (16 : Int32)) hx hb dX3_where_53 (by decide) ?_
      refine lv_icmp_ge (tgt := 105) hx hb dX3_where_55 (by decide) (fun hc => ?_) (fun hc => ?_)
      · replace h := p_t hc h
        refine lv_iload hx hb dX3_where_105 (lv_at hl 2 rfl) ?_
        refine lv_ldc hx hb hown (C.w kc_X3_138) dX3_where_107 ?_
        refine lv_icmp_ne (tgt := 121) hx hb dX3_where_109 (by decide) (fun hc => ?_) (fun hc => ?_)
        · replace h := p_f hc h
          refine lv_iload hx hb dX3_where_121 (lv_at hl 2 rfl) ?_
          replace h := Option.some.inj h
          subst h
          exact w_iret C hw (v := b5) rfl rfl dX3_where_123
        · replace h := p_t hc h
          refine lv_aload_n hx hb dX3_where_112 rfl (lv_at hl 0 rfl) ?_
          refine lv_ldc hx hb hown (C.w kc_X3_138) dX3_where_113 ?_
          obtain ⟨⟨v6, z5⟩, hq, h⟩ := p_bd h
          dsimp only at h
          refine w_Vi C hw (As := [.int (-1000004 : Int32)]) (rest := []) (c3_finding l G x m (-1000004 : Int32) (v6, z5) hq) kv_X3_finding ml_X3_49 ⟨rfl, rfl⟩ ⟨Nat.le_of_ble_eq_true rfl, Nat.le_of_ble_eq_true rfl⟩ ⟨Nat.zero_le _, Nat.zero_le _⟩ (w_recv C hw (wk_main G x m) rfl) rfl rfl (Nat.le_of_ble_eq_true rfl) (lv_sub hl [] rfl) dX3_where_115 (fun H locs hw => ?_)
          refine lv_goto (tgt := 123) hx hb dX3_where_118 (by decide) ?_
          replace h := Option.some.inj h
          subst h
          exact w_iret C hw (v := v6) rfl rfl dX3_where_123
      · replace h := p_f hc h
        refine lv_iload hx hb dX3_where_58 (lv_at hl 1 rfl) ?_
        refine lv_iload hx hb dX3_where_60 (lv_at hl 4 rfl) ?_
        refine w_Si C hw (As := [.int b4, .int b7]) (rest := []) (c3_isIn l G x m b4 b7 _ rfl) ks_X3_isIn ml_X3_164 ⟨rfl, rfl⟩ ⟨Nat.le_of_ble_eq_true rfl, Nat.le_of_ble_eq_true rfl⟩ ⟨Nat.zero_le _, Nat.zero_le _⟩ rfl rfl (Nat.le_of_ble_eq_true rfl) (lv_sub hl [] rfl) dX3_where_62 (fun H locs hw => ?_)
        refine lv_if_eq (tgt := 99) hx hb dX3_where_65 (by decide) (fun hc => ?_) (fun hc => ?_)
        · replace h := p_t hc h
          exact B99 b4 b5 b6 b7 x _ _ _ (lv_sub hl [0, 1, 2, 3, 4] rfl) hw h
        · replace h := p_f hc h
          refine lv_aload_n hx hb dX3_where_68 rfl (lv_at hl 0 rfl) ?_
          refine w_get C hw (v := .ref (gq G (1 + 4 * 0))) (k := 0) (wk_main G x m) rfl it_3 (by decide) fl_X3_10 rfl dX3_where_69 ?_
          refine lv_iload hx hb dX3_where_72 (lv_at hl 4 rfl) ?_
          refine lv_iconst (v := (0 : Int32)) hx hb dX3_where_74 (by decide) ?_
          obtain ⟨v7, hq, h⟩ := p_bd h
          refine w_Vi C hw (As := [.int b7, .int (0 : Int32)]) (rest := []) (c2_trait l G 0 (by decide) x m b7 (0 : Int32) v7 hq) kv_X2_trait ml_X3_65 ⟨rfl, rfl⟩ ⟨Nat.le_of_ble_eq_true rfl, Nat.le_of_ble_eq_true rfl⟩ ⟨Nat.zero_le _, Nat.zero_le _⟩ (w_recv C hw (wk_town G x m (by decide)) rfl) rfl rfl (Nat.le_of_ble_eq_true rfl) (lv_sub hl [] rfl) dX3_where_75 (fun H locs hw => ?_)
          refine lv_iload hx hb dX3_where_78 (lv_at hl 3 rfl) ?_
          refine lv_icmp_le (tgt := 99) hx hb dX3_where_80 (by decide) (fun hc => ?_) (fun hc => ?_)
          · replace h := p_t hc h
            exact B99 b4 b5 b6 b7 x _ _ _ (lv_sub hl [0, 1, 2, 3, 4] rfl) hw h
          · replace h := p_f hc h
            refine lv_aload_n hx hb dX3_where_83 rfl (lv_at hl 0 rfl) ?_
            refine w_get C hw (v := .ref (gq G (1 + 4 * 0))) (k := 0) (wk_main G x m) rfl it_3 (by decide) fl_X3_10 rfl dX3_where_84 ?_
            refine lv_iload hx hb dX3_where_87 (lv_at hl 4 rfl) ?_
            refine lv_iconst (v := (0 : Int32)) hx hb dX3_where_89 (by decide) ?_
            obtain ⟨v8, hq, h⟩ := p_bd h
            refine w_Vi C hw (As := [.int b7, .int (0 : Int32)]) (rest := []) (c2_trait l G 0 (by decide) x m b7 (0 : Int32) v8 hq) kv_X2_trait ml_X3_65 ⟨rfl, rfl⟩ ⟨Nat.le_of_ble_eq_true rfl, Nat.le_of_ble_eq_true rfl⟩ ⟨Nat.zero_le _, Nat.zero_le _⟩ (w_recv C hw (wk_town G x m (by decide)) rfl) rfl rfl (Nat.le_of_ble_eq_true rfl) (lv_sub hl [] rfl) dX3_where_90 (fun H locs hw => ?_)
            refine lv_istore (lv' := [(6, .int v8), (0, .ref (gq G 0)), (4, .int b4), (5, .int b5), (7, .int b7)]) hx hb dX3_where_93 hl (by decide) rfl (fun ls hl => ?_)
            refine lv_iload hx hb dX3_where_95 (lv_at hl 4 rfl) ?_
            refine lv_istore (lv' := [(5, .int b7), (6, .int v8), (0, .ref (gq G 0)), (4, .int b4), (7, .int b7)]) hx hb dX3_where_97 hl (by decide) rfl (fun ls hl => ?_)
            exact B99 b4 b7 v8 b7 x _ _ _ (lv_sub hl [2, 3, 0, 1, 4] rfl) hw h
  have B25 : ∀  (x : St) (H : Heap) (locs : List Loc) (ls : Array Slot), lv_has ls 8 [(0, .ref (gq G 0))] → Wd G s x m H locs → f3_where_b25 x = some r → W p l e (rmF 6 149) s mm args below meth c H locs 0 0 (QE below G (some (.int r.1)) r.2 m args s) (F0 mm 25 ls []) := by
    intro  x H locs ls hl hw h
    unfold f3_where_b25 at h
    refine lv_aload_n hx hb dX3_where_25 rfl (lv_at hl 0 rfl) ?_
    refine lv_ldc hx hb hown (C.w kc_X3_48) dX3_where_26 ?_
    obtain ⟨⟨v4, z3⟩, hq, h⟩ := p_bd h
    dsimp only at h
    refine w_Vi C hw (As := [.int (-1000001 : Int32)]) (rest := []) (c3_finding l G x m (-1000001 : Int32) (v4, z3) hq) kv_X3_finding ml_X3_49 ⟨rfl, rfl⟩ ⟨Nat.le_of_ble_eq_true rfl, Nat.le_of_ble_eq_true rfl⟩ ⟨Nat.zero_le _, Nat.zero_le _⟩ (w_recv C hw (wk_main G x m) rfl) rfl rfl (Nat.le_of_ble_eq_true rfl) (lv_sub hl [] rfl) dX3_where_28 (fun H locs hw => ?_)
    replace h := Option.some.inj h
    subst h
    exact w_iret C hw (v := v4) rfl rfl dX3_where_31
  unfold f3_where at h
  refine lv_aload_n hx hb dX3_where_0 rfl (lv_at hl 0 rfl) ?_
  refine w_get C hw (v := .ref (gq G (1 + 4 * 0))) (k := 0) (wk_main G x m) rfl it_3 (by decide) fl_X3_10 rfl dX3_where_1 ?_
  refine lv_iload_n hx hb dX3_where_4 rfl (lv_at hl 1 rfl) ?_
  refine w_Vi C hw (As := [.int a1]) (rest := []) (c2_hasWhisper l G 0 (by decide) x m a1 _ rfl) kv_X2_hasWhisper ml_X3_89 ⟨rfl, rfl⟩ ⟨Nat.le_of_ble_eq_true rfl, Nat.le_of_ble_eq_true rfl⟩ ⟨Nat.zero_le _, Nat.zero_le _⟩ (w_recv C hw (wk_town G x m (by decide)) rfl) rfl rfl (Nat.le_of_ble_eq_true rfl) (lv_sub hl [] rfl) dX3_where_5 (fun H locs hw => ?_)
  refine lv_if_eq (tgt := 25) hx hb dX3_where_8 (by decide) (fun hc => ?_) (fun hc => ?_)
  · replace h := p_t hc h
    exact B25 x _ _ _ (lv_sub hl [0] rfl) hw h
  · replace h := p_f hc h
    refine lv_iload_n hx hb dX3_where_11 rfl (lv_at hl 2 rfl) ?_
    refine w_Si C hw (As := [.int a2]) (rest := []) (c3_isSet l G x m a2 _ rfl) ks_X3_isSet ml_X3_107 ⟨rfl, rfl⟩ ⟨Nat.le_of_ble_eq_true rfl, Nat.le_of_ble_eq_true rfl⟩ ⟨Nat.zero_le _, Nat.zero_le _⟩ rfl rfl (Nat.le_of_ble_eq_true rfl) (lv_sub hl [] rfl) dX3_where_12 (fun H locs hw => ?_)
    refine lv_if_eq (tgt := 25) hx hb dX3_where_15 (by decide) (fun hc => ?_) (fun hc => ?_)
    · replace h := p_t hc h
      exact B25 x _ _ _ (lv_sub hl [0] rfl) hw h
    · replace h := p_f hc h
      refine lv_iload_n hx hb dX3_where_18 rfl (lv_at hl 3 rfl) ?_
      refine w_Si C hw (As := [.int a3]) (rest := []) (c3_isSet l G x m a3 _ rfl) ks_X3_isSet ml_X3_107 ⟨rfl, rfl⟩ ⟨Nat.le_of_ble_eq_true rfl, Nat.le_of_ble_eq_true rfl⟩ ⟨Nat.zero_le _, Nat.zero_le _⟩ rfl rfl (Nat.le_of_ble_eq_true rfl) (lv_sub hl [] rfl) dX3_where_19 (fun H locs hw => ?_)
      refine lv_if_ne (tgt := 32) hx hb dX3_where_22 (by decide) (fun hc => ?_) (fun hc => ?_)
      · replace h := p_f hc h
        refine lv_aload_n hx hb dX3_where_32 rfl (lv_at hl 0 rfl) ?_
        refine lv_iload_n hx hb dX3_where_33 rfl (lv_at hl 1 rfl) ?_
        refine lv_iload_n hx hb dX3_where_34 rfl (lv_at hl 2 rfl) ?_
        refine lv_iload_n hx hb dX3_where_35 rfl (lv_at hl 3 rfl) ?_
        obtain ⟨⟨v2, z1⟩, hq, h⟩ := p_bd h
        dsimp only at h
        refine w_Vi C hw (As := [.int a1, .int a2, .int a3]) (rest := []) (c3_goodPlaces l G x m a1 a2 a3 (v2, z1) hq) kv_X3_goodPlaces ml_X3_161 ⟨rfl, rfl⟩ ⟨Nat.le_of_ble_eq_true rfl, Nat.le_of_ble_eq_true rfl⟩ ⟨Nat.zero_le _, Nat.zero_le _⟩ (w_recv C hw (wk_main G x m) rfl) rfl rfl (Nat.le_of_ble_eq_true rfl) (lv_sub hl [] rfl) dX3_where_36 (fun H locs hw => ?_)
        refine lv_istore (lv' := [(4, .int v2), (0, .ref (gq G 0)), (1, .int a1), (2, .int a2), (3, .int a3)]) hx hb dX3_where_39 hl (by decide) rfl (fun ls hl => ?_)
        refine lv_ldc hx hb hown (C.w kc_X3_138) dX3_where_41 ?_
        refine lv_istore (lv' := [(5, .int (-1000004 : Int32)), (4, .int v2), (0, .ref (gq G 0)), (1, .int a1), (2, .int a2), (3, .int a3)]) hx hb dX3_where_43 hl (by decide) rfl (fun ls hl => ?_)
        refine lv_iconst (v := (-1 : Int32)) hx hb dX3_where_45 (by decide) ?_
        refine lv_istore (lv' := [(6, .int (-1 : Int32)), (5, .int (-1000004 : Int32)), (4, .int v2), (0, .ref (gq G 0)), (1, .int a1), (2, .int a2), (3, .int a3)]) hx hb dX3_where_46 hl (by decide) rfl (fun ls hl => ?_)
        refine lv_iconst (v := (0 : Int32)) hx hb dX3_where_48 (by decide) ?_
        refine lv_istore (lv' := [(7, .int (0 : Int32)), (6, .int (-1 : Int32)), (5, .int (-1000004 : Int32)), (4, .int v2), (0, .ref (gq G 0)), (1, .int a1), (2, .int a2), (3, .int a3)]) hx hb dX3_where_49 hl (by decide) rfl (fun ls hl => ?_)
        exact L51 fu v2 (-1000004 : Int32) (-1 : Int32) (0 : Int32) z1 _ _ _ (lv_sub hl [4, 3, 2, 1, 0] rfl) hw h
      · replace h := p_t hc h
        exact B25 x _ _ _ (lv_sub hl [0] rfl) hw h

def fJ6_bitCount_0f7a4  (a1 : Int32) : Int32 :=
  ((((((((a1 - (((a1.toUInt32 >>> ((1 : Int32).toUInt32 &&& Int32.toUInt32 31)).toInt32) &&& (1431655765 : Int32))) &&& (858993459 : Int32)) + ((((a1 - (((a1.toUInt32 >>> ((1 : Int32).toUInt32 &&& Int32.toUInt32 31)).toInt32) &&& (1431655765 : Int32))).toUInt32 >>> ((2 : Int32).toUInt32 &&& Int32.toUInt32 31)).toInt32) &&& (858993459 : Int32))) + (((((a1 - (((a1.toUInt32 >>> ((1 : Int32).toUInt32 &&& Int32.toUInt32 31)).toInt32) &&& (1431655765 : Int32))) &&& (858993459 : Int32)) + ((((a1 - (((a1.toUInt32 >>> ((1 : Int32).toUInt32 &&& Int32.toUInt32 31)).toInt32) &&& (1431655765 : Int32))).toUInt32 >>> ((2 : Int32).toUInt32 &&& Int32.toUInt32 31)).toInt32) &&& (858993459 : Int32))).toUInt32 >>> ((4 : Int32).toUInt32 &&& Int32.toUInt32 31)).toInt32)) &&& (252645135 : Int32)) + (((((((a1 - (((a1.toUInt32 >>> ((1 : Int32).toUInt32 &&& Int32.toUInt32 31)).toInt32) &&& (1431655765 : Int32))) &&& (858993459 : Int32)) + ((((a1 - (((a1.toUInt32 >>> ((1 : Int32).toUInt32 &&& Int32.toUInt32 31)).toInt32) &&& (1431655765 : Int32))).toUInt32 >>> ((2 : Int32).toUInt32 &&& Int32.toUInt32 31)).toInt32) &&& (858993459 : Int32))) + (((((a1 - (((a1.toUInt32 >>> ((1 : Int32).toUInt32 &&& Int32.toUInt32 31)).toInt32) &&& (1431655765 : Int32))) &&& (858993459 : Int32)) + ((((a1 - (((a1.toUInt32 >>> ((1 : Int32).toUInt32 &&& Int32.toUInt32 31)).toInt32) &&& (1431655765 : Int32))).toUInt32 >>> ((2 : Int32).toUInt32 &&& Int32.toUInt32 31)).toInt32) &&& (858993459 : Int32))).toUInt32 >>> ((4 : Int32).toUInt32 &&& Int32.toUInt32 31)).toInt32)) &&& (252645135 : Int32)).toUInt32 >>> ((8 : Int32).toUInt32 &&& Int32.toUInt32 31)).toInt32)) + ((((((((a1 - (((a1.toUInt32 >>> ((1 : Int32).toUInt32 &&& Int32.toUInt32 31)).toInt32) &&& (1431655765 : Int32))) &&& (858993459 : Int32)) + ((((a1 - (((a1.toUInt32 >>> ((1 : Int32).toUInt32 &&& Int32.toUInt32 31)).toInt32) &&& (1431655765 : Int32))).toUInt32 >>> ((2 : Int32).toUInt32 &&& Int32.toUInt32 31)).toInt32) &&& (858993459 : Int32))) + (((((a1 - (((a1.toUInt32 >>> ((1 : Int32).toUInt32 &&& Int32.toUInt32 31)).toInt32) &&& (1431655765 : Int32))) &&& (858993459 : Int32)) + ((((a1 - (((a1.toUInt32 >>> ((1 : Int32).toUInt32 &&& Int32.toUInt32 31)).toInt32) &&& (1431655765 : Int32))).toUInt32 >>> ((2 : Int32).toUInt32 &&& Int32.toUInt32 31)).toInt32) &&& (858993459 : Int32))).toUInt32 >>> ((4 : Int32).toUInt32 &&& Int32.toUInt32 31)).toInt32)) &&& (252645135 : Int32)) + (((((((a1 - (((a1.toUInt32 >>> ((1 : Int32).toUInt32 &&& Int32.toUInt32 31)).toInt32) &&& (1431655765 : Int32))) &&& (858993459 : Int32)) + ((((a1 - (((a1.toUInt32 >>> ((1 : Int32).toUInt32 &&& Int32.toUInt32 31)).toInt32) &&& (1431655765 : Int32))).toUInt32 >>> ((2 : Int32).toUInt32 &&& Int32.toUInt32 31)).toInt32) &&& (858993459 : Int32))) + (((((a1 - (((a1.toUInt32 >>> ((1 : Int32).toUInt32 &&& Int32.toUInt32 31)).toInt32) &&& (1431655765 : Int32))) &&& (858993459 : Int32)) + ((((a1 - (((a1.toUInt32 >>> ((1 : Int32).toUInt32 &&& Int32.toUInt32 31)).toInt32) &&& (1431655765 : Int32))).toUInt32 >>> ((2 : Int32).toUInt32 &&& Int32.toUInt32 31)).toInt32) &&& (858993459 : Int32))).toUInt32 >>> ((4 : Int32).toUInt32 &&& Int32.toUInt32 31)).toInt32)) &&& (252645135 : Int32)).toUInt32 >>> ((8 : Int32).toUInt32 &&& Int32.toUInt32 31)).toInt32)).toUInt32 >>> ((16 : Int32).toUInt32 &&& Int32.toUInt32 31)).toInt32)) &&& (63 : Int32))
set_option maxHeartbeats 4000000 in
set_option maxRecDepth 100000 in
theorem qJ6_bitCount_0f7a4 (l : Launch) (G : GT)  (x m : St) (a1 : Int32) (r : Int32) (h : fJ6_bitCount_0f7a4 a1 = r) : Mt l yJ6_bitCount_0f7a4 cJ6_bitCount_0f7a4 1 (some .int) (rmF 0 0) G x m [.int a1] (some (.int r)) x m := by
  refine Mt.of (by decide) (Nat.le_of_ble_eq_true rfl) ?_
  intro p e s mm args below meth c C ls hl hw
  have hx := C.1
  have hb := C.2.1
  have hown := C.2.2.2.2.1
  replace hl : lv_has ls 1 [(0, .int a1)] := hl
  unfold fJ6_bitCount_0f7a4 at h
  refine lv_iload_n hx hb dJ6_bitCount_0f7a4_0 rfl (lv_at hl 0 rfl) ?_
  refine lv_iload_n hx hb dJ6_bitCount_0f7a4_1 rfl (lv_at hl 0 rfl) ?_
  refine lv_iconst (v := (1 : Int32)) hx hb dJ6_bitCount_0f7a4_2 (by decide) ?_
  refine lv_iushr hx hb dJ6_bitCount_0f7a4_3 rfl ?_
  refine lv_ldcw hx hb hown (C.w kc_J6_265) dJ6_bitCount_0f7a4_4 ?_
  refine lv_iand hx hb dJ6_bitCount_0f7a4_7 ?_
  refine lv_isub hx hb dJ6_bitCount_0f7a4_8 ?_
  refine lv_istore_n (lv' := [(0, .int (a1 - (((a1.toUInt32 >>> ((1 : Int32).toUInt32 &&& Int32.toUInt32 31)).toInt32) &&& (1431655765 : Int32))))]) hx hb dJ6_bitCount_0f7a4_9 rfl hl (by decide) rfl (fun ls hl => ?_)
  refine lv_iload_n hx hb dJ6_bitCount_0f7a4_10 rfl (lv_at hl 0 rfl) ?_
  refine lv_ldcw hx hb hown (C.w kc_J6_266) dJ6_bitCount_0f7a4_11 ?_
  refine lv_iand hx hb dJ6_bitCount_0f7a4_14 ?_
  refine lv_iload_n hx hb dJ6_bitCount_0f7a4_15 rfl (lv_at hl 0 rfl) ?_
  refine lv_iconst (v := (2 : Int32)) hx hb dJ6_bitCount_0f7a4_16 (by decide) ?_
  refine lv_iushr hx hb dJ6_bitCount_0f7a4_17 rfl ?_
  refine lv_ldcw hx hb hown (C.w kc_J6_266) dJ6_bitCount_0f7a4_18 ?_
  refine lv_iand hx hb dJ6_bitCount_0f7a4_21 ?_
  refine lv_iadd hx hb dJ6_bitCount_0f7a4_22 ?_
  refine lv_istore_n (lv' := [(0, .int (((a1 - (((a1.toUInt32 >>> ((1 : Int32).toUInt32 &&& Int32.toUInt32 31)).toInt32) &&& (1431655765 : Int32))) &&& (858993459 : Int32)) + ((((a1 - (((a1.toUInt32 >>> ((1 : Int32).toUInt32 &&& Int32.toUInt32 31)).toInt32) &&& (1431655765 : Int32))).toUInt32 >>> ((2 : Int32).toUInt32 &&& Int32.toUInt32 31)).toInt32) &&& (858993459 : Int32))))]) hx hb dJ6_bitCount_0f7a4_23 rfl hl (by decide) rfl (fun ls hl => ?_)
  refine lv_iload_n hx hb dJ6_bitCount_0f7a4_24 rfl (lv_at hl 0 rfl) ?_
  refine lv_iload_n hx hb dJ6_bitCount_0f7a4_25 rfl (lv_at hl 0 rfl) ?_
  refine lv_iconst (v := (4 : Int32)) hx hb dJ6_bitCount_0f7a4_26 (by decide) ?_
  refine lv_iushr hx hb dJ6_bitCount_0f7a4_27 rfl ?_
  refine lv_iadd hx hb dJ6_bitCount_0f7a4_28 ?_
  refine lv_ldcw hx hb hown (C.w kc_J6_267) dJ6_bitCount_0f7a4_29 ?_
  refine lv_iand hx hb dJ6_bitCount_0f7a4_32 ?_
  refine lv_istore_n (lv' := [(0, .int (((((a1 - (((a1.toUInt32 >>> ((1 : Int32).toUInt32 &&& Int32.toUInt32 31)).toInt32) &&& (1431655765 : Int32))) &&& (858993459 : Int32)) + ((((a1 - (((a1.toUInt32 >>> ((1 : Int32).toUInt32 &&& Int32.toUInt32 31)).toInt32) &&& (1431655765 : Int32))).toUInt32 >>> ((2 : Int32).toUInt32 &&& Int32.toUInt32 31)).toInt32) &&& (858993459 : Int32))) + (((((a1 - (((a1.toUInt32 >>> ((1 : Int32).toUInt32 &&& Int32.toUInt32 31)).toInt32) &&& (1431655765 : Int32))) &&& (858993459 : Int32)) + ((((a1 - (((a1.toUInt32 >>> ((1 : Int32).toUInt32 &&& Int32.toUInt32 31)).toInt32) &&& (1431655765 : Int32))).toUInt32 >>> ((2 : Int32).toUInt32 &&& Int32.toUInt32 31)).toInt32) &&& (858993459 : Int32))).toUInt32 >>> ((4 : Int32).toUInt32 &&& Int32.toUInt32 31)).toInt32)) &&& (252645135 : Int32)))]) hx hb dJ6_bitCount_0f7a4_33 rfl hl (by decide) rfl (fun ls hl => ?_)
  refine lv_iload_n hx hb dJ6_bitCount_0f7a4_34 rfl (lv_at hl 0 rfl) ?_
  refine lv_iload_n hx hb dJ6_bitCount_0f7a4_35 rfl (lv_at hl 0 rfl) ?_
  refine lv_bipush (v := (8 : Int32)) hx hb dJ6_bitCount_0f7a4_36 (by decide) ?_
  refine lv_iushr hx hb dJ6_bitCount_0f7a4_38 rfl ?_
  refine lv_iadd hx hb dJ6_bitCount_0f7a4_39 ?_
  refine lv_istore_n (lv' := [(0, .int ((((((a1 - (((a1.toUInt32 >>> ((1 : Int32).toUInt32 &&& Int32.toUInt32 31)).toInt32) &&& (1431655765 : Int32))) &&& (858993459 : Int32)) + ((((a1 - (((a1.toUInt32 >>> ((1 : Int32).toUInt32 &&& Int32.toUInt32 31)).toInt32) &&& (1431655765 : Int32))).toUInt32 >>> ((2 : Int32).toUInt32 &&& Int32.toUInt32 31)).toInt32) &&& (858993459 : Int32))) + (((((a1 - (((a1.toUInt32 >>> ((1 : Int32).toUInt32 &&& Int32.toUInt32 31)).toInt32) &&& (1431655765 : Int32))) &&& (858993459 : Int32)) + ((((a1 - (((a1.toUInt32 >>> ((1 : Int32).toUInt32 &&& Int32.toUInt32 31)).toInt32) &&& (1431655765 : Int32))).toUInt32 >>> ((2 : Int32).toUInt32 &&& Int32.toUInt32 31)).toInt32) &&& (858993459 : Int32))).toUInt32 >>> ((4 : Int32).toUInt32 &&& Int32.toUInt32 31)).toInt32)) &&& (252645135 : Int32)) + (((((((a1 - (((a1.toUInt32 >>> ((1 : Int32).toUInt32 &&& Int32.toUInt32 31)).toInt32) &&& (1431655765 : Int32))) &&& (858993459 : Int32)) + ((((a1 - (((a1.toUInt32 >>> ((1 : Int32).toUInt32 &&& Int32.toUInt32 31)).toInt32) &&& (1431655765 : Int32))).toUInt32 >>> ((2 : Int32).toUInt32 &&& Int32.toUInt32 31)).toInt32) &&& (858993459 : Int32))) + (((((a1 - (((a1.toUInt32 >>> ((1 : Int32).toUInt32 &&& Int32.toUInt32 31)).toInt32) &&& (1431655765 : Int32))) &&& (858993459 : Int32)) + ((((a1 - (((a1.toUInt32 >>> ((1 : Int32).toUInt32 &&& Int32.toUInt32 31)).toInt32) &&& (1431655765 : Int32))).toUInt32 >>> ((2 : Int32).toUInt32 &&& Int32.toUInt32 31)).toInt32) &&& (858993459 : Int32))).toUInt32 >>> ((4 : Int32).toUInt32 &&& Int32.toUInt32 31)).toInt32)) &&& (252645135 : Int32)).toUInt32 >>> ((8 : Int32).toUInt32 &&& Int32.toUInt32 31)).toInt32)))]) hx hb dJ6_bitCount_0f7a4_40 rfl hl (by decide) rfl (fun ls hl => ?_)
  refine lv_iload_n hx hb dJ6_bitCount_0f7a4_41 rfl (lv_at hl 0 rfl) ?_
  refine lv_iload_n hx hb dJ6_bitCount_0f7a4_42 rfl (lv_at hl 0 rfl) ?_
  refine lv_bipush (v := (16 : Int32)) hx hb dJ6_bitCount_0f7a4_43 (by decide) ?_
  refine lv_iushr hx hb dJ6_bitCount_0f7a4_45 rfl ?_
  refine lv_iadd hx hb dJ6_bitCount_0f7a4_46 ?_
  refine lv_istore_n (lv' := [(0, .int (((((((a1 - (((a1.toUInt32 >>> ((1 : Int32).toUInt32 &&& Int32.toUInt32 31)).toInt32) &&& (1431655765 : Int32))) &&& (858993459 : Int32)) + ((((a1 - (((a1.toUInt32 >>> ((1 : Int32).toUInt32 &&& Int32.toUInt32 31)).toInt32) &&& (1431655765 : Int32))).toUInt32 >>> ((2 : Int32).toUInt32 &&& Int32.toUInt32 31)).toInt32) &&& (858993459 : Int32))) + (((((a1 - (((a1.toUInt32 >>> ((1 : Int32).toUInt32 &&& Int32.toUInt32 31)).toInt32) &&& (1431655765 : Int32))) &&& (858993459 : Int32)) + ((((a1 - (((a1.toUInt32 >>> ((1 : Int32).toUInt32 &&& Int32.toUInt32 31)).toInt32) &&& (1431655765 : Int32))).toUInt32 >>> ((2 : Int32).toUInt32 &&& Int32.toUInt32 31)).toInt32) &&& (858993459 : Int32))).toUInt32 >>> ((4 : Int32).toUInt32 &&& Int32.toUInt32 31)).toInt32)) &&& (252645135 : Int32)) + (((((((a1 - (((a1.toUInt32 >>> ((1 : Int32).toUInt32 &&& Int32.toUInt32 31)).toInt32) &&& (1431655765 : Int32))) &&& (858993459 : Int32)) + ((((a1 - (((a1.toUInt32 >>> ((1 : Int32).toUInt32 &&& Int32.toUInt32 31)).toInt32) &&& (1431655765 : Int32))).toUInt32 >>> ((2 : Int32).toUInt32 &&& Int32.toUInt32 31)).toInt32) &&& (858993459 : Int32))) + (((((a1 - (((a1.toUInt32 >>> ((1 : Int32).toUInt32 &&& Int32.toUInt32 31)).toInt32) &&& (1431655765 : Int32))) &&& (858993459 : Int32)) + ((((a1 - (((a1.toUInt32 >>> ((1 : Int32).toUInt32 &&& Int32.toUInt32 31)).toInt32) &&& (1431655765 : Int32))).toUInt32 >>> ((2 : Int32).toUInt32 &&& Int32.toUInt32 31)).toInt32) &&& (858993459 : Int32))).toUInt32 >>> ((4 : Int32).toUInt32 &&& Int32.toUInt32 31)).toInt32)) &&& (252645135 : Int32)).toUInt32 >>> ((8 : Int32).toUInt32 &&& Int32.toUInt32 31)).toInt32)) + ((((((((a1 - (((a1.toUInt32 >>> ((1 : Int32).toUInt32 &&& Int32.toUInt32 31)).toInt32) &&& (1431655765 : Int32))) &&& (858993459 : Int32)) + ((((a1 - (((a1.toUInt32 >>> ((1 : Int32).toUInt32 &&& Int32.toUInt32 31)).toInt32) &&& (1431655765 : Int32))).toUInt32 >>> ((2 : Int32).toUInt32 &&& Int32.toUInt32 31)).toInt32) &&& (858993459 : Int32))) + (((((a1 - (((a1.toUInt32 >>> ((1 : Int32).toUInt32 &&& Int32.toUInt32 31)).toInt32) &&& (1431655765 : Int32))) &&& (858993459 : Int32)) + ((((a1 - (((a1.toUInt32 >>> ((1 : Int32).toUInt32 &&& Int32.toUInt32 31)).toInt32) &&& (1431655765 : Int32))).toUInt32 >>> ((2 : Int32).toUInt32 &&& Int32.toUInt32 31)).toInt32) &&& (858993459 : Int32))).toUInt32 >>> ((4 : Int32).toUInt32 &&& Int32.toUInt32 31)).toInt32)) &&& (252645135 : Int32)) + (((((((a1 - (((a1.toUInt32 >>> ((1 : Int32).toUInt32 &&& Int32.toUInt32 31)).toInt32) &&& (1431655765 : Int32))) &&& (858993459 : Int32)) + ((((a1 - (((a1.toUInt32 >>> ((1 : Int32).toUInt32 &&& Int32.toUInt32 31)).toInt32) &&& (1431655765 : Int32))).toUInt32 >>> ((2 : Int32).toUInt32 &&& Int32.toUInt32 31)).toInt32) &&& (858993459 : Int32))) + (((((a1 - (((a1.toUInt32 >>> ((1 : Int32).toUInt32 &&& Int32.toUInt32 31)).toInt32) &&& (1431655765 : Int32))) &&& (858993459 : Int32)) + ((((a1 - (((a1.toUInt32 >>> ((1 : Int32).toUInt32 &&& Int32.toUInt32 31)).toInt32) &&& (1431655765 : Int32))).toUInt32 >>> ((2 : Int32).toUInt32 &&& Int32.toUInt32 31)).toInt32) &&& (858993459 : Int32))).toUInt32 >>> ((4 : Int32).toUInt32 &&& Int32.toUInt32 31)).toInt32)) &&& (252645135 : Int32)).toUInt32 >>> ((8 : Int32).toUInt32 &&& Int32.toUInt32 31)).toInt32)).toUInt32 >>> ((16 : Int32).toUInt32 &&& Int32.toUInt32 31)).toInt32)))]) hx hb dJ6_bitCount_0f7a4_47 rfl hl (by decide) rfl (fun ls hl => ?_)
  refine lv_iload_n hx hb dJ6_bitCount_0f7a4_48 rfl (lv_at hl 0 rfl) ?_
  refine lv_bipush (v := (63 : Int32)) hx hb dJ6_bitCount_0f7a4_49 (by decide) ?_
  refine lv_iand hx hb dJ6_bitCount_0f7a4_51 ?_
  subst h
  exact w_iret C hw (v := ((((((((a1 - (((a1.toUInt32 >>> ((1 : Int32).toUInt32 &&& Int32.toUInt32 31)).toInt32) &&& (1431655765 : Int32))) &&& (858993459 : Int32)) + ((((a1 - (((a1.toUInt32 >>> ((1 : Int32).toUInt32 &&& Int32.toUInt32 31)).toInt32) &&& (1431655765 : Int32))).toUInt32 >>> ((2 : Int32).toUInt32 &&& Int32.toUInt32 31)).toInt32) &&& (858993459 : Int32))) + (((((a1 - (((a1.toUInt32 >>> ((1 : Int32).toUInt32 &&& Int32.toUInt32 31)).toInt32) &&& (1431655765 : Int32))) &&& (858993459 : Int32)) + ((((a1 - (((a1.toUInt32 >>> ((1 : Int32).toUInt32 &&& Int32.toUInt32 31)).toInt32) &&& (1431655765 : Int32))).toUInt32 >>> ((2 : Int32).toUInt32 &&& Int32.toUInt32 31)).toInt32) &&& (858993459 : Int32))).toUInt32 >>> ((4 : Int32).toUInt32 &&& Int32.toUInt32 31)).toInt32)) &&& (252645135 : Int32)) + (((((((a1 - (((a1.toUInt32 >>> ((1 : Int32).toUInt32 &&& Int32.toUInt32 31)).toInt32) &&& (1431655765 : Int32))) &&& (858993459 : Int32)) + ((((a1 - (((a1.toUInt32 >>> ((1 : Int32).toUInt32 &&& Int32.toUInt32 31)).toInt32) &&& (1431655765 : Int32))).toUInt32 >>> ((2 : Int32).toUInt32 &&& Int32.toUInt32 31)).toInt32) &&& (858993459 : Int32))) + (((((a1 - (((a1.toUInt32 >>> ((1 : Int32).toUInt32 &&& Int32.toUInt32 31)).toInt32) &&& (1431655765 : Int32))) &&& (858993459 : Int32)) + ((((a1 - (((a1.toUInt32 >>> ((1 : Int32).toUInt32 &&& Int32.toUInt32 31)).toInt32) &&& (1431655765 : Int32))).toUInt32 >>> ((2 : Int32).toUInt32 &&& Int32.toUInt32 31)).toInt32) &&& (858993459 : Int32))).toUInt32 >>> ((4 : Int32).toUInt32 &&& Int32.toUInt32 31)).toInt32)) &&& (252645135 : Int32)).toUInt32 >>> ((8 : Int32).toUInt32 &&& Int32.toUInt32 31)).toInt32)) + ((((((((a1 - (((a1.toUInt32 >>> ((1 : Int32).toUInt32 &&& Int32.toUInt32 31)).toInt32) &&& (1431655765 : Int32))) &&& (858993459 : Int32)) + ((((a1 - (((a1.toUInt32 >>> ((1 : Int32).toUInt32 &&& Int32.toUInt32 31)).toInt32) &&& (1431655765 : Int32))).toUInt32 >>> ((2 : Int32).toUInt32 &&& Int32.toUInt32 31)).toInt32) &&& (858993459 : Int32))) + (((((a1 - (((a1.toUInt32 >>> ((1 : Int32).toUInt32 &&& Int32.toUInt32 31)).toInt32) &&& (1431655765 : Int32))) &&& (858993459 : Int32)) + ((((a1 - (((a1.toUInt32 >>> ((1 : Int32).toUInt32 &&& Int32.toUInt32 31)).toInt32) &&& (1431655765 : Int32))).toUInt32 >>> ((2 : Int32).toUInt32 &&& Int32.toUInt32 31)).toInt32) &&& (858993459 : Int32))).toUInt32 >>> ((4 : Int32).toUInt32 &&& Int32.toUInt32 31)).toInt32)) &&& (252645135 : Int32)) + (((((((a1 - (((a1.toUInt32 >>> ((1 : Int32).toUInt32 &&& Int32.toUInt32 31)).toInt32) &&& (1431655765 : Int32))) &&& (858993459 : Int32)) + ((((a1 - (((a1.toUInt32 >>> ((1 : Int32).toUInt32 &&& Int32.toUInt32 31)).toInt32) &&& (1431655765 : Int32))).toUInt32 >>> ((2 : Int32).toUInt32 &&& Int32.toUInt32 31)).toInt32) &&& (858993459 : Int32))) + (((((a1 - (((a1.toUInt32 >>> ((1 : Int32).toUInt32 &&& Int32.toUInt32 31)).toInt32) &&& (1431655765 : Int32))) &&& (858993459 : Int32)) + ((((a1 - (((a1.toUInt32 >>> ((1 : Int32).toUInt32 &&& Int32.toUInt32 31)).toInt32) &&& (1431655765 : Int32))).toUInt32 >>> ((2 : Int32).toUInt32 &&& Int32.toUInt32 31)).toInt32) &&& (858993459 : Int32))).toUInt32 >>> ((4 : Int32).toUInt32 &&& Int32.toUInt32 31)).toInt32)) &&& (252645135 : Int32)).toUInt32 >>> ((8 : Int32).toUInt32 &&& Int32.toUInt32 31)).toInt32)).toUInt32 >>> ((16 : Int32).toUInt32 &&& Int32.toUInt32 31)).toInt32)) &&& (63 : Int32))) rfl rfl dJ6_bitCount_0f7a4_52

def f3_places_b25    (x : St) : Option (Int32 × St) :=
  (f3_finding (-1000001 : Int32) x).bind fun q => match q with
  | (v4, z3) =>
    some (v4, z3)
def f3_places  (a1 : Int32) (a2 : Int32) (a3 : Int32) (x : St) : Option (Int32 × St) :=
  if (f2_hasWhisper 0 a1 x) = 0 then
    f3_places_b25 x
  else
    if (f3_isSet a2) = 0 then
      f3_places_b25 x
    else
      if (f3_isSet a3) = 0 then
        f3_places_b25 x
      else
        (f3_goodPlaces a1 a2 a3 x).bind fun q => match q with
        | (v2, z1) =>
          some ((fJ6_bitCount_0f7a4 v2), z1)
set_option maxHeartbeats 4000000 in
set_option maxRecDepth 100000 in
theorem c3_places (l : Launch) (G : GT)  (x m : St) (a1 : Int32) (a2 : Int32) (a3 : Int32) (r : Int32 × St) (h : f3_places a1 a2 a3 x = some r) : Mt l yX3_places cX3_places 4 (some .int) (rmF 6 149) G x m [.ref (gq G 0), .int a1, .int a2, .int a3] (some (.int r.1)) r.2 m := by
  refine Mt.of (by decide) (Nat.le_of_ble_eq_true rfl) ?_
  intro p e s mm args below meth c C ls hl hw
  have hx := C.1
  have hb := C.2.1
  have hown := C.2.2.2.2.1
  replace hl : lv_has ls 4 [(0, .ref (gq G 0)), (1, .int a1), (2, .int a2), (3, .int a3)] := hl
  have B25 : ∀  (x : St) (H : Heap) (locs : List Loc) (ls : Array Slot), lv_has ls 4 [(0, .ref (gq G 0))] → Wd G s x m H locs → f3_places_b25 x = some r → W p l e (rmF 6 149) s mm args below meth c H locs 0 0 (QE below G (some (.int r.1)) r.2 m args s) (F0 mm 25 ls []) := by
    intro  x H locs ls hl hw h
    unfold f3_places_b25 at h
    refine lv_aload_n hx hb dX3_places_25 rfl (lv_at hl 0 rfl) ?_
    refine lv_ldc hx hb hown (C.w kc_X3_48) dX3_places_26 ?_
    obtain ⟨⟨v4, z3⟩, hq, h⟩ := p_bd h
    dsimp only at h
    refine w_Vi C hw (As := [.int (-1000001 : Int32)]) (rest := []) (c3_finding l G x m (-1000001 : Int32) (v4, z3) hq) kv_X3_finding ml_X3_49 ⟨rfl, rfl⟩ ⟨Nat.le_of_ble_eq_true rfl, Nat.le_of_ble_eq_true rfl⟩ ⟨Nat.zero_le _, Nat.zero_le _⟩ (w_recv C hw (wk_main G x m) rfl) rfl rfl (Nat.le_of_ble_eq_true rfl) (lv_sub hl [] rfl) dX3_places_28 (fun H locs hw => ?_)
    replace h := Option.some.inj h
    subst h
    exact w_iret C hw (v := v4) rfl rfl dX3_places_31
  unfold f3_places at h
  refine lv_aload_n hx hb dX3_places_0 rfl (lv_at hl 0 rfl) ?_
  refine w_get C hw (v := .ref (gq G (1 + 4 * 0))) (k := 0) (wk_main G x m) rfl it_3 (by decide) fl_X3_10 rfl dX3_places_1 ?_
  refine lv_iload_n hx hb dX3_places_4 rfl (lv_at hl 1 rfl) ?_
  refine w_Vi C hw (As := [.int a1]) (rest := []) (c2_hasWhisper l G 0 (by decide) x m a1 _ rfl) kv_X2_hasWhisper ml_X3_89 ⟨rfl, rfl⟩ ⟨Nat.le_of_ble_eq_true rfl, Nat.le_of_ble_eq_true rfl⟩ ⟨Nat.zero_le _, Nat.zero_le _⟩ (w_recv C hw (wk_town G x m (by decide)) rfl) rfl rfl (Nat.le_of_ble_eq_true rfl) (lv_sub hl [] rfl) dX3_places_5 (fun H locs hw => ?_)
  refine lv_if_eq (tgt := 25) hx hb dX3_places_8 (by decide) (fun hc => ?_) (fun hc => ?_)
  · replace h := p_t hc h
    exact B25 x _ _ _ (lv_sub hl [0] rfl) hw h
  · replace h := p_f hc h
    refine lv_iload_n hx hb dX3_places_11 rfl (lv_at hl 2 rfl) ?_
    refine w_Si C hw (As := [.int a2]) (rest := []) (c3_isSet l G x m a2 _ rfl) ks_X3_isSet ml_X3_107 ⟨rfl, rfl⟩ ⟨Nat.le_of_ble_eq_true rfl, Nat.le_of_ble_eq_true rfl⟩ ⟨Nat.zero_le _, Nat.zero_le _⟩ rfl rfl (Nat.le_of_ble_eq_true rfl) (lv_sub hl [] rfl) dX3_places_12 (fun H locs hw => ?_)
    refine lv_if_eq (tgt := 25) hx hb dX3_places_15 (by decide) (fun hc => ?_) (fun hc => ?_)
    · replace h := p_t hc h
      exact B25 x _ _ _ (lv_sub hl [0] rfl) hw h
    · replace h := p_f hc h
      refine lv_iload_n hx hb dX3_places_18 rfl (lv_at hl 3 rfl) ?_
      refine w_Si C hw (As := [.int a3]) (rest := []) (c3_isSet l G x m a3 _ rfl) ks_X3_isSet ml_X3_107 ⟨rfl, rfl⟩ ⟨Nat.le_of_ble_eq_true rfl, Nat.le_of_ble_eq_true rfl⟩ ⟨Nat.zero_le _, Nat.zero_le _⟩ rfl rfl (Nat.le_of_ble_eq_true rfl) (lv_sub hl [] rfl) dX3_places_19 (fun H locs hw => ?_)
      refine lv_if_ne (tgt := 32) hx hb dX3_places_22 (by decide) (fun hc => ?_) (fun hc => ?_)
      · replace h := p_f hc h
        refine lv_aload_n hx hb dX3_places_32 rfl (lv_at hl 0 rfl) ?_
        refine lv_iload_n hx hb dX3_places_33 rfl (lv_at hl 1 rfl) ?_
        refine lv_iload_n hx hb dX3_places_34 rfl (lv_at hl 2 rfl) ?_
        refine lv_iload_n hx hb dX3_places_35 rfl (lv_at hl 3 rfl) ?_
        obtain ⟨⟨v2, z1⟩, hq, h⟩ := p_bd h
        dsimp only at h
        refine w_Vi C hw (As := [.int a1, .int a2, .int a3]) (rest := []) (c3_goodPlaces l G x m a1 a2 a3 (v2, z1) hq) kv_X3_goodPlaces ml_X3_161 ⟨rfl, rfl⟩ ⟨Nat.le_of_ble_eq_true rfl, Nat.le_of_ble_eq_true rfl⟩ ⟨Nat.zero_le _, Nat.zero_le _⟩ (w_recv C hw (wk_main G x m) rfl) rfl rfl (Nat.le_of_ble_eq_true rfl) (lv_sub hl [] rfl) dX3_places_36 (fun H locs hw => ?_)
        refine w_Si C hw (As := [.int v2]) (rest := []) (qJ6_bitCount_0f7a4 l G z1 m v2 _ rfl) ks_J6_bitCount_0f7a4 ml_X3_167 ⟨rfl, rfl⟩ ⟨Nat.le_of_ble_eq_true rfl, Nat.le_of_ble_eq_true rfl⟩ ⟨Nat.zero_le _, Nat.zero_le _⟩ rfl rfl (Nat.le_of_ble_eq_true rfl) (lv_sub hl [] rfl) dX3_places_39 (fun H locs hw => ?_)
        replace h := Option.some.inj h
        subst h
        exact w_iret C hw (v := (fJ6_bitCount_0f7a4 v2)) rfl rfl dX3_places_42
      · replace h := p_t hc h
        exact B25 x _ _ _ (lv_sub hl [0] rfl) hw h

def f3_weightFor_L92   : Nat → Int32 → Int32 → Int32 → Int32 → Int32 → St → Option (Int32 × St)
  | 0, _, _, _, _, _, _ => none
  | n + 1, b1, b2, b3, b5, b6, x =>
    if (999 : Int32) < b6 then
      (f3_finding (-1000004 : Int32) x).bind fun q => match q with
      | (v10, z9) =>
        some (v10, z9)
    else
      (f2_quality 0 b1 (1 : Int32) x).bind fun v11 =>
      (f2_setQuality 2 b1 (1 : Int32) v11 x).bind fun z12 =>
      (f2_setQuality 2 b1 (2 : Int32) b6 z12).bind fun z13 =>
      (f2_wayOf 2 b1 b3 z13).bind fun q => match q with
      | (v15, z14) =>
        (f2_weightAt 2 b1 b2 z14).bind fun v16 =>
        if v16 < b5 then
          (f3_weightFor_L92 n) b1 b2 b3 b5 (b6 + (1 : Int32)) z14
        else
          some (b6, z14)
theorem f3_weightFor_L92_0   (b1 : Int32) (b2 : Int32) (b3 : Int32) (b5 : Int32) (b6 : Int32) (x : St) : f3_weightFor_L92  0 b1 b2 b3 b5 b6 x = none := rfl
theorem f3_weightFor_L92_s   (n : Nat) (b1 : Int32) (b2 : Int32) (b3 : Int32) (b5 : Int32) (b6 : Int32) (x : St) : f3_weightFor_L92  (n + 1) b1 b2 b3 b5 b6 x =
    if (999 : Int32) < b6 then
      (f3_finding (-1000004 : Int32) x).bind fun q => match q with
      | (v10, z9) =>
        some (v10, z9)
    else
      (f2_quality 0 b1 (1 : Int32) x).bind fun v11 =>
      (f2_setQuality 2 b1 (1 : Int32) v11 x).bind fun z12 =>
      (f2_setQuality 2 b1 (2 : Int32) b6 z12).bind fun z13 =>
      (f2_wayOf 2 b1 b3 z13).bind fun q => match q with
      | (v15, z14) =>
        (f2_weightAt 2 b1 b2 z14).bind fun v16 =>
        if v16 < b5 then
          (f3_weightFor_L92 n) b1 b2 b3 b5 (b6 + (1 : Int32)) z14
        else
          some (b6, z14) := rfl
def f3_weightFor_b28    (x : St) : Option (Int32 × St) :=
  (f3_finding (-1000001 : Int32) x).bind fun q => match q with
  | (v8, z7) =>
    some (v8, z7)
def f3_weightFor  (a1 : Int32) (a2 : Int32) (a3 : Int32) (x : St) : Option (Int32 × St) :=
  if (f2_hasWhisper 0 a1 x) = 0 then
    f3_weightFor_b28 x
  else
    if (f3_isCorner a2) = 0 then
      f3_weightFor_b28 x
    else
      if (f3_isWithin a3 (0 : Int32) (40 : Int32)) = 0 then
        f3_weightFor_b28 x
      else
        (f2_become 2 0 x).bind fun z1 =>
        (f2_pass 2 a3 z1).bind fun q => match q with
        | (v3, z2) =>
          (f2_loudAt 2 a2 z2).bind fun v4 =>
          (f2_weightAt 2 a1 a2 z2).bind fun v5 =>
          (f2_trait 0 a2 (4 : Int32) z2).bind fun v6 =>
          f3_weightFor_L92 fu a1 a2 a3 (v6 - (v4 - v5)) (1 : Int32) z2
set_option maxHeartbeats 4000000 in
set_option maxRecDepth 100000 in
theorem c3_weightFor (l : Launch) (G : GT)  (x m : St) (a1 : Int32) (a2 : Int32) (a3 : Int32) (r : Int32 × St) (h : f3_weightFor a1 a2 a3 x = some r) : Mt l yX3_weightFor cX3_weightFor 7 (some .int) (rmF 5 123) G x m [.ref (gq G 0), .int a1, .int a2, .int a3] (some (.int r.1)) r.2 m := by
  refine Mt.of (by decide) (Nat.le_of_ble_eq_true rfl) ?_
  intro p e s mm args below meth c C ls hl hw
  have hx := C.1
  have hb := C.2.1
  have hown := C.2.2.2.2.1
  replace hl : lv_has ls 7 [(0, .ref (gq G 0)), (1, .int a1), (2, .int a2), (3, .int a3)] := hl
  have L92 : ∀ (n92 : Nat) (b1 : Int32) (b2 : Int32) (b3 : Int32) (b5 : Int32) (b6 : Int32) (x : St) (H : Heap) (locs : List Loc) (ls : Array Slot), lv_has ls 7 [(0, .ref (gq G 0)), (1, .int b1), (2, .int b2), (3, .int b3), (5, .int b5), (6, .int b6)] → Wd G s x m H locs → f3_weightFor_L92 n92 b1 b2 b3 b5 b6 x = some r → W p l e (rmF 5 123) s mm args below meth c H locs 0 0 (QE below G (some (.int r.1)) r.2 m args s) (F0 mm 92 ls []) := by
    intro n92
    induction n92 with
    | zero =>
      intro b1 b2 b3 b5 b6 x H locs ls hl hw h
      rw [f3_weightFor_L92_0] at h
      exact absurd h.symm (Option.some_ne_none _)
    | succ n92 ih92 =>
      intro b1 b2 b3 b5 b6 x H locs ls hl hw h
      rw [f3_weightFor_L92_s] at h
      refine lv_iload hx hb dX3_weightFor_92 (lv_at hl 5 rfl) ?_
      refine lv_sipush (v := (999 : Int32)) hx hb dX3_weightFor_94 (by decide) ?_
      refine lv_icmp_gt (tgt := 162) hx hb dX3_weightFor_97 (by decide) (fun hc => ?_) (fun hc => ?_)
      · replace h := p_t hc h
        refine lv_aload_n hx hb dX3_weightFor_162 rfl (lv_at hl 0 rfl) ?_
        refine lv_ldc hx hb hown (C.w kc_X3_138) dX3_weightFor_163 ?_
        obtain ⟨⟨v10, z9⟩, hq, h⟩ := p_bd h
        dsimp only at h
        refine w_Vi C hw (As := [.int (-1000004 : Int32)]) (rest := []) (c3_finding l G x m (-1000004 : Int32) (v10, z9) hq) kv_X3_finding ml_X3_49 ⟨rfl, rfl⟩ ⟨Nat.le_of_ble_eq_true rfl, Nat.le_of_ble_eq_true rfl⟩ ⟨Nat.zero_le _, Nat.zero_le _⟩ (w_recv C hw (wk_main G x m) rfl) rfl rfl (Nat.le_of_ble_eq_true rfl) (lv_sub hl [] rfl) dX3_weightFor_165 (fun H locs hw => ?_)
        replace h := Option.some.inj h
        subst h
        exact w_iret C hw (v := v10) rfl rfl dX3_weightFor_168
      · replace h := p_f hc h
        refine lv_aload_n hx hb dX3_weightFor_100 rfl (lv_at hl 0 rfl) ?_
        refine w_get C hw (v := .ref (gq G (1 + 4 * 2))) (k := 2) (wk_main G x m) rfl it_3 (by decide) fl_X3_19 rfl dX3_weightFor_101 ?_
        refine lv_iload_n hx hb dX3_weightFor_104 rfl (lv_at hl 1 rfl) ?_
        refine lv_iconst (v := (1 : Int32)) hx hb dX3_weightFor_105 (by decide) ?_
        refine lv_aload_n hx hb dX3_weightFor_106 rfl (lv_at hl 0 rfl) ?_
        refine w_get C hw (v := .ref (gq G (1 + 4 * 0))) (k := 0) (wk_main G x m) rfl it_3 (by decide) fl_X3_10 rfl dX3_weightFor_107 ?_
        refine lv_iload_n hx hb dX3_weightFor_110 rfl (lv_at hl 1 rfl) ?_
        refine lv_iconst (v := (1 : Int32)) hx hb dX3_weightFor_111 (by decide) ?_
        obtain ⟨v11, hq, h⟩ := p_bd h
        refine w_Vi C hw (As := [.int b1, .int (1 : Int32)]) (rest := [.int (1 : Int32), .int b1, .ref (gq G (1 + 4 * 2))]) (c2_quality l G 0 (by decide) x m b1 (1 : Int32) v11 hq) kv_X2_quality ml_X3_98 ⟨rfl, rfl⟩ ⟨Nat.le_of_ble_eq_true rfl, Nat.le_of_ble_eq_true rfl⟩ ⟨Nat.zero_le _, Nat.zero_le _⟩ (w_recv C hw (wk_town G x m (by decide)) rfl) rfl rfl (Nat.le_of_ble_eq_true rfl) (lv_sub hl [] rfl) dX3_weightFor_112 (fun H locs hw => ?_)
        obtain ⟨z12, hq, h⟩ := p_bd h
        refine w_Vv C hw (As := [.int b1, .int (1 : Int32), .int v11]) (rest := []) (c2_setQuality l G 2 (by decide) x m b1 (1 : Int32) v11 z12 hq) kv_X2_setQuality ml_X3_104 ⟨rfl, rfl⟩ ⟨Nat.le_of_ble_eq_true rfl, Nat.le_of_ble_eq_true rfl⟩ ⟨Nat.zero_le _, Nat.zero_le _⟩ (w_recv C hw (wk_town G x m (by decide)) rfl) rfl rfl (Nat.le_of_ble_eq_true rfl) (lv_sub hl [] rfl) dX3_weightFor_115 (fun H locs hw => ?_)
        refine lv_aload_n hx hb dX3_weightFor_118 rfl (lv_at hl 0 rfl) ?_
        refine w_get C hw (v := .ref (gq G (1 + 4 * 2))) (k := 2) (wk_main G z12 m) rfl it_3 (by decide) fl_X3_19 rfl dX3_weightFor_119 ?_
        refine lv_iload_n hx hb dX3_weightFor_122 rfl (lv_at hl 1 rfl) ?_
        refine lv_iconst (v := (2 : Int32)) hx hb dX3_weightFor_123 (by decide) ?_
        refine lv_iload hx hb dX3_weightFor_124 (lv_at hl 5 rfl) ?_
        obtain ⟨z13, hq, h⟩ := p_bd h
        refine w_Vv C hw (As := [.int b1, .int (2 : Int32), .int b6]) (rest := []) (c2_setQuality l G 2 (by decide) z12 m b1 (2 : Int32) b6 z13 hq) kv_X2_setQuality ml_X3_104 ⟨rfl, rfl⟩ ⟨Nat.le_of_ble_eq_true rfl, Nat.le_of_ble_eq_true rfl⟩ ⟨Nat.zero_le _, Nat.zero_le _⟩ (w_recv C hw (wk_town G z12 m (by decide)) rfl) rfl rfl (Nat.le_of_ble_eq_true rfl) (lv_sub hl [] rfl) dX3_weightFor_126 (fun H locs hw => ?_)
        refine lv_aload_n hx hb dX3_weightFor_129 rfl (lv_at hl 0 rfl) ?_
        refine w_get C hw (v := .ref (gq G (1 + 4 * 2))) (k := 2) (wk_main G z13 m) rfl it_3 (by decide) fl_X3_19 rfl dX3_weightFor_130 ?_
        refine lv_iload_n hx hb dX3_weightFor_133 rfl (lv_at hl 1 rfl) ?_
        refine lv_iload_n hx hb dX3_weightFor_134 rfl (lv_at hl 3 rfl) ?_
        obtain ⟨⟨v15, z14⟩, hq, h⟩ := p_bd h
        dsimp only at h
        refine w_Vi C hw (As := [.int b1, .int b3]) (rest := []) (c2_wayOf l G 2 (by decide) z13 m b1 b3 (v15, z14) hq) kv_X2_wayOf ml_X3_158 ⟨rfl, rfl⟩ ⟨Nat.le_of_ble_eq_true rfl, Nat.le_of_ble_eq_true rfl⟩ ⟨Nat.zero_le _, Nat.zero_le _⟩ (w_recv C hw (wk_town G z13 m (by decide)) rfl) rfl rfl (Nat.le_of_ble_eq_true rfl) (lv_sub hl [] rfl) dX3_weightFor_135 (fun H locs hw => ?_)
        refine lv_pop hx hb dX3_weightFor_138 rfl ?_
        refine lv_aload_n hx hb dX3_weightFor_139 rfl (lv_at hl 0 rfl) ?_
        refine w_get C hw (v := .ref (gq G (1 + 4 * 2))) (k := 2) (wk_main G z14 m) rfl it_3 (by decide) fl_X3_19 rfl dX3_weightFor_140 ?_
        refine lv_iload_n hx hb dX3_weightFor_143 rfl (lv_at hl 1 rfl) ?_
        refine lv_iload_n hx hb dX3_weightFor_144 rfl (lv_at hl 2 rfl) ?_
        obtain ⟨v16, hq, h⟩ := p_bd h
        refine w_Vi C hw (As := [.int b1, .int b2]) (rest := []) (c2_weightAt l G 2 (by decide) z14 m b1 b2 v16 hq) kv_X2_weightAt ml_X3_172 ⟨rfl, rfl⟩ ⟨Nat.le_of_ble_eq_true rfl, Nat.le_of_ble_eq_true rfl⟩ ⟨Nat.zero_le _, Nat.zero_le _⟩ (w_recv C hw (wk_town G z14 m (by decide)) rfl) rfl rfl (Nat.le_of_ble_eq_true rfl) (lv_sub hl [] rfl) dX3_weightFor_145 (fun H locs hw => ?_)
        refine lv_iload hx hb dX3_weightFor_148 (lv_at hl 4 rfl) ?_
        refine lv_icmp_lt (tgt := 156) hx hb dX3_weightFor_150 (by decide) (fun hc => ?_) (fun hc => ?_)
        · replace h := p_t hc h
          refine lv_iinc (v := (b6 + (1 : Int32))) (lv' := [(6, .int (b6 + (1 : Int32))), (0, .ref (gq G 0)), (1, .int b1), (2, .int b2), (3, .int b3), (5, .int b5)]) hx hb dX3_weightFor_156 hl (k := 5) rfl rfl (by decide) rfl (fun ls hl => ?_)
          refine lv_goto (tgt := 92) hx hb dX3_weightFor_159 (by decide) ?_
          exact ih92 b1 b2 b3 b5 (b6 + (1 : Int32)) z14 _ _ _ (lv_sub hl [1, 2, 3, 4, 5, 0] rfl) hw h
        · replace h := p_f hc h
          refine lv_iload hx hb dX3_weightFor_153 (lv_at hl 5 rfl) ?_
          replace h := Option.some.inj h
          subst h
          exact w_iret C hw (v := b6) rfl rfl dX3_weightFor_155
  have B28 : ∀  (x : St) (H : Heap) (locs : List Loc) (ls : Array Slot), lv_has ls 7 [(0, .ref (gq G 0))] → Wd G s x m H locs → f3_weightFor_b28 x = some r → W p l e (rmF 5 123) s mm args below meth c H locs 0 0 (QE below G (some (.int r.1)) r.2 m args s) (F0 mm 28 ls []) := by
    intro  x H locs ls hl hw h
    unfold f3_weightFor_b28 at h
    refine lv_aload_n hx hb dX3_weightFor_28 rfl (lv_at hl 0 rfl) ?_
    refine lv_ldc hx hb hown (C.w kc_X3_48) dX3_weightFor_29 ?_
    obtain ⟨⟨v8, z7⟩, hq, h⟩ := p_bd h
    dsimp only at h
    refine w_Vi C hw (As := [.int (-1000001 : Int32)]) (rest := []) (c3_finding l G x m (-1000001 : Int32) (v8, z7) hq) kv_X3_finding ml_X3_49 ⟨rfl, rfl⟩ ⟨Nat.le_of_ble_eq_true rfl, Nat.le_of_ble_eq_true rfl⟩ ⟨Nat.zero_le _, Nat.zero_le _⟩ (w_recv C hw (wk_main G x m) rfl) rfl rfl (Nat.le_of_ble_eq_true rfl) (lv_sub hl [] rfl) dX3_weightFor_31 (fun H locs hw => ?_)
    replace h := Option.some.inj h
    subst h
    exact w_iret C hw (v := v8) rfl rfl dX3_weightFor_34
  unfold f3_weightFor at h
  refine lv_aload_n hx hb dX3_weightFor_0 rfl (lv_at hl 0 rfl) ?_
  refine w_get C hw (v := .ref (gq G (1 + 4 * 0))) (k := 0) (wk_main G x m) rfl it_3 (by decide) fl_X3_10 rfl dX3_weightFor_1 ?_
  refine lv_iload_n hx hb dX3_weightFor_4 rfl (lv_at hl 1 rfl) ?_
  refine w_Vi C hw (As := [.int a1]) (rest := []) (c2_hasWhisper l G 0 (by decide) x m a1 _ rfl) kv_X2_hasWhisper ml_X3_89 ⟨rfl, rfl⟩ ⟨Nat.le_of_ble_eq_true rfl, Nat.le_of_ble_eq_true rfl⟩ ⟨Nat.zero_le _, Nat.zero_le _⟩ (w_recv C hw (wk_town G x m (by decide)) rfl) rfl rfl (Nat.le_of_ble_eq_true rfl) (lv_sub hl [] rfl) dX3_weightFor_5 (fun H locs hw => ?_)
  refine lv_if_eq (tgt := 28) hx hb dX3_weightFor_8 (by decide) (fun hc => ?_) (fun hc => ?_)
  · replace h := p_t hc h
    exact B28 x _ _ _ (lv_sub hl [0] rfl) hw h
  · replace h := p_f hc h
    refine lv_iload_n hx hb dX3_weightFor_11 rfl (lv_at hl 2 rfl) ?_
    refine w_Si C hw (As := [.int a2]) (rest := []) (c3_isCorner l G x m a2 _ rfl) ks_X3_isCorner ml_X3_40 ⟨rfl, rfl⟩ ⟨Nat.le_of_ble_eq_true rfl, Nat.le_of_ble_eq_true rfl⟩ ⟨Nat.zero_le _, Nat.zero_le _⟩ rfl rfl (Nat.le_of_ble_eq_true rfl) (lv_sub hl [] rfl) dX3_weightFor_12 (fun H locs hw => ?_)
    refine lv_if_eq (tgt := 28) hx hb dX3_weightFor_15 (by decide) (fun hc => ?_) (fun hc => ?_)
    · replace h := p_t hc h
      exact B28 x _ _ _ (lv_sub hl [0] rfl) hw h
    · replace h := p_f hc h
      refine lv_iload_n hx hb dX3_weightFor_18 rfl (lv_at hl 3 rfl) ?_
      refine lv_iconst (v := (0 : Int32)) hx hb dX3_weightFor_19 (by decide) ?_
      refine lv_bipush (v := (40 : Int32)) hx hb dX3_weightFor_20 (by decide) ?_
      refine w_Si C hw (As := [.int a3, .int (0 : Int32), .int (40 : Int32)]) (rest := []) (c3_isWithin l G x m a3 (0 : Int32) (40 : Int32) _ rfl) ks_X3_isWithin ml_X3_44 ⟨rfl, rfl⟩ ⟨Nat.le_of_ble_eq_true rfl, Nat.le_of_ble_eq_true rfl⟩ ⟨Nat.zero_le _, Nat.zero_le _⟩ rfl rfl (Nat.le_of_ble_eq_true rfl) (lv_sub hl [] rfl) dX3_weightFor_22 (fun H locs hw => ?_)
      refine lv_if_ne (tgt := 35) hx hb dX3_weightFor_25 (by decide) (fun hc => ?_) (fun hc => ?_)
      · replace h := p_f hc h
        refine lv_aload_n hx hb dX3_weightFor_35 rfl (lv_at hl 0 rfl) ?_
        refine w_get C hw (v := .ref (gq G (1 + 4 * 2))) (k := 2) (wk_main G x m) rfl it_3 (by decide) fl_X3_19 rfl dX3_weightFor_36 ?_
        refine lv_aload_n hx hb dX3_weightFor_39 rfl (lv_at hl 0 rfl) ?_
        refine w_get C hw (v := .ref (gq G (1 + 4 * 0))) (k := 0) (wk_main G x m) rfl it_3 (by decide) fl_X3_10 rfl dX3_weightFor_40 ?_
        obtain ⟨z1, hq, h⟩ := p_bd h
        refine w_Vv C hw (As := [.ref (gq G (1 + 4 * 0))]) (rest := []) (c2_become l G 2 (by decide) 0 (by decide) x m z1 hq) kv_X2_become ml_X3_143 ⟨rfl, rfl⟩ ⟨Nat.le_of_ble_eq_true rfl, Nat.le_of_ble_eq_true rfl⟩ ⟨Nat.zero_le _, Nat.zero_le _⟩ (w_recv C hw (wk_town G x m (by decide)) rfl) rfl rfl (Nat.le_of_ble_eq_true rfl) (lv_sub hl [] rfl) dX3_weightFor_43 (fun H locs hw => ?_)
        refine lv_aload_n hx hb dX3_weightFor_46 rfl (lv_at hl 0 rfl) ?_
        refine w_get C hw (v := .ref (gq G (1 + 4 * 2))) (k := 2) (wk_main G z1 m) rfl it_3 (by decide) fl_X3_19 rfl dX3_weightFor_47 ?_
        refine lv_iload_n hx hb dX3_weightFor_50 rfl (lv_at hl 3 rfl) ?_
        obtain ⟨⟨v3, z2⟩, hq, h⟩ := p_bd h
        dsimp only at h
        refine w_Vi C hw (As := [.int a3]) (rest := []) (c2_pass l G 2 (by decide) z1 m a3 (v3, z2) hq) kv_X2_pass ml_X3_122 ⟨rfl, rfl⟩ ⟨Nat.le_of_ble_eq_true rfl, Nat.le_of_ble_eq_true rfl⟩ ⟨Nat.zero_le _, Nat.zero_le _⟩ (w_recv C hw (wk_town G z1 m (by decide)) rfl) rfl rfl (Nat.le_of_ble_eq_true rfl) (lv_sub hl [] rfl) dX3_weightFor_51 (fun H locs hw => ?_)
        refine lv_pop hx hb dX3_weightFor_54 rfl ?_
        refine lv_aload_n hx hb dX3_weightFor_55 rfl (lv_at hl 0 rfl) ?_
        refine w_get C hw (v := .ref (gq G (1 + 4 * 2))) (k := 2) (wk_main G z2 m) rfl it_3 (by decide) fl_X3_19 rfl dX3_weightFor_56 ?_
        refine lv_iload_n hx hb dX3_weightFor_59 rfl (lv_at hl 2 rfl) ?_
        obtain ⟨v4, hq, h⟩ := p_bd h
        refine w_Vi C hw (As := [.int a2]) (rest := []) (c2_loudAt l G 2 (by decide) z2 m a2 v4 hq) kv_X2_loudAt ml_X3_56 ⟨rfl, rfl⟩ ⟨Nat.le_of_ble_eq_true rfl, Nat.le_of_ble_eq_true rfl⟩ ⟨Nat.zero_le _, Nat.zero_le _⟩ (w_recv C hw (wk_town G z2 m (by decide)) rfl) rfl rfl (Nat.le_of_ble_eq_true rfl) (lv_sub hl [] rfl) dX3_weightFor_60 (fun H locs hw => ?_)
        refine lv_aload_n hx hb dX3_weightFor_63 rfl (lv_at hl 0 rfl) ?_
        refine w_get C hw (v := .ref (gq G (1 + 4 * 2))) (k := 2) (wk_main G z2 m) rfl it_3 (by decide) fl_X3_19 rfl dX3_weightFor_64 ?_
        refine lv_iload_n hx hb dX3_weightFor_67 rfl (lv_at hl 1 rfl) ?_
        refine lv_iload_n hx hb dX3_weightFor_68 rfl (lv_at hl 2 rfl) ?_
        obtain ⟨v5, hq, h⟩ := p_bd h
        refine w_Vi C hw (As := [.int a1, .int a2]) (rest := [.int v4]) (c2_weightAt l G 2 (by decide) z2 m a1 a2 v5 hq) kv_X2_weightAt ml_X3_172 ⟨rfl, rfl⟩ ⟨Nat.le_of_ble_eq_true rfl, Nat.le_of_ble_eq_true rfl⟩ ⟨Nat.zero_le _, Nat.zero_le _⟩ (w_recv C hw (wk_town G z2 m (by decide)) rfl) rfl rfl (Nat.le_of_ble_eq_true rfl) (lv_sub hl [] rfl) dX3_weightFor_69 (fun H locs hw => ?_)
        refine lv_isub hx hb dX3_weightFor_72 ?_
        refine lv_istore (lv' := [(4, .int (v4 - v5)), (0, .ref (gq G 0)), (1, .int a1), (2, .int a2), (3, .int a3)]) hx hb dX3_weightFor_73 hl (by decide) rfl (fun ls hl => ?_)
        refine lv_aload_n hx hb dX3_weightFor_75 rfl (lv_at hl 1 rfl) ?_
        refine w_get C hw (v := .ref (gq G (1 + 4 * 0))) (k := 0) (wk_main G z2 m) rfl it_3 (by decide) fl_X3_10 rfl dX3_weightFor_76 ?_
        refine lv_iload_n hx hb dX3_weightFor_79 rfl (lv_at hl 3 rfl) ?_
        refine lv_iconst (v := (4 : Int32)) hx hb dX3_weightFor_80 (by decide) ?_
        obtain ⟨v6, hq, h⟩ := p_bd h
        refine w_Vi C hw (As := [.int a2, .int (4 : Int32)]) (rest := []) (c2_trait l G 0 (by decide) z2 m a2 (4 : Int32) v6 hq) kv_X2_trait ml_X3_65 ⟨rfl, rfl⟩ ⟨Nat.le_of_ble_eq_true rfl, Nat.le_of_ble_eq_true rfl⟩ ⟨Nat.zero_le _, Nat.zero_le _⟩ (w_recv C hw (wk_town G z2 m (by decide)) rfl) rfl rfl (Nat.le_of_ble_eq_true rfl) (lv_sub hl [] rfl) dX3_weightFor_81 (fun H locs hw => ?_)
        refine lv_iload hx hb dX3_weightFor_84 (lv_at hl 0 rfl) ?_
        refine lv_isub hx hb dX3_weightFor_86 ?_
        refine lv_istore (lv' := [(5, .int (v6 - (v4 - v5))), (4, .int (v4 - v5)), (0, .ref (gq G 0)), (1, .int a1), (2, .int a2), (3, .int a3)]) hx hb dX3_weightFor_87 hl (by decide) rfl (fun ls hl => ?_)
        refine lv_iconst (v := (1 : Int32)) hx hb dX3_weightFor_89 (by decide) ?_
        refine lv_istore (lv' := [(6, .int (1 : Int32)), (5, .int (v6 - (v4 - v5))), (4, .int (v4 - v5)), (0, .ref (gq G 0)), (1, .int a1), (2, .int a2), (3, .int a3)]) hx hb dX3_weightFor_90 hl (by decide) rfl (fun ls hl => ?_)
        exact L92 fu a1 a2 a3 (v6 - (v4 - v5)) (1 : Int32) z2 _ _ _ (lv_sub hl [3, 4, 5, 6, 1, 0] rfl) hw h
      · replace h := p_t hc h
        exact B28 x _ _ _ (lv_sub hl [0] rfl) hw h

def f3_cheapestSand_b88  (k10 : Int32 → Int32 → Int32 → Int32 → Int32 → Int32 → St → Option (Int32 × St)) (b1 : Int32) (b2 : Int32) (b3 : Int32) (b4 : Int32) (b5 : Int32) (b6 : Int32) (x : St) : Option (Int32 × St) :=
  k10 b1 b2 b3 b4 b5 (b6 + (1 : Int32)) x
def f3_cheapestSand_L10   : Nat → Int32 → Int32 → Int32 → Int32 → Int32 → Int32 → St → Option (Int32 × St)
  | 0, _, _, _, _, _, _, _ => none
  | n + 1, b1, b2, b3, b4, b5, b6, x =>
    if (256 : Int32) ≤ b6 then
      some (b4, x)
    else
      (f2_costOf 0 b6 x).bind fun v1 =>
      if v1 < b5 then
        (f2_become 2 0 x).bind fun z2 =>
        (f2_sandAll 2 b6 z2).bind fun z3 =>
        (f2_pass 2 b3 z3).bind fun q => match q with
        | (v5, z4) =>
          (f2_loudAt 2 b1 z4).bind fun v6 =>
          if b2 < v6 then
            f3_cheapestSand_b88 (f3_cheapestSand_L10 n) b1 b2 b3 b4 b5 b6 z4
          else
            f3_cheapestSand_b88 (f3_cheapestSand_L10 n) b1 b2 b3 b6 v1 b6 z4
      else
        f3_cheapestSand_b88 (f3_cheapestSand_L10 n) b1 b2 b3 b4 b5 b6 x
theorem f3_cheapestSand_L10_0   (b1 : Int32) (b2 : Int32) (b3 : Int32) (b4 : Int32) (b5 : Int32) (b6 : Int32) (x : St) : f3_cheapestSand_L10  0 b1 b2 b3 b4 b5 b6 x = none := rfl
theorem f3_cheapestSand_L10_s   (n : Nat) (b1 : Int32) (b2 : Int32) (b3 : Int32) (b4 : Int32) (b5 : Int32) (b6 : Int32) (x : St) : f3_cheapestSand_L10  (n + 1) b1 b2 b3 b4 b5 b6 x =
    if (256 : Int32) ≤ b6 then
      some (b4, x)
    else
      (f2_costOf 0 b6 x).bind fun v1 =>
      if v1 < b5 then
        (f2_become 2 0 x).bind fun z2 =>
        (f2_sandAll 2 b6 z2).bind fun z3 =>
        (f2_pass 2 b3 z3).bind fun q => match q with
        | (v5, z4) =>
          (f2_loudAt 2 b1 z4).bind fun v6 =>
          if b2 < v6 then
            f3_cheapestSand_b88 (f3_cheapestSand_L10 n) b1 b2 b3 b4 b5 b6 z4
          else
            f3_cheapestSand_b88 (f3_cheapestSand_L10 n) b1 b2 b3 b6 v1 b6 z4
      else
        f3_cheapestSand_b88 (f3_cheapestSand_L10 n) b1 b2 b3 b4 b5 b6 x := rfl
def f3_cheapestSand  (a1 : Int32) (a2 : Int32) (a3 : Int32) (x : St) : Option (Int32 × St) :=
  f3_cheapestSand_L10 fu a1 a2 a3 (-1 : Int32) (1000000 : Int32) (0 : Int32) x
set_option maxHeartbeats 4000000 in
set_option maxRecDepth 100000 in
theorem c3_cheapestSand (l : Launch) (G : GT)  (x m : St) (a1 : Int32) (a2 : Int32) (a3 : Int32) (r : Int32 × St) (h : f3_cheapestSand a1 a2 a3 x = some r) : Mt l yX3_cheapestSand cX3_cheapestSand 8 (some .int) (rmF 5 122) G x m [.ref (gq G 0), .int a1, .int a2, .int a3] (some (.int r.1)) r.2 m := by
  refine Mt.of (by decide) (Nat.le_of_ble_eq_true rfl) ?_
  intro p e s mm args below meth c C ls hl hw
  have hx := C.1
  have hb := C.2.1
  have hown := C.2.2.2.2.1
  replace hl : lv_has ls 8 [(0, .ref (gq G 0)), (1, .int a1), (2, .int a2), (3, .int a3)] := hl
  have L10 : ∀ (n10 : Nat) (b1 : Int32) (b2 : Int32) (b3 : Int32) (b4 : Int32) (b5 : Int32) (b6 : Int32) (x : St) (H : Heap) (locs : List Loc) (ls : Array Slot), lv_has ls 8 [(0, .ref (gq G 0)), (1, .int b1), (2, .int b2), (3, .int b3), (4, .int b4), (5, .int b5), (6, .int b6)] → Wd G s x m H locs → f3_cheapestSand_L10 n10 b1 b2 b3 b4 b5 b6 x = some r → W p l e (rmF 5 122) s mm args below meth c H locs 0 0 (QE below G (some (.int r.1)) r.2 m args s) (F0 mm 10 ls []) := by
    intro n10
    induction n10 with
    | zero =>
      intro b1 b2 b3 b4 b5 b6 x H locs ls hl hw h
      rw [f3_cheapestSand_L10_0] at h
      exact absurd h.symm (Option.some_ne_none _)
    | succ n10 ih10 =>
      have B88 : ∀ (b1 : Int32) (b2 : Int32) (b3 : Int32) (b4 : Int32) (b5 : Int32) (b6 : Int32) (x : St) (H : Heap) (locs : List Loc) (ls : Array Slot), lv_has ls 8 [(0, .ref (gq G 0)), (1, .int b1), (2, .int b2), (3, .int b3), (4, .int b4), (5, .int b5), (6, .int b6)] → Wd G s x m H locs → f3_cheapestSand_b88 (f3_cheapestSand_L10 n10) b1 b2 b3 b4 b5 b6 x = some r → W p l e (rmF 5 122) s mm args below meth c H locs 0 0 (QE below G (some (.int r.1)) r.2 m args s) (F0 mm 88 ls []) := by
        intro b1 b2 b3 b4 b5 b6 x H locs ls hl hw h
        unfold f3_cheapestSand_b88 at h
        refine lv_iinc (v := (b6 + (1 : Int32))) (lv' := [(6, .int (b6 + (1 : Int32))), (0, .ref (gq G 0)), (1, .int b1), (2, .int b2), (3, .int b3), (4, .int b4), (5, .int b5)]) hx hb dX3_cheapestSand_88 hl (k := 6) rfl rfl (by decide) rfl (fun ls hl => ?_)
        refine lv_goto (tgt := 10) hx hb dX3_cheapestSand_91 (by decide) ?_
        exact ih10 b1 b2 b3 b4 b5 (b6 + (1 : Int32)) x _ _ _ (lv_sub hl [1, 2, 3, 4, 5, 6, 0] rfl) hw h
      intro b1 b2 b3 b4 b5 b6 x H locs ls hl hw h
      rw [f3_cheapestSand_L10_s] at h
      refine lv_iload hx hb dX3_cheapestSand_10 (lv_at hl 6 rfl) ?_
      refine lv_sipush (v := (256 : Int32)) hx hb dX3_cheapestSand_12 (by decide) ?_
      refine lv_icmp_ge (tgt := 94) hx hb dX3_cheapestSand_15 (by decide) (fun hc => ?_) (fun hc => ?_)
      · replace h := p_t hc h
        refine lv_iload hx hb dX3_cheapestSand_94 (lv_at hl 4 rfl) ?_
        replace h := Option.some.inj h
        subst h
        exact w_iret C hw (v := b4) rfl rfl dX3_cheapestSand_96
      · replace h := p_f hc h
        refine lv_aload_n hx hb dX3_cheapestSand_18 rfl (lv_at hl 0 rfl) ?_
        refine w_get C hw (v := .ref (gq G (1 + 4 * 0))) (k := 0) (wk_main G x m) rfl it_3 (by decide) fl_X3_10 rfl dX3_cheapestSand_19 ?_
        refine lv_iload hx hb dX3_cheapestSand_22 (lv_at hl 6 rfl) ?_
        obtain ⟨v1, hq, h⟩ := p_bd h
        refine w_Vi C hw (As := [.int b6]) (rest := []) (c2_costOf l G 0 (by decide) x m b6 v1 hq) kv_X2_costOf ml_X3_178 ⟨rfl, rfl⟩ ⟨Nat.le_of_ble_eq_true rfl, Nat.le_of_ble_eq_true rfl⟩ ⟨Nat.zero_le _, Nat.zero_le _⟩ (w_recv C hw (wk_town G x m (by decide)) rfl) rfl rfl (Nat.le_of_ble_eq_true rfl) (lv_sub hl [] rfl) dX3_cheapestSand_24 (fun H locs hw => ?_)
        refine lv_istore (lv' := [(7, .int v1), (0, .ref (gq G 0)), (1, .int b1), (2, .int b2), (3, .int b3), (4, .int b4), (5, .int b5), (6, .int b6)]) hx hb dX3_cheapestSand_27 hl (by decide) rfl (fun ls hl => ?_)
        refine lv_iload hx hb dX3_cheapestSand_29 (lv_at hl 0 rfl) ?_
        refine lv_iload hx hb dX3_cheapestSand_31 (lv_at hl 6 rfl) ?_
        refine lv_icmp_lt (tgt := 39) hx hb dX3_cheapestSand_33 (by decide) (fun hc => ?_) (fun hc => ?_)
        · replace h := p_t hc h
          refine lv_aload_n hx hb dX3_cheapestSand_39 rfl (lv_at hl 1 rfl) ?_
          refine w_get C hw (v := .ref (gq G (1 + 4 * 2))) (k := 2) (wk_main G x m) rfl it_3 (by decide) fl_X3_19 rfl dX3_cheapestSand_40 ?_
          refine lv_aload_n hx hb dX3_cheapestSand_43 rfl (lv_at hl 1 rfl) ?_
          refine w_get C hw (v := .ref (gq G (1 + 4 * 0))) (k := 0) (wk_main G x m) rfl it_3 (by decide) fl_X3_10 rfl dX3_cheapestSand_44 ?_
          obtain ⟨z2, hq, h⟩ := p_bd h
          refine w_Vv C hw (As := [.ref (gq G (1 + 4 * 0))]) (rest := []) (c2_become l G 2 (by decide) 0 (by decide) x m z2 hq) kv_X2_become ml_X3_143 ⟨rfl, rfl⟩ ⟨Nat.le_of_ble_eq_true rfl, Nat.le_of_ble_eq_true rfl⟩ ⟨Nat.zero_le _, Nat.zero_le _⟩ (w_recv C hw (wk_town G x m (by decide)) rfl) rfl rfl (Nat.le_of_ble_eq_true rfl) (lv_sub hl [] rfl) dX3_cheapestSand_47 (fun H locs hw => ?_)
          refine lv_aload_n hx hb dX3_cheapestSand_50 rfl (lv_at hl 1 rfl) ?_
          refine w_get C hw (v := .ref (gq G (1 + 4 * 2))) (k := 2) (wk_main G z2 m) rfl it_3 (by decide) fl_X3_19 rfl dX3_cheapestSand_51 ?_
          refine lv_iload hx hb dX3_cheapestSand_54 (lv_at hl 7 rfl) ?_
          obtain ⟨z3, hq, h⟩ := p_bd h
          refine w_Vv C hw (As := [.int b6]) (rest := []) (c2_sandAll l G 2 (by decide) z2 m b6 z3 hq) kv_X2_sandAll ml_X3_182 ⟨rfl, rfl⟩ ⟨Nat.le_of_ble_eq_true rfl, Nat.le_of_ble_eq_true rfl⟩ ⟨Nat.zero_le _, Nat.zero_le _⟩ (w_recv C hw (wk_town G z2 m (by decide)) rfl) rfl rfl (Nat.le_of_ble_eq_true rfl) (lv_sub hl [] rfl) dX3_cheapestSand_56 (fun H locs hw => ?_)
          refine lv_aload_n hx hb dX3_cheapestSand_59 rfl (lv_at hl 1 rfl) ?_
          refine w_get C hw (v := .ref (gq G (1 + 4 * 2))) (k := 2) (wk_main G z3 m) rfl it_3 (by decide) fl_X3_19 rfl dX3_cheapestSand_60 ?_
          refine lv_iload_n hx hb dX3_cheapestSand_63 rfl (lv_at hl 4 rfl) ?_
          obtain ⟨⟨v5, z4⟩, hq, h⟩ := p_bd h
          dsimp only at h
          refine w_Vi C hw (As := [.int b3]) (rest := []) (c2_pass l G 2 (by decide) z3 m b3 (v5, z4) hq) kv_X2_pass ml_X3_122 ⟨rfl, rfl⟩ ⟨Nat.le_of_ble_eq_true rfl, Nat.le_of_ble_eq_true rfl⟩ ⟨Nat.zero_le _, Nat.zero_le _⟩ (w_recv C hw (wk_town G z3 m (by decide)) rfl) rfl rfl (Nat.le_of_ble_eq_true rfl) (lv_sub hl [] rfl) dX3_cheapestSand_64 (fun H locs hw => ?_)
          refine lv_pop hx hb dX3_cheapestSand_67 rfl ?_
          refine lv_aload_n hx hb dX3_cheapestSand_68 rfl (lv_at hl 1 rfl) ?_
          refine w_get C hw (v := .ref (gq G (1 + 4 * 2))) (k := 2) (wk_main G z4 m) rfl it_3 (by decide) fl_X3_19 rfl dX3_cheapestSand_69 ?_
          refine lv_iload_n hx hb dX3_cheapestSand_72 rfl (lv_at hl 2 rfl) ?_
          obtain ⟨v6, hq, h⟩ := p_bd h
          refine w_Vi C hw (As := [.int b1]) (rest := []) (c2_loudAt l G 2 (by decide) z4 m b1 v6 hq) kv_X2_loudAt ml_X3_56 ⟨rfl, rfl⟩ ⟨Nat.le_of_ble_eq_true rfl, Nat.le_of_ble_eq_true rfl⟩ ⟨Nat.zero_le _, Nat.zero_le _⟩ (w_recv C hw (wk_town G z4 m (by decide)) rfl) rfl rfl (Nat.le_of_ble_eq_true rfl) (lv_sub hl [] rfl) dX3_cheapestSand_73 (fun H locs hw => ?_)
          refine lv_iload_n hx hb dX3_cheapestSand_76 rfl (lv_at hl 3 rfl) ?_
          refine lv_icmp_gt (tgt := 88) hx hb dX3_cheapestSand_77 (by decide) (fun hc => ?_) (fun hc => ?_)
          · replace h := p_t hc h
            exact B88 b1 b2 b3 b4 b5 b6 z4 _ _ _ (lv_sub hl [1, 2, 3, 4, 5, 6, 7] rfl) hw h
          · replace h := p_f hc h
            refine lv_iload hx hb dX3_cheapestSand_80 (lv_at hl 7 rfl) ?_
            refine lv_istore (lv' := [(4, .int b6), (7, .int v1), (0, .ref (gq G 0)), (1, .int b1), (2, .int b2), (3, .int b3), (5, .int b5), (6, .int b6)]) hx hb dX3_cheapestSand_82 hl (by decide) rfl (fun ls hl => ?_)
            refine lv_iload hx hb dX3_cheapestSand_84 (lv_at hl 1 rfl) ?_
            refine lv_istore (lv' := [(5, .int v1), (4, .int b6), (7, .int v1), (0, .ref (gq G 0)), (1, .int b1), (2, .int b2), (3, .int b3), (6, .int b6)]) hx hb dX3_cheapestSand_86 hl (by decide) rfl (fun ls hl => ?_)
            exact B88 b1 b2 b3 b6 v1 b6 z4 _ _ _ (lv_sub hl [3, 4, 5, 6, 1, 0, 7] rfl) hw h
        · replace h := p_f hc h
          refine lv_goto (tgt := 88) hx hb dX3_cheapestSand_36 (by decide) ?_
          exact B88 b1 b2 b3 b4 b5 b6 x _ _ _ (lv_sub hl [1, 2, 3, 4, 5, 6, 7] rfl) hw h
  unfold f3_cheapestSand at h
  refine lv_iconst (v := (-1 : Int32)) hx hb dX3_cheapestSand_0 (by decide) ?_
  refine lv_istore (lv' := [(4, .int (-1 : Int32)), (0, .ref (gq G 0)), (1, .int a1), (2, .int a2), (3, .int a3)]) hx hb dX3_cheapestSand_1 hl (by decide) rfl (fun ls hl => ?_)
  refine lv_ldc hx hb hown (C.w kc_X3_181) dX3_cheapestSand_3 ?_
  refine lv_istore (lv' := [(5, .int (1000000 : Int32)), (4, .int (-1 : Int32)), (0, .ref (gq G 0)), (1, .int a1), (2, .int a2), (3, .int a3)]) hx hb dX3_cheapestSand_5 hl (by decide) rfl (fun ls hl => ?_)
  refine lv_iconst (v := (0 : Int32)) hx hb dX3_cheapestSand_7 (by decide) ?_
  refine lv_istore (lv' := [(6, .int (0 : Int32)), (5, .int (1000000 : Int32)), (4, .int (-1 : Int32)), (0, .ref (gq G 0)), (1, .int a1), (2, .int a2), (3, .int a3)]) hx hb dX3_cheapestSand_8 hl (by decide) rfl (fun ls hl => ?_)
  exact L10 fu a1 a2 a3 (-1 : Int32) (1000000 : Int32) (0 : Int32) x _ _ _ (lv_sub hl [3, 4, 5, 6, 2, 1, 0] rfl) hw h

def f3_sand_b28    (x : St) : Option (Int32 × St) :=
  (f3_finding (-1000001 : Int32) x).bind fun q => match q with
  | (v6, z5) =>
    some (v6, z5)
def f3_sand  (a1 : Int32) (a2 : Int32) (a3 : Int32) (x : St) : Option (Int32 × St) :=
  if (f3_isCorner a1) = 0 then
    f3_sand_b28 x
  else
    if (f3_isWithin a2 (0 : Int32) (9999 : Int32)) = 0 then
      f3_sand_b28 x
    else
      if (f3_isWithin a3 (0 : Int32) (40 : Int32)) = 0 then
        f3_sand_b28 x
      else
        (f3_cheapestSand a1 a2 a3 x).bind fun q => match q with
        | (v2, z1) =>
          if 0 ≤ v2 then
            some (v2, z1)
          else
            (f3_finding (-1000004 : Int32) z1).bind fun q => match q with
            | (v4, z3) =>
              some (v4, z3)
set_option maxHeartbeats 4000000 in
set_option maxRecDepth 100000 in
theorem c3_sand (l : Launch) (G : GT)  (x m : St) (a1 : Int32) (a2 : Int32) (a3 : Int32) (r : Int32 × St) (h : f3_sand a1 a2 a3 x = some r) : Mt l yX3_sand cX3_sand 5 (some .int) (rmF 6 149) G x m [.ref (gq G 0), .int a1, .int a2, .int a3] (some (.int r.1)) r.2 m := by
  refine Mt.of (by decide) (Nat.le_of_ble_eq_true rfl) ?_
  intro p e s mm args below meth c C ls hl hw
  have hx := C.1
  have hb := C.2.1
  have hown := C.2.2.2.2.1
  replace hl : lv_has ls 5 [(0, .ref (gq G 0)), (1, .int a1), (2, .int a2), (3, .int a3)] := hl
  have B28 : ∀  (x : St) (H : Heap) (locs : List Loc) (ls : Array Slot), lv_has ls 5 [(0, .ref (gq G 0))] → Wd G s x m H locs → f3_sand_b28 x = some r → W p l e (rmF 6 149) s mm args below meth c H locs 0 0 (QE below G (some (.int r.1)) r.2 m args s) (F0 mm 28 ls []) := by
    intro  x H locs ls hl hw h
    unfold f3_sand_b28 at h
    refine lv_aload_n hx hb dX3_sand_28 rfl (lv_at hl 0 rfl) ?_
    refine lv_ldc hx hb hown (C.w kc_X3_48) dX3_sand_29 ?_
    obtain ⟨⟨v6, z5⟩, hq, h⟩ := p_bd h
    dsimp only at h
    refine w_Vi C hw (As := [.int (-1000001 : Int32)]) (rest := []) (c3_finding l G x m (-1000001 : Int32) (v6, z5) hq) kv_X3_finding ml_X3_49 ⟨rfl, rfl⟩ ⟨Nat.le_of_ble_eq_true rfl, Nat.le_of_ble_eq_true rfl⟩ ⟨Nat.zero_le _, Nat.zero_le _⟩ (w_recv C hw (wk_main G x m) rfl) rfl rfl (Nat.le_of_ble_eq_true rfl) (lv_sub hl [] rfl) dX3_sand_31 (fun H locs hw => ?_)
    replace h := Option.some.inj h
    subst h
    exact w_iret C hw (v := v6) rfl rfl dX3_sand_34
  unfold f3_sand at h
  refine lv_iload_n hx hb dX3_sand_0 rfl (lv_at hl 1 rfl) ?_
  refine w_Si C hw (As := [.int a1]) (rest := []) (c3_isCorner l G x m a1 _ rfl) ks_X3_isCorner ml_X3_40 ⟨rfl, rfl⟩ ⟨Nat.le_of_ble_eq_true rfl, Nat.le_of_ble_eq_true rfl⟩ ⟨Nat.zero_le _, Nat.zero_le _⟩ rfl rfl (Nat.le_of_ble_eq_true rfl) (lv_sub hl [] rfl) dX3_sand_1 (fun H locs hw => ?_)
  refine lv_if_eq (tgt := 28) hx hb dX3_sand_4 (by decide) (fun hc => ?_) (fun hc => ?_)
  · replace h := p_t hc h
    exact B28 x _ _ _ (lv_sub hl [0] rfl) hw h
  · replace h := p_f hc h
    refine lv_iload_n hx hb dX3_sand_7 rfl (lv_at hl 2 rfl) ?_
    refine lv_iconst (v := (0 : Int32)) hx hb dX3_sand_8 (by decide) ?_
    refine lv_sipush (v := (9999 : Int32)) hx hb dX3_sand_9 (by decide) ?_
    refine w_Si C hw (As := [.int a2, .int (0 : Int32), .int (9999 : Int32)]) (rest := []) (c3_isWithin l G x m a2 (0 : Int32) (9999 : Int32) _ rfl) ks_X3_isWithin ml_X3_44 ⟨rfl, rfl⟩ ⟨Nat.le_of_ble_eq_true rfl, Nat.le_of_ble_eq_true rfl⟩ ⟨Nat.zero_le _, Nat.zero_le _⟩ rfl rfl (Nat.le_of_ble_eq_true rfl) (lv_sub hl [] rfl) dX3_sand_12 (fun H locs hw => ?_)
    refine lv_if_eq (tgt := 28) hx hb dX3_sand_15 (by decide) (fun hc => ?_) (fun hc => ?_)
    · replace h := p_t hc h
      exact B28 x _ _ _ (lv_sub hl [0] rfl) hw h
    · replace h := p_f hc h
      refine lv_iload_n hx hb dX3_sand_18 rfl (lv_at hl 3 rfl) ?_
      refine lv_iconst (v := (0 : Int32)) hx hb dX3_sand_19 (by decide) ?_
      refine lv_bipush (v := (40 : Int32)) hx hb dX3_sand_20 (by decide) ?_
      refine w_Si C hw (As := [.int a3, .int (0 : Int32), .int (40 : Int32)]) (rest := []) (c3_isWithin l G x m a3 (0 : Int32) (40 : Int32) _ rfl) ks_X3_isWithin ml_X3_44 ⟨rfl, rfl⟩ ⟨Nat.le_of_ble_eq_true rfl, Nat.le_of_ble_eq_true rfl⟩ ⟨Nat.zero_le _, Nat.zero_le _⟩ rfl rfl (Nat.le_of_ble_eq_true rfl) (lv_sub hl [] rfl) dX3_sand_22 (fun H locs hw => ?_)
      refine lv_if_ne (tgt := 35) hx hb dX3_sand_25 (by decide) (fun hc => ?_) (fun hc => ?_)
      · replace h := p_f hc h
        refine lv_aload_n hx hb dX3_sand_35 rfl (lv_at hl 0 rfl) ?_
        refine lv_iload_n hx hb dX3_sand_36 rfl (lv_at hl 1 rfl) ?_
        refine lv_iload_n hx hb dX3_sand_37 rfl (lv_at hl 2 rfl) ?_
        refine lv_iload_n hx hb dX3_sand_38 rfl (lv_at hl 3 rfl) ?_
        obtain ⟨⟨v2, z1⟩, hq, h⟩ := p_bd h
        dsimp only at h
        refine w_Vi C hw (As := [.int a1, .int a2, .int a3]) (rest := []) (c3_cheapestSand l G x m a1 a2 a3 (v2, z1) hq) kv_X3_cheapestSand ml_X3_175 ⟨rfl, rfl⟩ ⟨Nat.le_of_ble_eq_true rfl, Nat.le_of_ble_eq_true rfl⟩ ⟨Nat.zero_le _, Nat.zero_le _⟩ (w_recv C hw (wk_main G x m) rfl) rfl rfl (Nat.le_of_ble_eq_true rfl) (lv_sub hl [] rfl) dX3_sand_39 (fun H locs hw => ?_)
        refine lv_istore (lv' := [(4, .int v2), (0, .ref (gq G 0)), (1, .int a1), (2, .int a2), (3, .int a3)]) hx hb dX3_sand_42 hl (by decide) rfl (fun ls hl => ?_)
        refine lv_iload hx hb dX3_sand_44 (lv_at hl 0 rfl) ?_
        refine lv_if_ge (tgt := 58) hx hb dX3_sand_46 (by decide) (fun hc => ?_) (fun hc => ?_)
        · replace h := p_t hc h
          refine lv_iload hx hb dX3_sand_58 (lv_at hl 0 rfl) ?_
          replace h := Option.some.inj h
          subst h
          exact w_iret C hw (v := v2) rfl rfl dX3_sand_60
        · replace h := p_f hc h
          refine lv_aload_n hx hb dX3_sand_49 rfl (lv_at hl 1 rfl) ?_
          refine lv_ldc hx hb hown (C.w kc_X3_138) dX3_sand_50 ?_
          obtain ⟨⟨v4, z3⟩, hq, h⟩ := p_bd h
          dsimp only at h
          refine w_Vi C hw (As := [.int (-1000004 : Int32)]) (rest := []) (c3_finding l G z1 m (-1000004 : Int32) (v4, z3) hq) kv_X3_finding ml_X3_49 ⟨rfl, rfl⟩ ⟨Nat.le_of_ble_eq_true rfl, Nat.le_of_ble_eq_true rfl⟩ ⟨Nat.zero_le _, Nat.zero_le _⟩ (w_recv C hw (wk_main G z1 m) rfl) rfl rfl (Nat.le_of_ble_eq_true rfl) (lv_sub hl [] rfl) dX3_sand_52 (fun H locs hw => ?_)
          refine lv_goto (tgt := 60) hx hb dX3_sand_55 (by decide) ?_
          replace h := Option.some.inj h
          subst h
          exact w_iret C hw (v := v4) rfl rfl dX3_sand_60
      · replace h := p_t hc h
        exact B28 x _ _ _ (lv_sub hl [0] rfl) hw h

def f3_costs_b28    (x : St) : Option (Int32 × St) :=
  (f3_finding (-1000001 : Int32) x).bind fun q => match q with
  | (v7, z6) =>
    some (v7, z6)
def f3_costs  (a1 : Int32) (a2 : Int32) (a3 : Int32) (x : St) : Option (Int32 × St) :=
  if (f3_isCorner a1) = 0 then
    f3_costs_b28 x
  else
    if (f3_isWithin a2 (0 : Int32) (9999 : Int32)) = 0 then
      f3_costs_b28 x
    else
      if (f3_isWithin a3 (0 : Int32) (40 : Int32)) = 0 then
        f3_costs_b28 x
      else
        (f3_cheapestSand a1 a2 a3 x).bind fun q => match q with
        | (v2, z1) =>
          if 0 ≤ v2 then
            (f2_costOf 0 v2 z1).bind fun v3 =>
            some (v3, z1)
          else
            (f3_finding (-1000004 : Int32) z1).bind fun q => match q with
            | (v5, z4) =>
              some (v5, z4)
set_option maxHeartbeats 4000000 in
set_option maxRecDepth 100000 in
theorem c3_costs (l : Launch) (G : GT)  (x m : St) (a1 : Int32) (a2 : Int32) (a3 : Int32) (r : Int32 × St) (h : f3_costs a1 a2 a3 x = some r) : Mt l yX3_costs cX3_costs 5 (some .int) (rmF 6 149) G x m [.ref (gq G 0), .int a1, .int a2, .int a3] (some (.int r.1)) r.2 m := by
  refine Mt.of (by decide) (Nat.le_of_ble_eq_true rfl) ?_
  intro p e s mm args below meth c C ls hl hw
  have hx := C.1
  have hb := C.2.1
  have hown := C.2.2.2.2.1
  replace hl : lv_has ls 5 [(0, .ref (gq G 0)), (1, .int a1), (2, .int a2), (3, .int a3)] := hl
  have B28 : ∀  (x : St) (H : Heap) (locs : List Loc) (ls : Array Slot), lv_has ls 5 [(0, .ref (gq G 0))] → Wd G s x m H locs → f3_costs_b28 x = some r → W p l e (rmF 6 149) s mm args below meth c H locs 0 0 (QE below G (some (.int r.1)) r.2 m args s) (F0 mm 28 ls []) := by
    intro  x H locs ls hl hw h
    unfold f3_costs_b28 at h
    refine lv_aload_n hx hb dX3_costs_28 rfl (lv_at hl 0 rfl) ?_
    refine lv_ldc hx hb hown (C.w kc_X3_48) dX3_costs_29 ?_
    obtain ⟨⟨v7, z6⟩, hq, h⟩ := p_bd h
    dsimp only at h
    refine w_Vi C hw (As := [.int (-1000001 : Int32)]) (rest := []) (c3_finding l G x m (-1000001 : Int32) (v7, z6) hq) kv_X3_finding ml_X3_49 ⟨rfl, rfl⟩ ⟨Nat.le_of_ble_eq_true rfl, Nat.le_of_ble_eq_true rfl⟩ ⟨Nat.zero_le _, Nat.zero_le _⟩ (w_recv C hw (wk_main G x m) rfl) rfl rfl (Nat.le_of_ble_eq_true rfl) (lv_sub hl [] rfl) dX3_costs_31 (fun H locs hw => ?_)
    replace h := Option.some.inj h
    subst h
    exact w_iret C hw (v := v7) rfl rfl dX3_costs_34
  unfold f3_costs at h
  refine lv_iload_n hx hb dX3_costs_0 rfl (lv_at hl 1 rfl) ?_
  refine w_Si C hw (As := [.int a1]) (rest := []) (c3_isCorner l G x m a1 _ rfl) ks_X3_isCorner ml_X3_40 ⟨rfl, rfl⟩ ⟨Nat.le_of_ble_eq_true rfl, Nat.le_of_ble_eq_true rfl⟩ ⟨Nat.zero_le _, Nat.zero_le _⟩ rfl rfl (Nat.le_of_ble_eq_true rfl) (lv_sub hl [] rfl) dX3_costs_1 (fun H locs hw => ?_)
  refine lv_if_eq (tgt := 28) hx hb dX3_costs_4 (by decide) (fun hc => ?_) (fun hc => ?_)
  · replace h := p_t hc h
    exact B28 x _ _ _ (lv_sub hl [0] rfl) hw h
  · replace h := p_f hc h
    refine lv_iload_n hx hb dX3_costs_7 rfl (lv_at hl 2 rfl) ?_
    refine lv_iconst (v := (0 : Int32)) hx hb dX3_costs_8 (by decide) ?_
    refine lv_sipush (v := (9999 : Int32)) hx hb dX3_costs_9 (by decide) ?_
    refine w_Si C hw (As := [.int a2, .int (0 : Int32), .int (9999 : Int32)]) (rest := []) (c3_isWithin l G x m a2 (0 : Int32) (9999 : Int32) _ rfl) ks_X3_isWithin ml_X3_44 ⟨rfl, rfl⟩ ⟨Nat.le_of_ble_eq_true rfl, Nat.le_of_ble_eq_true rfl⟩ ⟨Nat.zero_le _, Nat.zero_le _⟩ rfl rfl (Nat.le_of_ble_eq_true rfl) (lv_sub hl [] rfl) dX3_costs_12 (fun H locs hw => ?_)
    refine lv_if_eq (tgt := 28) hx hb dX3_costs_15 (by decide) (fun hc => ?_) (fun hc => ?_)
    · replace h := p_t hc h
      exact B28 x _ _ _ (lv_sub hl [0] rfl) hw h
    · replace h := p_f hc h
      refine lv_iload_n hx hb dX3_costs_18 rfl (lv_at hl 3 rfl) ?_
      refine lv_iconst (v := (0 : Int32)) hx hb dX3_costs_19 (by decide) ?_
      refine lv_bipush (v := (40 : Int32)) hx hb dX3_costs_20 (by decide) ?_
      refine w_Si C hw (As := [.int a3, .int (0 : Int32), .int (40 : Int32)]) (rest := []) (c3_isWithin l G x m a3 (0 : Int32) (40 : Int32) _ rfl) ks_X3_isWithin ml_X3_44 ⟨rfl, rfl⟩ ⟨Nat.le_of_ble_eq_true rfl, Nat.le_of_ble_eq_true rfl⟩ ⟨Nat.zero_le _, Nat.zero_le _⟩ rfl rfl (Nat.le_of_ble_eq_true rfl) (lv_sub hl [] rfl) dX3_costs_22 (fun H locs hw => ?_)
      refine lv_if_ne (tgt := 35) hx hb dX3_costs_25 (by decide) (fun hc => ?_) (fun hc => ?_)
      · replace h := p_f hc h
        refine lv_aload_n hx hb dX3_costs_35 rfl (lv_at hl 0 rfl) ?_
        refine lv_iload_n hx hb dX3_costs_36 rfl (lv_at hl 1 rfl) ?_
        refine lv_iload_n hx hb dX3_costs_37 rfl (lv_at hl 2 rfl) ?_
        refine lv_iload_n hx hb dX3_costs_38 rfl (lv_at hl 3 rfl) ?_
        obtain ⟨⟨v2, z1⟩, hq, h⟩ := p_bd h
        dsimp only at h
        refine w_Vi C hw (As := [.int a1, .int a2, .int a3]) (rest := []) (c3_cheapestSand l G x m a1 a2 a3 (v2, z1) hq) kv_X3_cheapestSand ml_X3_175 ⟨rfl, rfl⟩ ⟨Nat.le_of_ble_eq_true rfl, Nat.le_of_ble_eq_true rfl⟩ ⟨Nat.zero_le _, Nat.zero_le _⟩ (w_recv C hw (wk_main G x m) rfl) rfl rfl (Nat.le_of_ble_eq_true rfl) (lv_sub hl [] rfl) dX3_costs_39 (fun H locs hw => ?_)
        refine lv_istore (lv' := [(4, .int v2), (0, .ref (gq G 0)), (1, .int a1), (2, .int a2), (3, .int a3)]) hx hb dX3_costs_42 hl (by decide) rfl (fun ls hl => ?_)
        refine lv_iload hx hb dX3_costs_44 (lv_at hl 0 rfl) ?_
        refine lv_if_ge (tgt := 58) hx hb dX3_costs_46 (by decide) (fun hc => ?_) (fun hc => ?_)
        · replace h := p_t hc h
          refine lv_aload_n hx hb dX3_costs_58 rfl (lv_at hl 1 rfl) ?_
          refine w_get C hw (v := .ref (gq G (1 + 4 * 0))) (k := 0) (wk_main G z1 m) rfl it_3 (by decide) fl_X3_10 rfl dX3_costs_59 ?_
          refine lv_iload hx hb dX3_costs_62 (lv_at hl 0 rfl) ?_
          obtain ⟨v3, hq, h⟩ := p_bd h
          refine w_Vi C hw (As := [.int v2]) (rest := []) (c2_costOf l G 0 (by decide) z1 m v2 v3 hq) kv_X2_costOf ml_X3_178 ⟨rfl, rfl⟩ ⟨Nat.le_of_ble_eq_true rfl, Nat.le_of_ble_eq_true rfl⟩ ⟨Nat.zero_le _, Nat.zero_le _⟩ (w_recv C hw (wk_town G z1 m (by decide)) rfl) rfl rfl (Nat.le_of_ble_eq_true rfl) (lv_sub hl [] rfl) dX3_costs_64 (fun H locs hw => ?_)
          replace h := Option.some.inj h
          subst h
          exact w_iret C hw (v := v3) rfl rfl dX3_costs_67
        · replace h := p_f hc h
          refine lv_aload_n hx hb dX3_costs_49 rfl (lv_at hl 1 rfl) ?_
          refine lv_ldc hx hb hown (C.w kc_X3_138) dX3_costs_50 ?_
          obtain ⟨⟨v5, z4⟩, hq, h⟩ := p_bd h
          dsimp only at h
          refine w_Vi C hw (As := [.int (-1000004 : Int32)]) (rest := []) (c3_finding l G z1 m (-1000004 : Int32) (v5, z4) hq) kv_X3_finding ml_X3_49 ⟨rfl, rfl⟩ ⟨Nat.le_of_ble_eq_true rfl, Nat.le_of_ble_eq_true rfl⟩ ⟨Nat.zero_le _, Nat.zero_le _⟩ (w_recv C hw (wk_main G z1 m) rfl) rfl rfl (Nat.le_of_ble_eq_true rfl) (lv_sub hl [] rfl) dX3_costs_52 (fun H locs hw => ?_)
          refine lv_goto (tgt := 67) hx hb dX3_costs_55 (by decide) ?_
          replace h := Option.some.inj h
          subst h
          exact w_iret C hw (v := v5) rfl rfl dX3_costs_67
      · replace h := p_t hc h
        exact B28 x _ _ _ (lv_sub hl [0] rfl) hw h

def f3_aunt_b91  (k25 : Int32 → Int32 → Int32 → Int32 → St → Option (Int32 × St)) (b1 : Int32) (b2 : Int32) (b3 : Int32) (b4 : Int32) (x : St) : Option (Int32 × St) :=
  k25 b1 b2 b3 (b4 + (1 : Int32)) x
def f3_aunt_L25   : Nat → Int32 → Int32 → Int32 → Int32 → St → Option (Int32 × St)
  | 0, _, _, _, _, _ => none
  | n + 1, b1, b2, b3, b4, x =>
    if (16 : Int32) ≤ b4 then
      some (b2, x)
    else
      (f2_become 2 0 x).bind fun z3 =>
      (f2_pass 2 b1 (up z3 (1 + 4 * 2) 4 ((z3 (1 + 4 * 2) 4) ||| ((1 : Int32) <<< (b4 &&& 31))))).bind fun q => match q with
      | (v5, z4) =>
        (f2_loudAt 2 (15 : Int32) z4).bind fun v6 =>
        if b3 ≤ v6 then
          f3_aunt_b91 (f3_aunt_L25 n) b1 b2 b3 b4 z4
        else
          f3_aunt_b91 (f3_aunt_L25 n) b1 b4 v6 b4 z4
theorem f3_aunt_L25_0   (b1 : Int32) (b2 : Int32) (b3 : Int32) (b4 : Int32) (x : St) : f3_aunt_L25  0 b1 b2 b3 b4 x = none := rfl
theorem f3_aunt_L25_s   (n : Nat) (b1 : Int32) (b2 : Int32) (b3 : Int32) (b4 : Int32) (x : St) : f3_aunt_L25  (n + 1) b1 b2 b3 b4 x =
    if (16 : Int32) ≤ b4 then
      some (b2, x)
    else
      (f2_become 2 0 x).bind fun z3 =>
      (f2_pass 2 b1 (up z3 (1 + 4 * 2) 4 ((z3 (1 + 4 * 2) 4) ||| ((1 : Int32) <<< (b4 &&& 31))))).bind fun q => match q with
      | (v5, z4) =>
        (f2_loudAt 2 (15 : Int32) z4).bind fun v6 =>
        if b3 ≤ v6 then
          f3_aunt_b91 (f3_aunt_L25 n) b1 b2 b3 b4 z4
        else
          f3_aunt_b91 (f3_aunt_L25 n) b1 b4 v6 b4 z4 := rfl
def f3_aunt  (a1 : Int32) (x : St) : Option (Int32 × St) :=
  if (f3_isWithin a1 (0 : Int32) (40 : Int32)) = 0 then
    (f3_finding (-1000001 : Int32) x).bind fun q => match q with
    | (v2, z1) =>
      some (v2, z1)
  else
    f3_aunt_L25 fu a1 (0 : Int32) (1000000 : Int32) (0 : Int32) x
set_option maxHeartbeats 4000000 in
set_option maxRecDepth 100000 in
theorem c3_aunt (l : Launch) (G : GT)  (x m : St) (a1 : Int32) (r : Int32 × St) (h : f3_aunt a1 x = some r) : Mt l yX3_aunt cX3_aunt 6 (some .int) (rmF 5 122) G x m [.ref (gq G 0), .int a1] (some (.int r.1)) r.2 m := by
  refine Mt.of (by decide) (Nat.le_of_ble_eq_true rfl) ?_
  intro p e s mm args below meth c C ls hl hw
  have hx := C.1
  have hb := C.2.1
  have hown := C.2.2.2.2.1
  replace hl : lv_has ls 6 [(0, .ref (gq G 0)), (1, .int a1)] := hl
  have L25 : ∀ (n25 : Nat) (b1 : Int32) (b2 : Int32) (b3 : Int32) (b4 : Int32) (x : St) (H : Heap) (locs : List Loc) (ls : Array Slot), lv_has ls 6 [(0, .ref (gq G 0)), (1, .int b1), (2, .int b2), (3, .int b3), (4, .int b4)] → Wd G s x m H locs → f3_aunt_L25 n25 b1 b2 b3 b4 x = some r → W p l e (rmF 5 122) s mm args below meth c H locs 0 0 (QE below G (some (.int r.1)) r.2 m args s) (F0 mm 25 ls []) := by
    intro n25
    induction n25 with
    | zero =>
      intro b1 b2 b3 b4 x H locs ls hl hw h
      rw [f3_aunt_L25_0] at h
      exact absurd h.symm (Option.some_ne_none _)
    | succ n25 ih25 =>
      have B91 : ∀ (b1 : Int32) (b2 : Int32) (b3 : Int32) (b4 : Int32) (x : St) (H : Heap) (locs : List Loc) (ls : Array Slot), lv_has ls 6 [(0, .ref (gq G 0)), (1, .int b1), (2, .int b2), (3, .int b3), (4, .int b4)] → Wd G s x m H locs → f3_aunt_b91 (f3_aunt_L25 n25) b1 b2 b3 b4 x = some r → W p l e (rmF 5 122) s mm args below meth c H locs 0 0 (QE below G (some (.int r.1)) r.2 m args s) (F0 mm 91 ls []) := by
        intro b1 b2 b3 b4 x H locs ls hl hw h
        unfold f3_aunt_b91 at h
        refine lv_iinc (v := (b4 + (1 : Int32))) (lv' := [(4, .int (b4 + (1 : Int32))), (0, .ref (gq G 0)), (1, .int b1), (2, .int b2), (3, .int b3)]) hx hb dX3_aunt_91 hl (k := 4) rfl rfl (by decide) rfl (fun ls hl => ?_)
        refine lv_goto (tgt := 25) hx hb dX3_aunt_94 (by decide) ?_
        exact ih25 b1 b2 b3 (b4 + (1 : Int32)) x _ _ _ (lv_sub hl [1, 2, 3, 4, 0] rfl) hw h
      intro b1 b2 b3 b4 x H locs ls hl hw h
      rw [f3_aunt_L25_s] at h
      refine lv_iload hx hb dX3_aunt_25 (lv_at hl 4 rfl) ?_
      refine lv_bipush (v := (16 : Int32)) hx hb dX3_aunt_27 (by decide) ?_
      refine lv_icmp_ge (tgt := 97) hx hb dX3_aunt_29 (by decide) (fun hc => ?_) (fun hc => ?_)
      · replace h := p_t hc h
        refine lv_iload_n hx hb dX3_aunt_97 rfl (lv_at hl 2 rfl) ?_
        replace h := Option.some.inj h
        subst h
        exact w_iret C hw (v := b2) rfl rfl dX3_aunt_98
      · replace h := p_f hc h
        refine lv_aload_n hx hb dX3_aunt_32 rfl (lv_at hl 0 rfl) ?_
        refine w_get C hw (v := .ref (gq G (1 + 4 * 2))) (k := 2) (wk_main G x m) rfl it_3 (by decide) fl_X3_19 rfl dX3_aunt_33 ?_
        refine lv_aload_n hx hb dX3_aunt_36 rfl (lv_at hl 0 rfl) ?_
        refine w_get C hw (v := .ref (gq G (1 + 4 * 0))) (k := 0) (wk_main G x m) rfl it_3 (by decide) fl_X3_10 rfl dX3_aunt_37 ?_
        obtain ⟨z3, hq, h⟩ := p_bd h
        refine w_Vv C hw (As := [.ref (gq G (1 + 4 * 0))]) (rest := []) (c2_become l G 2 (by decide) 0 (by decide) x m z3 hq) kv_X2_become ml_X3_143 ⟨rfl, rfl⟩ ⟨Nat.le_of_ble_eq_true rfl, Nat.le_of_ble_eq_true rfl⟩ ⟨Nat.zero_le _, Nat.zero_le _⟩ (w_recv C hw (wk_town G x m (by decide)) rfl) rfl rfl (Nat.le_of_ble_eq_true rfl) (lv_sub hl [] rfl) dX3_aunt_40 (fun H locs hw => ?_)
        refine lv_aload_n hx hb dX3_aunt_43 rfl (lv_at hl 0 rfl) ?_
        refine w_get C hw (v := .ref (gq G (1 + 4 * 2))) (k := 2) (wk_main G z3 m) rfl it_3 (by decide) fl_X3_19 rfl dX3_aunt_44 ?_
        refine lv_dup hx hb dX3_aunt_47 rfl ?_
        refine w_getN C hw (v := .int (z3 (1 + 4 * 2) 4)) (k := 4) (wk_town G z3 m (by decide)) rfl it_2 (by decide) (List.mem_of_getElem? (i := 2) rfl) rfl dX3_aunt_48 ?_
        refine lv_iconst (v := (1 : Int32)) hx hb dX3_aunt_51 (by decide) ?_
        refine lv_iload hx hb dX3_aunt_52 (lv_at hl 4 rfl) ?_
        refine lv_ishl hx hb dX3_aunt_54 ?_
        refine lv_ior hx hb dX3_aunt_55 ?_
        refine w_putN C hw (k := 4) tyX2 tyX2_ok nmX2 (wk_town G z3 m (by decide)) rfl it_2 (by decide) (List.mem_of_getElem? (i := 2) rfl) rfl (ty := .int) rfl rfl rfl (Nat.le_of_ble_eq_true rfl) (ws_town G z3 m (by decide) 4 (by decide) _) dX3_aunt_56 (fun H locs hw => ?_)
        refine lv_aload_n hx hb dX3_aunt_59 rfl (lv_at hl 0 rfl) ?_
        refine w_get C hw (v := .ref (gq G (1 + 4 * 2))) (k := 2) (wk_main G (up z3 (1 + 4 * 2) 4 ((z3 (1 + 4 * 2) 4) ||| ((1 : Int32) <<< (b4 &&& 31)))) m) rfl it_3 (by decide) fl_X3_19 rfl dX3_aunt_60 ?_
        refine lv_iload_n hx hb dX3_aunt_63 rfl (lv_at hl 1 rfl) ?_
        obtain ⟨⟨v5, z4⟩, hq, h⟩ := p_bd h
        dsimp only at h
        refine w_Vi C hw (As := [.int b1]) (rest := []) (c2_pass l G 2 (by decide) (up z3 (1 + 4 * 2) 4 ((z3 (1 + 4 * 2) 4) ||| ((1 : Int32) <<< (b4 &&& 31)))) m b1 (v5, z4) hq) kv_X2_pass ml_X3_122 ⟨rfl, rfl⟩ ⟨Nat.le_of_ble_eq_true rfl, Nat.le_of_ble_eq_true rfl⟩ ⟨Nat.zero_le _, Nat.zero_le _⟩ (w_recv C hw (wk_town G (up z3 (1 + 4 * 2) 4 ((z3 (1 + 4 * 2) 4) ||| ((1 : Int32) <<< (b4 &&& 31)))) m (by decide)) rfl) rfl rfl (Nat.le_of_ble_eq_true rfl) (lv_sub hl [] rfl) dX3_aunt_64 (fun H locs hw => ?_)
        refine lv_pop hx hb dX3_aunt_67 rfl ?_
        refine lv_aload_n hx hb dX3_aunt_68 rfl (lv_at hl 0 rfl) ?_
        refine w_get C hw (v := .ref (gq G (1 + 4 * 2))) (k := 2) (wk_main G z4 m) rfl it_3 (by decide) fl_X3_19 rfl dX3_aunt_69 ?_
        refine lv_bipush (v := (15 : Int32)) hx hb dX3_aunt_72 (by decide) ?_
        obtain ⟨v6, hq, h⟩ := p_bd h
        refine w_Vi C hw (As := [.int (15 : Int32)]) (rest := []) (c2_loudAt l G 2 (by decide) z4 m (15 : Int32) v6 hq) kv_X2_loudAt ml_X3_56 ⟨rfl, rfl⟩ ⟨Nat.le_of_ble_eq_true rfl, Nat.le_of_ble_eq_true rfl⟩ ⟨Nat.zero_le _, Nat.zero_le _⟩ (w_recv C hw (wk_town G z4 m (by decide)) rfl) rfl rfl (Nat.le_of_ble_eq_true rfl) (lv_sub hl [] rfl) dX3_aunt_74 (fun H locs hw => ?_)
        refine lv_istore (lv' := [(5, .int v6), (0, .ref (gq G 0)), (1, .int b1), (2, .int b2), (3, .int b3), (4, .int b4)]) hx hb dX3_aunt_77 hl (by decide) rfl (fun ls hl => ?_)
        refine lv_iload hx hb dX3_aunt_79 (lv_at hl 0 rfl) ?_
        refine lv_iload_n hx hb dX3_aunt_81 rfl (lv_at hl 4 rfl) ?_
        refine lv_icmp_ge (tgt := 91) hx hb dX3_aunt_82 (by decide) (fun hc => ?_) (fun hc => ?_)
        · replace h := p_t hc h
          exact B91 b1 b2 b3 b4 z4 _ _ _ (lv_sub hl [1, 2, 3, 4, 5] rfl) hw h
        · replace h := p_f hc h
          refine lv_iload hx hb dX3_aunt_85 (lv_at hl 0 rfl) ?_
          refine lv_istore_n (lv' := [(3, .int v6), (5, .int v6), (0, .ref (gq G 0)), (1, .int b1), (2, .int b2), (4, .int b4)]) hx hb dX3_aunt_87 rfl hl (by decide) rfl (fun ls hl => ?_)
          refine lv_iload hx hb dX3_aunt_88 (lv_at hl 5 rfl) ?_
          refine lv_istore_n (lv' := [(2, .int b4), (3, .int v6), (5, .int v6), (0, .ref (gq G 0)), (1, .int b1), (4, .int b4)]) hx hb dX3_aunt_90 rfl hl (by decide) rfl (fun ls hl => ?_)
          exact B91 b1 b4 v6 b4 z4 _ _ _ (lv_sub hl [3, 4, 0, 1, 5] rfl) hw h
  unfold f3_aunt at h
  refine lv_iload_n hx hb dX3_aunt_0 rfl (lv_at hl 1 rfl) ?_
  refine lv_iconst (v := (0 : Int32)) hx hb dX3_aunt_1 (by decide) ?_
  refine lv_bipush (v := (40 : Int32)) hx hb dX3_aunt_2 (by decide) ?_
  refine w_Si C hw (As := [.int a1, .int (0 : Int32), .int (40 : Int32)]) (rest := []) (c3_isWithin l G x m a1 (0 : Int32) (40 : Int32) _ rfl) ks_X3_isWithin ml_X3_44 ⟨rfl, rfl⟩ ⟨Nat.le_of_ble_eq_true rfl, Nat.le_of_ble_eq_true rfl⟩ ⟨Nat.zero_le _, Nat.zero_le _⟩ rfl rfl (Nat.le_of_ble_eq_true rfl) (lv_sub hl [] rfl) dX3_aunt_4 (fun H locs hw => ?_)
  refine lv_if_ne (tgt := 17) hx hb dX3_aunt_7 (by decide) (fun hc => ?_) (fun hc => ?_)
  · replace h := p_f hc h
    refine lv_iconst (v := (0 : Int32)) hx hb dX3_aunt_17 (by decide) ?_
    refine lv_istore_n (lv' := [(2, .int (0 : Int32)), (0, .ref (gq G 0)), (1, .int a1)]) hx hb dX3_aunt_18 rfl hl (by decide) rfl (fun ls hl => ?_)
    refine lv_ldc hx hb hown (C.w kc_X3_181) dX3_aunt_19 ?_
    refine lv_istore_n (lv' := [(3, .int (1000000 : Int32)), (2, .int (0 : Int32)), (0, .ref (gq G 0)), (1, .int a1)]) hx hb dX3_aunt_21 rfl hl (by decide) rfl (fun ls hl => ?_)
    refine lv_iconst (v := (0 : Int32)) hx hb dX3_aunt_22 (by decide) ?_
    refine lv_istore (lv' := [(4, .int (0 : Int32)), (3, .int (1000000 : Int32)), (2, .int (0 : Int32)), (0, .ref (gq G 0)), (1, .int a1)]) hx hb dX3_aunt_23 hl (by decide) rfl (fun ls hl => ?_)
    exact L25 fu a1 (0 : Int32) (1000000 : Int32) (0 : Int32) x _ _ _ (lv_sub hl [3, 4, 2, 1, 0] rfl) hw h
  · replace h := p_t hc h
    refine lv_aload_n hx hb dX3_aunt_10 rfl (lv_at hl 0 rfl) ?_
    refine lv_ldc hx hb hown (C.w kc_X3_48) dX3_aunt_11 ?_
    obtain ⟨⟨v2, z1⟩, hq, h⟩ := p_bd h
    dsimp only at h
    refine w_Vi C hw (As := [.int (-1000001 : Int32)]) (rest := []) (c3_finding l G x m (-1000001 : Int32) (v2, z1) hq) kv_X3_finding ml_X3_49 ⟨rfl, rfl⟩ ⟨Nat.le_of_ble_eq_true rfl, Nat.le_of_ble_eq_true rfl⟩ ⟨Nat.zero_le _, Nat.zero_le _⟩ (w_recv C hw (wk_main G x m) rfl) rfl rfl (Nat.le_of_ble_eq_true rfl) (lv_sub hl [] rfl) dX3_aunt_13 (fun H locs hw => ?_)
    replace h := Option.some.inj h
    subst h
    exact w_iret C hw (v := v2) rfl rfl dX3_aunt_16

def f3_pairFits_b95  (k45 : Nat → Int32 → St → Option (Int32 × St)) (jb4 : Nat) (b5 : Int32) (x : St) : Option (Int32 × St) :=
  k45 jb4 (b5 + (1 : Int32)) x
def f3_pairFits_L45   : Nat → Nat → Int32 → St → Option (Int32 × St)
  | 0, _, _, _ => none
  | n + 1, jb4, b5, x =>
    if (x (16 + 2 * jb4) 2) ≤ b5 then
      some ((1 : Int32), x)
    else
      (f2_pass 2 (1 : Int32) x).bind fun q => match q with
      | (v6, z5) =>
        (f0_number jb4 b5 z5).bind fun v7 =>
        if v7 = (-1 : Int32) then
          f3_pairFits_b95 (f3_pairFits_L45 n) jb4 b5 z5
        else
          (f2_loudAt 2 (15 : Int32) z5).bind fun v8 =>
          if v7 = v8 then
            f3_pairFits_b95 (f3_pairFits_L45 n) jb4 b5 z5
          else
            some ((0 : Int32), z5)
theorem f3_pairFits_L45_0   (jb4 : Nat) (b5 : Int32) (x : St) : f3_pairFits_L45  0 jb4 b5 x = none := rfl
theorem f3_pairFits_L45_s   (n : Nat) (jb4 : Nat) (b5 : Int32) (x : St) : f3_pairFits_L45  (n + 1) jb4 b5 x =
    if (x (16 + 2 * jb4) 2) ≤ b5 then
      some ((1 : Int32), x)
    else
      (f2_pass 2 (1 : Int32) x).bind fun q => match q with
      | (v6, z5) =>
        (f0_number jb4 b5 z5).bind fun v7 =>
        if v7 = (-1 : Int32) then
          f3_pairFits_b95 (f3_pairFits_L45 n) jb4 b5 z5
        else
          (f2_loudAt 2 (15 : Int32) z5).bind fun v8 =>
          if v7 = v8 then
            f3_pairFits_b95 (f3_pairFits_L45 n) jb4 b5 z5
          else
            some ((0 : Int32), z5) := rfl
def f3_pairFits  (a1 : Int32) (a2 : Int32) (a3 : Int32) (x : St) : Option (Int32 × St) :=
  if a1 < 0 ∨ 4 ≤ a1.toNatClampNeg then
    some ((0 : Int32), x)
  else
    (f2_become 2 0 x).bind fun z2 =>
    (f2_addWhisper 2 (a2 / (16 : Int32)) (a2 - a2 / (16 : Int32) * (16 : Int32)) a3 z2).bind fun q => match q with
    | (v4, z3) =>
      f3_pairFits_L45 fu (a1.toNatClampNeg) (0 : Int32) z3
set_option maxHeartbeats 4000000 in
set_option maxRecDepth 100000 in
theorem c3_pairFits (l : Launch) (G : GT)  (x m : St) (a1 : Int32) (a2 : Int32) (a3 : Int32) (r : Int32 × St) (h : f3_pairFits a1 a2 a3 x = some r) : Mt l yX3_pairFits cX3_pairFits 7 (some .boolean) (rmF 5 122) G x m [.ref (gq G 0), .int a1, .int a2, .int a3] (some (.int r.1)) r.2 m := by
  refine Mt.of (by decide) (Nat.le_of_ble_eq_true rfl) ?_
  intro p e s mm args below meth c C ls hl hw
  have hx := C.1
  have hb := C.2.1
  have hown := C.2.2.2.2.1
  replace hl : lv_has ls 7 [(0, .ref (gq G 0)), (1, .int a1), (2, .int a2), (3, .int a3)] := hl
  have L45 : ∀ (n45 : Nat) (jb4 : Nat) (hjb4 : jb4 < 4) (b5 : Int32) (x : St) (H : Heap) (locs : List Loc) (ls : Array Slot), lv_has ls 7 [(0, .ref (gq G 0)), (4, .ref (gq G (16 + 2 * jb4))), (5, .int b5)] → Wd G s x m H locs → f3_pairFits_L45 n45 jb4 b5 x = some r → W p l e (rmF 5 122) s mm args below meth c H locs 0 0 (QE below G (some (.int r.1)) r.2 m args s) (F0 mm 45 ls []) := by
    intro n45
    induction n45 with
    | zero =>
      intro jb4 hjb4 b5 x H locs ls hl hw h
      rw [f3_pairFits_L45_0] at h
      exact absurd h.symm (Option.some_ne_none _)
    | succ n45 ih45 =>
      have B95 : ∀ (jb4 : Nat) (hjb4 : jb4 < 4) (b5 : Int32) (x : St) (H : Heap) (locs : List Loc) (ls : Array Slot), lv_has ls 7 [(0, .ref (gq G 0)), (4, .ref (gq G (16 + 2 * jb4))), (5, .int b5)] → Wd G s x m H locs → f3_pairFits_b95 (f3_pairFits_L45 n45) jb4 b5 x = some r → W p l e (rmF 5 122) s mm args below meth c H locs 0 0 (QE below G (some (.int r.1)) r.2 m args s) (F0 mm 95 ls []) := by
        intro jb4 hjb4 b5 x H locs ls hl hw h
        unfold f3_pairFits_b95 at h
        refine lv_iinc (v := (b5 + (1 : Int32))) (lv' := [(5, .int (b5 + (1 : Int32))), (0, .ref (gq G 0)), (4, .ref (gq G (16 + 2 * jb4)))]) hx hb dX3_pairFits_95 hl (k := 2) rfl rfl (by decide) rfl (fun ls hl => ?_)
        refine lv_goto (tgt := 45) hx hb dX3_pairFits_98 (by decide) ?_
        exact ih45 jb4 hjb4 (b5 + (1 : Int32)) x _ _ _ (lv_sub hl [1, 2, 0] rfl) hw h
      intro jb4 hjb4 b5 x H locs ls hl hw h
      rw [f3_pairFits_L45_s] at h
      refine lv_iload hx hb dX3_pairFits_45 (lv_at hl 2 rfl) ?_
      refine lv_aload hx hb dX3_pairFits_47 (lv_at hl 1 rfl) ?_
      refine w_getN C hw (v := .int (x (16 + 2 * jb4) 2)) (k := 2) (wk_sheet G x m hjb4) rfl it_0 (by decide) (List.mem_of_getElem? (i := 10) rfl) rfl dX3_pairFits_49 ?_
      refine lv_icmp_ge (tgt := 101) hx hb dX3_pairFits_52 (by decide) (fun hc => ?_) (fun hc => ?_)
      · replace h := p_t hc h
        refine lv_iconst (v := (1 : Int32)) hx hb dX3_pairFits_101 (by decide) ?_
        replace h := Option.some.inj h
        subst h
        exact w_iret C hw (v := (1 : Int32)) rfl rfl dX3_pairFits_102
      · replace h := p_f hc h
        refine lv_aload_n hx hb dX3_pairFits_55 rfl (lv_at hl 0 rfl) ?_
        refine w_get C hw (v := .ref (gq G (1 + 4 * 2))) (k := 2) (wk_main G x m) rfl it_3 (by decide) fl_X3_19 rfl dX3_pairFits_56 ?_
        refine lv_iconst (v := (1 : Int32)) hx hb dX3_pairFits_59 (by decide) ?_
        obtain ⟨⟨v6, z5⟩, hq, h⟩ := p_bd h
        dsimp only at h
        refine w_Vi C hw (As := [.int (1 : Int32)]) (rest := []) (c2_pass l G 2 (by decide) x m (1 : Int32) (v6, z5) hq) kv_X2_pass ml_X3_122 ⟨rfl, rfl⟩ ⟨Nat.le_of_ble_eq_true rfl, Nat.le_of_ble_eq_true rfl⟩ ⟨Nat.zero_le _, Nat.zero_le _⟩ (w_recv C hw (wk_town G x m (by decide)) rfl) rfl rfl (Nat.le_of_ble_eq_true rfl) (lv_sub hl [] rfl) dX3_pairFits_60 (fun H locs hw => ?_)
        refine lv_pop hx hb dX3_pairFits_63 rfl ?_
        refine lv_aload hx hb dX3_pairFits_64 (lv_at hl 1 rfl) ?_
        refine lv_iload hx hb dX3_pairFits_66 (lv_at hl 2 rfl) ?_
        obtain ⟨v7, hq, h⟩ := p_bd h
        refine w_Vi C hw (As := [.int b5]) (rest := []) (c0_number l G jb4 hjb4 z5 m b5 v7 hq) kv_X0_number ml_X3_202 ⟨rfl, rfl⟩ ⟨Nat.le_of_ble_eq_true rfl, Nat.le_of_ble_eq_true rfl⟩ ⟨Nat.zero_le _, Nat.zero_le _⟩ (w_recv C hw (wk_sheet G z5 m hjb4) rfl) rfl rfl (Nat.le_of_ble_eq_true rfl) (lv_sub hl [] rfl) dX3_pairFits_68 (fun H locs hw => ?_)
        refine lv_istore (lv' := [(6, .int v7), (0, .ref (gq G 0)), (4, .ref (gq G (16 + 2 * jb4))), (5, .int b5)]) hx hb dX3_pairFits_71 hl (by decide) rfl (fun ls hl => ?_)
        refine lv_iload hx hb dX3_pairFits_73 (lv_at hl 0 rfl) ?_
        refine lv_iconst (v := (-1 : Int32)) hx hb dX3_pairFits_75 (by decide) ?_
        refine lv_icmp_eq (tgt := 95) hx hb dX3_pairFits_76 (by decide) (fun hc => ?_) (fun hc => ?_)
        · replace h := p_t hc h
          exact B95 jb4 hjb4 b5 z5 _ _ _ (lv_sub hl [1, 2, 3] rfl) hw h
        · replace h := p_f hc h
          refine lv_iload hx hb dX3_pairFits_79 (lv_at hl 0 rfl) ?_
          refine lv_aload_n hx hb dX3_pairFits_81 rfl (lv_at hl 1 rfl) ?_
          refine w_get C hw (v := .ref (gq G (1 + 4 * 2))) (k := 2) (wk_main G z5 m) rfl it_3 (by decide) fl_X3_19 rfl dX3_pairFits_82 ?_
          refine lv_bipush (v := (15 : Int32)) hx hb dX3_pairFits_85 (by decide) ?_
          obtain ⟨v8, hq, h⟩ := p_bd h
          refine w_Vi C hw (As := [.int (15 : Int32)]) (rest := [.int v7]) (c2_loudAt l G 2 (by decide) z5 m (15 : Int32) v8 hq) kv_X2_loudAt ml_X3_56 ⟨rfl, rfl⟩ ⟨Nat.le_of_ble_eq_true rfl, Nat.le_of_ble_eq_true rfl⟩ ⟨Nat.zero_le _, Nat.zero_le _⟩ (w_recv C hw (wk_town G z5 m (by decide)) rfl) rfl rfl (Nat.le_of_ble_eq_true rfl) (lv_sub hl [] rfl) dX3_pairFits_87 (fun H locs hw => ?_)
          refine lv_icmp_eq (tgt := 95) hx hb dX3_pairFits_90 (by decide) (fun hc => ?_) (fun hc => ?_)
          · replace h := p_t hc h
            exact B95 jb4 hjb4 b5 z5 _ _ _ (lv_sub hl [1, 2, 3] rfl) hw h
          · replace h := p_f hc h
            refine lv_iconst (v := (0 : Int32)) hx hb dX3_pairFits_93 (by decide) ?_
            replace h := Option.some.inj h
            subst h
            exact w_iret C hw (v := (0 : Int32)) rfl rfl dX3_pairFits_94
  unfold f3_pairFits at h
  refine lv_aload_n hx hb dX3_pairFits_0 rfl (lv_at hl 0 rfl) ?_
  refine lv_iload_n hx hb dX3_pairFits_1 rfl (lv_at hl 1 rfl) ?_
  by_cases hc : a1 < 0 ∨ 4 ≤ a1.toNatClampNeg
  · replace h := p_t hc h
    refine w_VaN C hw (As := [.int a1]) (rest := []) (c3_sheetAt_n l G x m a1 hc) kv_X3_sheetAt ml_X3_191 ⟨rfl, rfl⟩ ⟨Nat.le_of_ble_eq_true rfl, Nat.le_of_ble_eq_true rfl⟩ ⟨Nat.zero_le _, Nat.zero_le _⟩ (w_recv C hw (wk_main G x m) rfl) rfl rfl (Nat.le_of_ble_eq_true rfl) (lv_sub hl [] rfl) dX3_pairFits_2 (fun H locs hw => ?_)
    refine lv_astoreN (lv' := [(4, .null), (0, .ref (gq G 0)), (1, .int a1), (2, .int a2), (3, .int a3)]) hx hb dX3_pairFits_5 hl (by decide) rfl (fun ls hl => ?_)
    refine lv_aloadN hx hb dX3_pairFits_7 (lv_at hl 0 rfl) ?_
    refine lv_ifnonnullN hx hb dX3_pairFits_9 ?_
    refine lv_iconst (v := (0 : Int32)) hx hb dX3_pairFits_12 (by decide) ?_
    replace h := Option.some.inj h
    subst h
    exact w_iret C hw (v := (0 : Int32)) rfl rfl dX3_pairFits_13
  · replace h := p_f hc h
    have hs1 : a1.toNatClampNeg < 4 := Nat.lt_of_not_le (fun z => hc (Or.inr z))
    refine w_Va C hw (As := [.int a1]) (rest := []) (c3_sheetAt_r l G x m a1 hc) kv_X3_sheetAt ml_X3_191 ⟨rfl, rfl⟩ ⟨Nat.le_of_ble_eq_true rfl, Nat.le_of_ble_eq_true rfl⟩ ⟨Nat.zero_le _, Nat.zero_le _⟩ (w_recv C hw (wk_main G x m) rfl) rfl rfl (Nat.le_of_ble_eq_true rfl) (lv_sub hl [] rfl) dX3_pairFits_2 (fun H locs hw => ?_)
    refine lv_astore (lv' := [(4, .ref (gq G (16 + 2 * (a1.toNatClampNeg)))), (0, .ref (gq G 0)), (1, .int a1), (2, .int a2), (3, .int a3)]) hx hb dX3_pairFits_5 hl (by decide) rfl (fun ls hl => ?_)
    refine lv_aload hx hb dX3_pairFits_7 (lv_at hl 0 rfl) ?_
    refine lv_ifnonnull (tgt := 14) hx hb dX3_pairFits_9 (by decide) ?_
    refine lv_aload_n hx hb dX3_pairFits_14 rfl (lv_at hl 1 rfl) ?_
    refine w_get C hw (v := .ref (gq G (1 + 4 * 2))) (k := 2) (wk_main G x m) rfl it_3 (by decide) fl_X3_19 rfl dX3_pairFits_15 ?_
    refine lv_aload_n hx hb dX3_pairFits_18 rfl (lv_at hl 1 rfl) ?_
    refine w_get C hw (v := .ref (gq G (1 + 4 * 0))) (k := 0) (wk_main G x m) rfl it_3 (by decide) fl_X3_10 rfl dX3_pairFits_19 ?_
    obtain ⟨z2, hq, h⟩ := p_bd h
    refine w_Vv C hw (As := [.ref (gq G (1 + 4 * 0))]) (rest := []) (c2_become l G 2 (by decide) 0 (by decide) x m z2 hq) kv_X2_become ml_X3_143 ⟨rfl, rfl⟩ ⟨Nat.le_of_ble_eq_true rfl, Nat.le_of_ble_eq_true rfl⟩ ⟨Nat.zero_le _, Nat.zero_le _⟩ (w_recv C hw (wk_town G x m (by decide)) rfl) rfl rfl (Nat.le_of_ble_eq_true rfl) (lv_sub hl [] rfl) dX3_pairFits_22 (fun H locs hw => ?_)
    refine lv_aload_n hx hb dX3_pairFits_25 rfl (lv_at hl 1 rfl) ?_
    refine w_get C hw (v := .ref (gq G (1 + 4 * 2))) (k := 2) (wk_main G z2 m) rfl it_3 (by decide) fl_X3_19 rfl dX3_pairFits_26 ?_
    refine lv_iload_n hx hb dX3_pairFits_29 rfl (lv_at hl 3 rfl) ?_
    refine lv_bipush (v := (16 : Int32)) hx hb dX3_pairFits_30 (by decide) ?_
    refine lv_idiv hx hb dX3_pairFits_32 (by decide) ?_
    refine lv_iload_n hx hb dX3_pairFits_33 rfl (lv_at hl 3 rfl) ?_
    refine lv_bipush (v := (16 : Int32)) hx hb dX3_pairFits_34 (by decide) ?_
    refine lv_irem hx hb dX3_pairFits_36 (by decide) ?_
    refine lv_iload_n hx hb dX3_pairFits_37 rfl (lv_at hl 4 rfl) ?_
    obtain ⟨⟨v4, z3⟩, hq, h⟩ := p_bd h
    dsimp only at h
    refine w_Vi C hw (As := [.int (a2 / (16 : Int32)), .int (a2 - a2 / (16 : Int32) * (16 : Int32)), .int a3]) (rest := []) (c2_addWhisper l G 2 (by decide) z2 m (a2 / (16 : Int32)) (a2 - a2 / (16 : Int32) * (16 : Int32)) a3 (v4, z3) hq) kv_X2_addWhisper ml_X3_85 ⟨rfl, rfl⟩ ⟨Nat.le_of_ble_eq_true rfl, Nat.le_of_ble_eq_true rfl⟩ ⟨Nat.zero_le _, Nat.zero_le _⟩ (w_recv C hw (wk_town G z2 m (by decide)) rfl) rfl rfl (Nat.le_of_ble_eq_true rfl) (lv_sub hl [] rfl) dX3_pairFits_38 (fun H locs hw => ?_)
    refine lv_pop hx hb dX3_pairFits_41 rfl ?_
    refine lv_iconst (v := (0 : Int32)) hx hb dX3_pairFits_42 (by decide) ?_
    refine lv_istore (lv' := [(5, .int (0 : Int32)), (4, .ref (gq G (16 + 2 * (a1.toNatClampNeg)))), (0, .ref (gq G 0)), (1, .int a1), (2, .int a2), (3, .int a3)]) hx hb dX3_pairFits_43 hl (by decide) rfl (fun ls hl => ?_)
    exact L45 fu (a1.toNatClampNeg) hs1 (0 : Int32) z3 _ _ _ (lv_sub hl [2, 1, 0] rfl) hw h

def f3_whyNotHeard  (a1 : Int32) (a2 : Int32) (x : St) : Int32 :=
  if a1 < 0 ∨ 4 ≤ a1.toNatClampNeg then
    (-1000001 : Int32)
  else
    if (f0_isMissing (a1.toNatClampNeg) x) = 0 then
      if (f3_isWithin a2 (1 : Int32) (999 : Int32)) = 0 then
        (-1000001 : Int32)
      else
        if (f2_isFull 0 x) = 0 then
          (0 : Int32)
        else
          (-1000005 : Int32)
    else
      (-1000006 : Int32)
set_option maxHeartbeats 4000000 in
set_option maxRecDepth 100000 in
theorem c3_whyNotHeard (l : Launch) (G : GT)  (x m : St) (a1 : Int32) (a2 : Int32) (r : Int32) (h : f3_whyNotHeard a1 a2 x = r) : Mt l yX3_whyNotHeard cX3_whyNotHeard 4 (some .int) (rmF 1 22) G x m [.ref (gq G 0), .int a1, .int a2] (some (.int r)) x m := by
  refine Mt.of (by decide) (Nat.le_of_ble_eq_true rfl) ?_
  intro p e s mm args below meth c C ls hl hw
  have hx := C.1
  have hb := C.2.1
  have hown := C.2.2.2.2.1
  replace hl : lv_has ls 4 [(0, .ref (gq G 0)), (1, .int a1), (2, .int a2)] := hl
  unfold f3_whyNotHeard at h
  refine lv_aload_n hx hb dX3_whyNotHeard_0 rfl (lv_at hl 0 rfl) ?_
  refine lv_iload_n hx hb dX3_whyNotHeard_1 rfl (lv_at hl 1 rfl) ?_
  by_cases hc : a1 < 0 ∨ 4 ≤ a1.toNatClampNeg
  · replace h := p_t hc h
    refine w_VaN C hw (As := [.int a1]) (rest := []) (c3_sheetAt_n l G x m a1 hc) kv_X3_sheetAt ml_X3_191 ⟨rfl, rfl⟩ ⟨Nat.le_of_ble_eq_true rfl, Nat.le_of_ble_eq_true rfl⟩ ⟨Nat.zero_le _, Nat.zero_le _⟩ (w_recv C hw (wk_main G x m) rfl) rfl rfl (Nat.le_of_ble_eq_true rfl) (lv_sub hl [] rfl) dX3_whyNotHeard_2 (fun H locs hw => ?_)
    refine lv_astore_nN (lv' := [(3, .null), (0, .ref (gq G 0)), (1, .int a1), (2, .int a2)]) hx hb dX3_whyNotHeard_5 rfl hl (by decide) rfl (fun ls hl => ?_)
    refine lv_aload_nN hx hb dX3_whyNotHeard_6 rfl (lv_at hl 0 rfl) ?_
    refine lv_ifnonnullN hx hb dX3_whyNotHeard_7 ?_
    refine lv_ldc hx hb hown (C.w kc_X3_48) dX3_whyNotHeard_10 ?_
    subst h
    exact w_iret C hw (v := (-1000001 : Int32)) rfl rfl dX3_whyNotHeard_12
  · replace h := p_f hc h
    have hs1 : a1.toNatClampNeg < 4 := Nat.lt_of_not_le (fun z => hc (Or.inr z))
    refine w_Va C hw (As := [.int a1]) (rest := []) (c3_sheetAt_r l G x m a1 hc) kv_X3_sheetAt ml_X3_191 ⟨rfl, rfl⟩ ⟨Nat.le_of_ble_eq_true rfl, Nat.le_of_ble_eq_true rfl⟩ ⟨Nat.zero_le _, Nat.zero_le _⟩ (w_recv C hw (wk_main G x m) rfl) rfl rfl (Nat.le_of_ble_eq_true rfl) (lv_sub hl [] rfl) dX3_whyNotHeard_2 (fun H locs hw => ?_)
    refine lv_astore_n (lv' := [(3, .ref (gq G (16 + 2 * (a1.toNatClampNeg)))), (0, .ref (gq G 0)), (1, .int a1), (2, .int a2)]) hx hb dX3_whyNotHeard_5 rfl hl (by decide) rfl (fun ls hl => ?_)
    refine lv_aload_n hx hb dX3_whyNotHeard_6 rfl (lv_at hl 0 rfl) ?_
    refine lv_ifnonnull (tgt := 13) hx hb dX3_whyNotHeard_7 (by decide) ?_
    refine lv_aload_n hx hb dX3_whyNotHeard_13 rfl (lv_at hl 0 rfl) ?_
    refine w_Vi C hw (As := []) (rest := []) (c0_isMissing l G (a1.toNatClampNeg) hs1 x m _ rfl) kv_X0_isMissing ml_X3_195 ⟨rfl, rfl⟩ ⟨Nat.le_of_ble_eq_true rfl, Nat.le_of_ble_eq_true rfl⟩ ⟨Nat.zero_le _, Nat.zero_le _⟩ (w_recv C hw (wk_sheet G x m hs1) rfl) rfl rfl (Nat.le_of_ble_eq_true rfl) (lv_sub hl [] rfl) dX3_whyNotHeard_14 (fun H locs hw => ?_)
    refine lv_if_eq (tgt := 23) hx hb dX3_whyNotHeard_17 (by decide) (fun hc => ?_) (fun hc => ?_)
    · replace h := p_t hc h
      refine lv_iload_n hx hb dX3_whyNotHeard_23 rfl (lv_at hl 3 rfl) ?_
      refine lv_iconst (v := (1 : Int32)) hx hb dX3_whyNotHeard_24 (by decide) ?_
      refine lv_sipush (v := (999 : Int32)) hx hb dX3_whyNotHeard_25 (by decide) ?_
      refine w_Si C hw (As := [.int a2, .int (1 : Int32), .int (999 : Int32)]) (rest := []) (c3_isWithin l G x m a2 (1 : Int32) (999 : Int32) _ rfl) ks_X3_isWithin ml_X3_44 ⟨rfl, rfl⟩ ⟨Nat.le_of_ble_eq_true rfl, Nat.le_of_ble_eq_true rfl⟩ ⟨Nat.zero_le _, Nat.zero_le _⟩ rfl rfl (Nat.le_of_ble_eq_true rfl) (lv_sub hl [] rfl) dX3_whyNotHeard_28 (fun H locs hw => ?_)
      refine lv_if_ne (tgt := 37) hx hb dX3_whyNotHeard_31 (by decide) (fun hc => ?_) (fun hc => ?_)
      · replace h := p_f hc h
        refine lv_aload_n hx hb dX3_whyNotHeard_37 rfl (lv_at hl 1 rfl) ?_
        refine w_get C hw (v := .ref (gq G (1 + 4 * 0))) (k := 0) (wk_main G x m) rfl it_3 (by decide) fl_X3_10 rfl dX3_whyNotHeard_38 ?_
        refine w_Vi C hw (As := []) (rest := []) (c2_isFull l G 0 (by decide) x m _ rfl) kv_X2_isFull ml_X3_80 ⟨rfl, rfl⟩ ⟨Nat.le_of_ble_eq_true rfl, Nat.le_of_ble_eq_true rfl⟩ ⟨Nat.zero_le _, Nat.zero_le _⟩ (w_recv C hw (wk_town G x m (by decide)) rfl) rfl rfl (Nat.le_of_ble_eq_true rfl) (lv_sub hl [] rfl) dX3_whyNotHeard_41 (fun H locs hw => ?_)
        refine lv_if_eq (tgt := 52) hx hb dX3_whyNotHeard_44 (by decide) (fun hc => ?_) (fun hc => ?_)
        · replace h := p_t hc h
          refine lv_iconst (v := (0 : Int32)) hx hb dX3_whyNotHeard_52 (by decide) ?_
          subst h
          exact w_iret C hw (v := (0 : Int32)) rfl rfl dX3_whyNotHeard_53
        · replace h := p_f hc h
          refine lv_ldc hx hb hown (C.w kc_X3_121) dX3_whyNotHeard_47 ?_
          refine lv_goto (tgt := 53) hx hb dX3_whyNotHeard_49 (by decide) ?_
          subst h
          exact w_iret C hw (v := (-1000005 : Int32)) rfl rfl dX3_whyNotHeard_53
      · replace h := p_t hc h
        refine lv_ldc hx hb hown (C.w kc_X3_48) dX3_whyNotHeard_34 ?_
        subst h
        exact w_iret C hw (v := (-1000001 : Int32)) rfl rfl dX3_whyNotHeard_36
    · replace h := p_f hc h
      refine lv_ldc hx hb hown (C.w kc_X3_198) dX3_whyNotHeard_20 ?_
      subst h
      exact w_iret C hw (v := (-1000006 : Int32)) rfl rfl dX3_whyNotHeard_22

def f3_fits_b44  (k23 : Int32 → Int32 → Int32 → Int32 → St → Option (Int32 × St)) (b1 : Int32) (b2 : Int32) (b4 : Int32) (b5 : Int32) (x : St) : Option (Int32 × St) :=
  k23 b1 b2 b4 (b5 + (1 : Int32)) x
def f3_fits_L23   : Nat → Int32 → Int32 → Int32 → Int32 → St → Option (Int32 × St)
  | 0, _, _, _, _, _ => none
  | n + 1, b1, b2, b4, b5, x =>
    if (112 : Int32) ≤ b5 then
      some (b4, x)
    else
      (f3_pairFits b1 b5 b2 x).bind fun q => match q with
      | (v4, z3) =>
        if v4 = 0 then
          f3_fits_b44 (f3_fits_L23 n) b1 b2 b4 b5 z3
        else
          f3_fits_b44 (f3_fits_L23 n) b1 b2 (b4 + (1 : Int32)) b5 z3
theorem f3_fits_L23_0   (b1 : Int32) (b2 : Int32) (b4 : Int32) (b5 : Int32) (x : St) : f3_fits_L23  0 b1 b2 b4 b5 x = none := rfl
theorem f3_fits_L23_s   (n : Nat) (b1 : Int32) (b2 : Int32) (b4 : Int32) (b5 : Int32) (x : St) : f3_fits_L23  (n + 1) b1 b2 b4 b5 x =
    if (112 : Int32) ≤ b5 then
      some (b4, x)
    else
      (f3_pairFits b1 b5 b2 x).bind fun q => match q with
      | (v4, z3) =>
        if v4 = 0 then
          f3_fits_b44 (f3_fits_L23 n) b1 b2 b4 b5 z3
        else
          f3_fits_b44 (f3_fits_L23 n) b1 b2 (b4 + (1 : Int32)) b5 z3 := rfl
def f3_fits  (a1 : Int32) (a2 : Int32) (x : St) : Option (Int32 × St) :=
  if (f3_whyNotHeard a1 a2 x) = 0 then
    f3_fits_L23 fu a1 a2 (0 : Int32) (0 : Int32) x
  else
    (f3_finding (f3_whyNotHeard a1 a2 x) x).bind fun q => match q with
    | (v2, z1) =>
      some (v2, z1)
set_option maxHeartbeats 4000000 in
set_option maxRecDepth 100000 in
theorem c3_fits (l : Launch) (G : GT)  (x m : St) (a1 : Int32) (a2 : Int32) (r : Int32 × St) (h : f3_fits a1 a2 x = some r) : Mt l yX3_fits cX3_fits 6 (some .int) (rmF 6 148) G x m [.ref (gq G 0), .int a1, .int a2] (some (.int r.1)) r.2 m := by
  refine Mt.of (by decide) (Nat.le_of_ble_eq_true rfl) ?_
  intro p e s mm args below meth c C ls hl hw
  have hx := C.1
  have hb := C.2.1
  have hown := C.2.2.2.2.1
  replace hl : lv_has ls 6 [(0, .ref (gq G 0)), (1, .int a1), (2, .int a2)] := hl
  have L23 : ∀ (n23 : Nat) (b1 : Int32) (b2 : Int32) (b4 : Int32) (b5 : Int32) (x : St) (H : Heap) (locs : List Loc) (ls : Array Slot), lv_has ls 6 [(0, .ref (gq G 0)), (1, .int b1), (2, .int b2), (4, .int b4), (5, .int b5)] → Wd G s x m H locs → f3_fits_L23 n23 b1 b2 b4 b5 x = some r → W p l e (rmF 6 148) s mm args below meth c H locs 0 0 (QE below G (some (.int r.1)) r.2 m args s) (F0 mm 23 ls []) := by
    intro n23
    induction n23 with
    | zero =>
      intro b1 b2 b4 b5 x H locs ls hl hw h
      rw [f3_fits_L23_0] at h
      exact absurd h.symm (Option.some_ne_none _)
    | succ n23 ih23 =>
      have B44 : ∀ (b1 : Int32) (b2 : Int32) (b4 : Int32) (b5 : Int32) (x : St) (H : Heap) (locs : List Loc) (ls : Array Slot), lv_has ls 6 [(0, .ref (gq G 0)), (1, .int b1), (2, .int b2), (4, .int b4), (5, .int b5)] → Wd G s x m H locs → f3_fits_b44 (f3_fits_L23 n23) b1 b2 b4 b5 x = some r → W p l e (rmF 6 148) s mm args below meth c H locs 0 0 (QE below G (some (.int r.1)) r.2 m args s) (F0 mm 44 ls []) := by
        intro b1 b2 b4 b5 x H locs ls hl hw h
        unfold f3_fits_b44 at h
        refine lv_iinc (v := (b5 + (1 : Int32))) (lv' := [(5, .int (b5 + (1 : Int32))), (0, .ref (gq G 0)), (1, .int b1), (2, .int b2), (4, .int b4)]) hx hb dX3_fits_44 hl (k := 4) rfl rfl (by decide) rfl (fun ls hl => ?_)
        refine lv_goto (tgt := 23) hx hb dX3_fits_47 (by decide) ?_
        exact ih23 b1 b2 b4 (b5 + (1 : Int32)) x _ _ _ (lv_sub hl [1, 2, 3, 4, 0] rfl) hw h
      intro b1 b2 b4 b5 x H locs ls hl hw h
      rw [f3_fits_L23_s] at h
      refine lv_iload hx hb dX3_fits_23 (lv_at hl 4 rfl) ?_
      refine lv_bipush (v := (112 : Int32)) hx hb dX3_fits_25 (by decide) ?_
      refine lv_icmp_ge (tgt := 50) hx hb dX3_fits_27 (by decide) (fun hc => ?_) (fun hc => ?_)
      · replace h := p_t hc h
        refine lv_iload hx hb dX3_fits_50 (lv_at hl 3 rfl) ?_
        replace h := Option.some.inj h
        subst h
        exact w_iret C hw (v := b4) rfl rfl dX3_fits_52
      · replace h := p_f hc h
        refine lv_aload_n hx hb dX3_fits_30 rfl (lv_at hl 0 rfl) ?_
        refine lv_iload_n hx hb dX3_fits_31 rfl (lv_at hl 1 rfl) ?_
        refine lv_iload hx hb dX3_fits_32 (lv_at hl 4 rfl) ?_
        refine lv_iload_n hx hb dX3_fits_34 rfl (lv_at hl 2 rfl) ?_
        obtain ⟨⟨v4, z3⟩, hq, h⟩ := p_bd h
        dsimp only at h
        refine w_Vi C hw (As := [.int b1, .int b5, .int b2]) (rest := []) (c3_pairFits l G x m b1 b5 b2 (v4, z3) hq) kv_X3_pairFits ml_X3_188 ⟨rfl, rfl⟩ ⟨Nat.le_of_ble_eq_true rfl, Nat.le_of_ble_eq_true rfl⟩ ⟨Nat.zero_le _, Nat.zero_le _⟩ (w_recv C hw (wk_main G x m) rfl) rfl rfl (Nat.le_of_ble_eq_true rfl) (lv_sub hl [] rfl) dX3_fits_35 (fun H locs hw => ?_)
        refine lv_if_eq (tgt := 44) hx hb dX3_fits_38 (by decide) (fun hc => ?_) (fun hc => ?_)
        · replace h := p_t hc h
          exact B44 b1 b2 b4 b5 z3 _ _ _ (lv_sub hl [0, 1, 2, 3, 4] rfl) hw h
        · replace h := p_f hc h
          refine lv_iinc (v := (b4 + (1 : Int32))) (lv' := [(4, .int (b4 + (1 : Int32))), (0, .ref (gq G 0)), (1, .int b1), (2, .int b2), (5, .int b5)]) hx hb dX3_fits_41 hl (k := 3) rfl rfl (by decide) rfl (fun ls hl => ?_)
          exact B44 b1 b2 (b4 + (1 : Int32)) b5 z3 _ _ _ (lv_sub hl [1, 2, 3, 0, 4] rfl) hw h
  unfold f3_fits at h
  refine lv_aload_n hx hb dX3_fits_0 rfl (lv_at hl 0 rfl) ?_
  refine lv_iload_n hx hb dX3_fits_1 rfl (lv_at hl 1 rfl) ?_
  refine lv_iload_n hx hb dX3_fits_2 rfl (lv_at hl 2 rfl) ?_
  refine w_Vi C hw (As := [.int a1, .int a2]) (rest := []) (c3_whyNotHeard l G x m a1 a2 _ rfl) kv_X3_whyNotHeard ml_X3_185 ⟨rfl, rfl⟩ ⟨Nat.le_of_ble_eq_true rfl, Nat.le_of_ble_eq_true rfl⟩ ⟨Nat.zero_le _, Nat.zero_le _⟩ (w_recv C hw (wk_main G x m) rfl) rfl rfl (Nat.le_of_ble_eq_true rfl) (lv_sub hl [] rfl) dX3_fits_3 (fun H locs hw => ?_)
  refine lv_istore_n (lv' := [(3, .int (f3_whyNotHeard a1 a2 x)), (0, .ref (gq G 0)), (1, .int a1), (2, .int a2)]) hx hb dX3_fits_6 rfl hl (by decide) rfl (fun ls hl => ?_)
  refine lv_iload_n hx hb dX3_fits_7 rfl (lv_at hl 0 rfl) ?_
  refine lv_if_eq (tgt := 17) hx hb dX3_fits_8 (by decide) (fun hc => ?_) (fun hc => ?_)
  · replace h := p_t hc h
    refine lv_iconst (v := (0 : Int32)) hx hb dX3_fits_17 (by decide) ?_
    refine lv_istore (lv' := [(4, .int (0 : Int32)), (3, .int (f3_whyNotHeard a1 a2 x)), (0, .ref (gq G 0)), (1, .int a1), (2, .int a2)]) hx hb dX3_fits_18 hl (by decide) rfl (fun ls hl => ?_)
    refine lv_iconst (v := (0 : Int32)) hx hb dX3_fits_20 (by decide) ?_
    refine lv_istore (lv' := [(5, .int (0 : Int32)), (4, .int (0 : Int32)), (3, .int (f3_whyNotHeard a1 a2 x)), (0, .ref (gq G 0)), (1, .int a1), (2, .int a2)]) hx hb dX3_fits_21 hl (by decide) rfl (fun ls hl => ?_)
    exact L23 fu a1 a2 (0 : Int32) (0 : Int32) x _ _ _ (lv_sub hl [3, 4, 5, 1, 0] rfl) hw h
  · replace h := p_f hc h
    refine lv_aload_n hx hb dX3_fits_11 rfl (lv_at hl 1 rfl) ?_
    refine lv_iload_n hx hb dX3_fits_12 rfl (lv_at hl 0 rfl) ?_
    obtain ⟨⟨v2, z1⟩, hq, h⟩ := p_bd h
    dsimp only at h
    refine w_Vi C hw (As := [.int (f3_whyNotHeard a1 a2 x)]) (rest := []) (c3_finding l G x m (f3_whyNotHeard a1 a2 x) (v2, z1) hq) kv_X3_finding ml_X3_49 ⟨rfl, rfl⟩ ⟨Nat.le_of_ble_eq_true rfl, Nat.le_of_ble_eq_true rfl⟩ ⟨Nat.zero_le _, Nat.zero_le _⟩ (w_recv C hw (wk_main G x m) rfl) rfl rfl (Nat.le_of_ble_eq_true rfl) (lv_sub hl [] rfl) dX3_fits_13 (fun H locs hw => ?_)
    replace h := Option.some.inj h
    subst h
    exact w_iret C hw (v := v2) rfl rfl dX3_fits_16
