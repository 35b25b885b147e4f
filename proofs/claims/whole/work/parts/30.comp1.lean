def f0_isMissing (j : Nat)  (x : St) : Int32 :=
  if (x (16 + 2 * j) 1) = 0 then
    (1 : Int32)
  else
    (0 : Int32)
theorem bz_X0_isMissing (j : Nat)  (x : St) : f0_isMissing j x = 0 ∨ f0_isMissing j x = 1 := by
  unfold f0_isMissing
  repeat' split
  all_goals first | exact Or.inl rfl | exact Or.inr rfl
set_option maxHeartbeats 4000000 in
set_option maxRecDepth 100000 in
theorem c0_isMissing (l : Launch) (G : GT) (j : Nat) (hj : j < 4) (x m : St)  (r : Int32) (h : f0_isMissing j x = r) : Mt l yX0_isMissing cX0_isMissing 1 (some .boolean) (rmF 0 0) G x m [.ref (gq G (16 + 2 * j))] (some (.int r)) x m := by
  refine Mt.of (by decide) (Nat.le_of_ble_eq_true rfl) ?_
  intro p e s mm args below meth c C ls hl hw
  have hx := C.1
  have hb := C.2.1
  have hown := C.2.2.2.2.1
  replace hl : lv_has ls 1 [(0, .ref (gq G (16 + 2 * j)))] := hl
  unfold f0_isMissing at h
  refine lv_aload_n hx hb dX0_isMissing_0 rfl (lv_at hl 0 rfl) ?_
  refine w_get C hw (v := .int (x (16 + 2 * j) 1)) (k := 1) (wk_sheet G x m hj) rfl it_0 (by decide) fl_X0_15 rfl dX0_isMissing_1 ?_
  refine lv_if_ne (tgt := 11) hx hb dX0_isMissing_4 (by decide) (fun hc => ?_) (fun hc => ?_)
  · replace h := p_f hc h
    refine lv_iconst (v := (0 : Int32)) hx hb dX0_isMissing_11 (by decide) ?_
    subst h
    exact w_iret C hw (v := (0 : Int32)) rfl rfl dX0_isMissing_12
  · replace h := p_t hc h
    refine lv_iconst (v := (1 : Int32)) hx hb dX0_isMissing_7 (by decide) ?_
    refine lv_goto (tgt := 12) hx hb dX0_isMissing_8 (by decide) ?_
    subst h
    exact w_iret C hw (v := (1 : Int32)) rfl rfl dX0_isMissing_12

def f0_begin_L12 (j : Nat)  : Nat → Int32 → St → Option (St)
  | 0, _, _ => none
  | n + 1, b3, x =>
    if (40 : Int32) ≤ b3 then
      some x
    else
      if b3 < 0 ∨ 40 ≤ b3.toNatClampNeg then none else
      (f0_begin_L12 j n) (b3 + (1 : Int32)) (up x (17 + 2 * j) b3.toNatClampNeg (0 : Int32))
theorem f0_begin_L12_0 (j : Nat)  (b3 : Int32) (x : St) : f0_begin_L12 j 0 b3 x = none := rfl
theorem f0_begin_L12_s (j : Nat)  (n : Nat) (b3 : Int32) (x : St) : f0_begin_L12 j (n + 1) b3 x =
    if (40 : Int32) ≤ b3 then
      some x
    else
      if b3 < 0 ∨ 40 ≤ b3.toNatClampNeg then none else
      (f0_begin_L12 j n) (b3 + (1 : Int32)) (up x (17 + 2 * j) b3.toNatClampNeg (0 : Int32)) := rfl
def f0_begin (j : Nat) (a1 : Int32) (a2 : Int32) (x : St) : Option (St) :=
  f0_begin_L12 j fu (0 : Int32) (up (up x (16 + 2 * j) 1 a1) (16 + 2 * j) 2 a2)
set_option maxHeartbeats 4000000 in
set_option maxRecDepth 100000 in
theorem c0_begin (l : Launch) (G : GT) (j : Nat) (hj : j < 4) (x m : St) (a1 : Int32) (a2 : Int32) (r : St) (h : f0_begin j a1 a2 x = some r) : Mt l yX0_begin cX0_begin 4 none (rmF 0 0) G x m [.ref (gq G (16 + 2 * j)), .int a1, .int a2] none r m := by
  refine Mt.of (by decide) (Nat.le_of_ble_eq_true rfl) ?_
  intro p e s mm args below meth c C ls hl hw
  have hx := C.1
  have hb := C.2.1
  have hown := C.2.2.2.2.1
  replace hl : lv_has ls 4 [(0, .ref (gq G (16 + 2 * j))), (1, .int a1), (2, .int a2)] := hl
  have L12 : ∀ (n12 : Nat) (b3 : Int32) (x : St) (H : Heap) (locs : List Loc) (ls : Array Slot), lv_has ls 4 [(0, .ref (gq G (16 + 2 * j))), (3, .int b3)] → Wd G s x m H locs → f0_begin_L12 j n12 b3 x = some r → W p l e (rmF 0 0) s mm args below meth c H locs 0 0 (QE below G none r m args s) (F0 mm 12 ls []) := by
    intro n12
    induction n12 with
    | zero =>
      intro b3 x H locs ls hl hw h
      rw [f0_begin_L12_0] at h
      exact absurd h.symm (Option.some_ne_none _)
    | succ n12 ih12 =>
      intro b3 x H locs ls hl hw h
      rw [f0_begin_L12_s] at h
      refine lv_iload_n hx hb dX0_begin_12 rfl (lv_at hl 1 rfl) ?_
      refine lv_aload_n hx hb dX0_begin_13 rfl (lv_at hl 0 rfl) ?_
      refine w_get C hw (v := .ref (gq G (17 + 2 * j))) (k := 0) (wk_sheet G x m hj) rfl it_0 (by decide) fl_X0_9 rfl dX0_begin_14 ?_
      refine w_alen C hw (v := (40 : Int32)) ((ax_nu hj) G x m).1 rfl dX0_begin_17 ?_
      refine lv_icmp_ge (tgt := 34) hx hb dX0_begin_18 (by decide) (fun hc => ?_) (fun hc => ?_)
      · replace h := p_t hc h
        replace h := Option.some.inj h
        subst h
        exact w_vret C hw rfl dX0_begin_34
      · replace h := p_f hc h
        refine lv_aload_n hx hb dX0_begin_21 rfl (lv_at hl 0 rfl) ?_
        refine w_get C hw (v := .ref (gq G (17 + 2 * j))) (k := 0) (wk_sheet G x m hj) rfl it_0 (by decide) fl_X0_9 rfl dX0_begin_22 ?_
        refine lv_iload_n hx hb dX0_begin_25 rfl (lv_at hl 1 rfl) ?_
        refine lv_iconst (v := (0 : Int32)) hx hb dX0_begin_26 (by decide) ?_
        obtain ⟨hq, h⟩ := p_if h
        refine w_astX C hw (ax_nu hj) hq dX0_begin_27 (fun H locs hw => ?_)
        refine lv_iinc (v := (b3 + (1 : Int32))) (lv' := [(3, .int (b3 + (1 : Int32))), (0, .ref (gq G (16 + 2 * j)))]) hx hb dX0_begin_28 hl (k := 1) rfl rfl (by decide) rfl (fun ls hl => ?_)
        refine lv_goto (tgt := 12) hx hb dX0_begin_31 (by decide) ?_
        exact ih12 (b3 + (1 : Int32)) (up x (17 + 2 * j) b3.toNatClampNeg (0 : Int32)) _ _ _ (lv_sub hl [1, 0] rfl) hw h
  unfold f0_begin at h
  refine lv_aload_n hx hb dX0_begin_0 rfl (lv_at hl 0 rfl) ?_
  refine lv_iload_n hx hb dX0_begin_1 rfl (lv_at hl 1 rfl) ?_
  refine w_put C hw (k := 1) tyX0 tyX0_ok nmX0 (wk_sheet G x m hj) rfl it_0 (by decide) fl_X0_15 rfl (ty := .int) rfl rfl rfl (Nat.le_of_ble_eq_true rfl) (ws_sheet G x m hj 1 (by decide) _) dX0_begin_2 (fun H locs hw => ?_)
  refine lv_aload_n hx hb dX0_begin_5 rfl (lv_at hl 0 rfl) ?_
  refine lv_iload_n hx hb dX0_begin_6 rfl (lv_at hl 2 rfl) ?_
  refine w_put C hw (k := 2) tyX0 tyX0_ok nmX0 (wk_sheet G (up x (16 + 2 * j) 1 a1) m hj) rfl it_0 (by decide) fl_X0_19 rfl (ty := .int) rfl rfl rfl (Nat.le_of_ble_eq_true rfl) (ws_sheet G (up x (16 + 2 * j) 1 a1) m hj 2 (by decide) _) dX0_begin_7 (fun H locs hw => ?_)
  refine lv_iconst (v := (0 : Int32)) hx hb dX0_begin_10 (by decide) ?_
  refine lv_istore_n (lv' := [(3, .int (0 : Int32)), (0, .ref (gq G (16 + 2 * j))), (1, .int a1), (2, .int a2)]) hx hb dX0_begin_11 rfl hl (by decide) rfl (fun ls hl => ?_)
  exact L12 fu (0 : Int32) (up (up x (16 + 2 * j) 1 a1) (16 + 2 * j) 2 a2) _ _ _ (lv_sub hl [1, 0] rfl) hw h

def f0_number (j : Nat) (a1 : Int32) (x : St) : Option (Int32) :=
  if a1 < 0 then
    some (0 : Int32)
  else
    if (40 : Int32) ≤ a1 then
      some (0 : Int32)
    else
      if a1 < 0 ∨ 40 ≤ a1.toNatClampNeg then none else
      some (x (17 + 2 * j) a1.toNatClampNeg)
set_option maxHeartbeats 4000000 in
set_option maxRecDepth 100000 in
theorem c0_number (l : Launch) (G : GT) (j : Nat) (hj : j < 4) (x m : St) (a1 : Int32) (r : Int32) (h : f0_number j a1 x = some r) : Mt l yX0_number cX0_number 2 (some .int) (rmF 0 0) G x m [.ref (gq G (16 + 2 * j)), .int a1] (some (.int r)) x m := by
  refine Mt.of (by decide) (Nat.le_of_ble_eq_true rfl) ?_
  intro p e s mm args below meth c C ls hl hw
  have hx := C.1
  have hb := C.2.1
  have hown := C.2.2.2.2.1
  replace hl : lv_has ls 2 [(0, .ref (gq G (16 + 2 * j))), (1, .int a1)] := hl
  unfold f0_number at h
  refine lv_iload_n hx hb dX0_number_0 rfl (lv_at hl 1 rfl) ?_
  refine lv_if_lt (tgt := 22) hx hb dX0_number_1 (by decide) (fun hc => ?_) (fun hc => ?_)
  · replace h := p_t hc h
    refine lv_iconst (v := (0 : Int32)) hx hb dX0_number_22 (by decide) ?_
    replace h := Option.some.inj h
    subst h
    exact w_iret C hw (v := (0 : Int32)) rfl rfl dX0_number_23
  · replace h := p_f hc h
    refine lv_iload_n hx hb dX0_number_4 rfl (lv_at hl 1 rfl) ?_
    refine lv_aload_n hx hb dX0_number_5 rfl (lv_at hl 0 rfl) ?_
    refine w_get C hw (v := .ref (gq G (17 + 2 * j))) (k := 0) (wk_sheet G x m hj) rfl it_0 (by decide) fl_X0_9 rfl dX0_number_6 ?_
    refine w_alen C hw (v := (40 : Int32)) ((ax_nu hj) G x m).1 rfl dX0_number_9 ?_
    refine lv_icmp_ge (tgt := 22) hx hb dX0_number_10 (by decide) (fun hc => ?_) (fun hc => ?_)
    · replace h := p_t hc h
      refine lv_iconst (v := (0 : Int32)) hx hb dX0_number_22 (by decide) ?_
      replace h := Option.some.inj h
      subst h
      exact w_iret C hw (v := (0 : Int32)) rfl rfl dX0_number_23
    · replace h := p_f hc h
      refine lv_aload_n hx hb dX0_number_13 rfl (lv_at hl 0 rfl) ?_
      refine w_get C hw (v := .ref (gq G (17 + 2 * j))) (k := 0) (wk_sheet G x m hj) rfl it_0 (by decide) fl_X0_9 rfl dX0_number_14 ?_
      refine lv_iload_n hx hb dX0_number_17 rfl (lv_at hl 1 rfl) ?_
      obtain ⟨hq, h⟩ := p_if h
      refine w_ald C hw ((ax_nu hj) G x m).1 hq dX0_number_18 ?_
      refine lv_goto (tgt := 23) hx hb dX0_number_19 (by decide) ?_
      replace h := Option.some.inj h
      subst h
      exact w_iret C hw (v := (x (17 + 2 * j) a1.toNatClampNeg)) rfl rfl dX0_number_23

def f3_put (kc1 : Nat) (ln1 : Nat) (a2 : Int32) (a3 : Int32) (x : St) : Option (St) :=
  if a2 < 0 then
    some x
  else
    if (Int32.ofNat ln1) ≤ a2 then
      some x
    else
      if a2 < 0 ∨ ln1 ≤ a2.toNatClampNeg then none else
      some (up x kc1 a2.toNatClampNeg a3)
set_option maxHeartbeats 4000000 in
set_option maxRecDepth 100000 in
theorem c3_put (l : Launch) (G : GT) (kc1 : Nat) (ln1 : Nat) (hkc1 : AX kc1 ln1) (x m : St) (a2 : Int32) (a3 : Int32) (r : St) (h : f3_put kc1 ln1 a2 a3 x = some r) : Mt l yX3_put cX3_put 3 none (rmF 0 0) G x m [.ref (gq G kc1), .int a2, .int a3] none r m := by
  refine Mt.of (by decide) (Nat.le_of_ble_eq_true rfl) ?_
  intro p e s mm args below meth c C ls hl hw
  have hx := C.1
  have hb := C.2.1
  have hown := C.2.2.2.2.1
  replace hl : lv_has ls 3 [(0, .ref (gq G kc1)), (1, .int a2), (2, .int a3)] := hl
  unfold f3_put at h
  refine lv_iload_n hx hb dX3_put_0 rfl (lv_at hl 1 rfl) ?_
  refine lv_if_lt (tgt := 14) hx hb dX3_put_1 (by decide) (fun hc => ?_) (fun hc => ?_)
  · replace h := p_t hc h
    replace h := Option.some.inj h
    subst h
    exact w_vret C hw rfl dX3_put_14
  · replace h := p_f hc h
    refine lv_iload_n hx hb dX3_put_4 rfl (lv_at hl 1 rfl) ?_
    refine lv_aload_n hx hb dX3_put_5 rfl (lv_at hl 0 rfl) ?_
    refine w_alen C hw (v := (Int32.ofNat ln1)) (hkc1 G x m).1 rfl dX3_put_6 ?_
    refine lv_icmp_ge (tgt := 14) hx hb dX3_put_7 (by decide) (fun hc => ?_) (fun hc => ?_)
    · replace h := p_t hc h
      replace h := Option.some.inj h
      subst h
      exact w_vret C hw rfl dX3_put_14
    · replace h := p_f hc h
      refine lv_aload_n hx hb dX3_put_10 rfl (lv_at hl 0 rfl) ?_
      refine lv_iload_n hx hb dX3_put_11 rfl (lv_at hl 1 rfl) ?_
      refine lv_iload_n hx hb dX3_put_12 rfl (lv_at hl 2 rfl) ?_
      obtain ⟨hq, h⟩ := p_if h
      refine w_astX C hw hkc1 hq dX3_put_13 (fun H locs hw => ?_)
      replace h := Option.some.inj h
      subst h
      exact w_vret C hw rfl dX3_put_14

def f0_setNumber_b34 (j : Nat)  (w1 : Int32) (w2 : Int32) (x : St) : Option (St) :=
  (f3_put (17 + 2 * j) 40 w1 w2 x).bind fun z1 =>
  some z1
def f0_setNumber (j : Nat) (a1 : Int32) (a2 : Int32) (x : St) : Option (St) :=
  if (x (16 + 2 * j) 1) = (8 : Int32) then
    f0_setNumber_b34 j a1 (a2.toInt8.toInt32) x
  else
    if (x (16 + 2 * j) 1) = (16 : Int32) then
      f0_setNumber_b34 j a1 (a2.toInt16.toInt32) x
    else
      f0_setNumber_b34 j a1 a2 x
set_option maxHeartbeats 4000000 in
set_option maxRecDepth 100000 in
theorem c0_setNumber (l : Launch) (G : GT) (j : Nat) (hj : j < 4) (x m : St) (a1 : Int32) (a2 : Int32) (r : St) (h : f0_setNumber j a1 a2 x = some r) : Mt l yX0_setNumber cX0_setNumber 3 none (rmF 1 22) G x m [.ref (gq G (16 + 2 * j)), .int a1, .int a2] none r m := by
  refine Mt.of (by decide) (Nat.le_of_ble_eq_true rfl) ?_
  intro p e s mm args below meth c C ls hl hw
  have hx := C.1
  have hb := C.2.1
  have hown := C.2.2.2.2.1
  replace hl : lv_has ls 3 [(0, .ref (gq G (16 + 2 * j))), (1, .int a1), (2, .int a2)] := hl
  have B34 : ∀ (w1 : Int32) (w2 : Int32) (x : St) (H : Heap) (locs : List Loc) (ls : Array Slot), lv_has ls 3 [] → Wd G s x m H locs → f0_setNumber_b34 j w1 w2 x = some r → W p l e (rmF 1 22) s mm args below meth c H locs 0 0 (QE below G none r m args s) (F0 mm 34 ls [.int w2, .int w1, .ref (gq G (17 + 2 * j))]) := by
    intro w1 w2 x H locs ls hl hw h
    unfold f0_setNumber_b34 at h
    obtain ⟨z1, hq, h⟩ := p_bd h
    refine w_SNv C hw (As := [.ref (gq G (17 + 2 * j)), .int w1, .int w2]) (rest := []) (c3_put l G (17 + 2 * j) 40 (ax_nu hj) x m w1 w2 z1 hq) ks_X3_put (List.mem_of_getElem? (i := 6) rfl) ⟨rfl, rfl⟩ ⟨Nat.le_of_ble_eq_true rfl, Nat.le_of_ble_eq_true rfl⟩ ⟨Nat.zero_le _, Nat.zero_le _⟩ rfl rfl (Nat.le_of_ble_eq_true rfl) (lv_sub hl [] rfl) dX0_setNumber_34 (fun H locs hw => ?_)
    replace h := Option.some.inj h
    subst h
    exact w_vret C hw rfl dX0_setNumber_37
  unfold f0_setNumber at h
  refine lv_aload_n hx hb dX0_setNumber_0 rfl (lv_at hl 0 rfl) ?_
  refine w_get C hw (v := .ref (gq G (17 + 2 * j))) (k := 0) (wk_sheet G x m hj) rfl it_0 (by decide) fl_X0_9 rfl dX0_setNumber_1 ?_
  refine lv_iload_n hx hb dX0_setNumber_4 rfl (lv_at hl 1 rfl) ?_
  refine lv_aload_n hx hb dX0_setNumber_5 rfl (lv_at hl 0 rfl) ?_
  refine w_get C hw (v := .int (x (16 + 2 * j) 1)) (k := 1) (wk_sheet G x m hj) rfl it_0 (by decide) fl_X0_15 rfl dX0_setNumber_6 ?_
  refine lv_bipush (v := (8 : Int32)) hx hb dX0_setNumber_9 (by decide) ?_
  refine lv_icmp_ne (tgt := 19) hx hb dX0_setNumber_11 (by decide) (fun hc => ?_) (fun hc => ?_)
  · replace h := p_f hc h
    refine lv_aload_n hx hb dX0_setNumber_19 rfl (lv_at hl 0 rfl) ?_
    refine w_get C hw (v := .int (x (16 + 2 * j) 1)) (k := 1) (wk_sheet G x m hj) rfl it_0 (by decide) fl_X0_15 rfl dX0_setNumber_20 ?_
    refine lv_bipush (v := (16 : Int32)) hx hb dX0_setNumber_23 (by decide) ?_
    refine lv_icmp_ne (tgt := 33) hx hb dX0_setNumber_25 (by decide) (fun hc => ?_) (fun hc => ?_)
    · replace h := p_f hc h
      refine lv_iload_n hx hb dX0_setNumber_33 rfl (lv_at hl 2 rfl) ?_
      exact B34 a1 a2 x _ _ _ (lv_sub hl [] rfl) hw h
    · replace h := p_t hc h
      refine lv_iload_n hx hb dX0_setNumber_28 rfl (lv_at hl 2 rfl) ?_
      refine lv_i2s hx hb dX0_setNumber_29 rfl ?_
      refine lv_goto (tgt := 34) hx hb dX0_setNumber_30 (by decide) ?_
      exact B34 a1 (a2.toInt16.toInt32) x _ _ _ (lv_sub hl [] rfl) hw h
  · replace h := p_t hc h
    refine lv_iload_n hx hb dX0_setNumber_14 rfl (lv_at hl 2 rfl) ?_
    refine lv_i2b hx hb dX0_setNumber_15 rfl ?_
    refine lv_goto (tgt := 34) hx hb dX0_setNumber_16 (by decide) ?_
    exact B34 a1 (a2.toInt8.toInt32) x _ _ _ (lv_sub hl [] rfl) hw h

def f0_hasNumbers (j : Nat) (a1 : Int32) (a2 : Int32) (x : St) : Int32 :=
  if a1 < 0 then
    (0 : Int32)
  else
    if a2 < 0 then
      (0 : Int32)
    else
      if (if (40 : Int32) < (x (16 + 2 * j) 2) then (40 : Int32) else (x (16 + 2 * j) 2)) < a1 then
        (0 : Int32)
      else
        if ((if (40 : Int32) < (x (16 + 2 * j) 2) then (40 : Int32) else (x (16 + 2 * j) 2)) - a1) < a2 then
          (0 : Int32)
        else
          (1 : Int32)
theorem bz_X0_hasNumbers (j : Nat) (a1 : Int32) (a2 : Int32) (x : St) : f0_hasNumbers j a1 a2 x = 0 ∨ f0_hasNumbers j a1 a2 x = 1 := by
  unfold f0_hasNumbers
  repeat' split
  all_goals first | exact Or.inl rfl | exact Or.inr rfl
set_option maxHeartbeats 4000000 in
set_option maxRecDepth 100000 in
theorem c0_hasNumbers (l : Launch) (G : GT) (j : Nat) (hj : j < 4) (x m : St) (a1 : Int32) (a2 : Int32) (r : Int32) (h : f0_hasNumbers j a1 a2 x = r) : Mt l yX0_hasNumbers cX0_hasNumbers 4 (some .boolean) (rmF 1 21) G x m [.ref (gq G (16 + 2 * j)), .int a1, .int a2] (some (.int r)) x m := by
  refine Mt.of (by decide) (Nat.le_of_ble_eq_true rfl) ?_
  intro p e s mm args below meth c C ls hl hw
  have hx := C.1
  have hb := C.2.1
  have hown := C.2.2.2.2.1
  replace hl : lv_has ls 4 [(0, .ref (gq G (16 + 2 * j))), (1, .int a1), (2, .int a2)] := hl
  unfold f0_hasNumbers at h
  refine lv_aload_n hx hb dX0_hasNumbers_0 rfl (lv_at hl 0 rfl) ?_
  refine w_get C hw (v := .int (x (16 + 2 * j) 2)) (k := 2) (wk_sheet G x m hj) rfl it_0 (by decide) fl_X0_19 rfl dX0_hasNumbers_1 ?_
  refine lv_aload_n hx hb dX0_hasNumbers_4 rfl (lv_at hl 0 rfl) ?_
  refine w_get C hw (v := .ref (gq G (17 + 2 * j))) (k := 0) (wk_sheet G x m hj) rfl it_0 (by decide) fl_X0_9 rfl dX0_hasNumbers_5 ?_
  refine w_alen C hw (v := (40 : Int32)) ((ax_nu hj) G x m).1 rfl dX0_hasNumbers_8 ?_
  refine w_min C (lv_sub hl [] rfl) ml_X0_26 k_min ⟨Nat.le_of_ble_eq_true rfl, Nat.le_of_ble_eq_true rfl⟩ ⟨Nat.zero_le _, Nat.zero_le _⟩ (Nat.le_of_ble_eq_true rfl) dX0_hasNumbers_9 ?_
  refine lv_istore_n (lv' := [(3, .int (if (40 : Int32) < (x (16 + 2 * j) 2) then (40 : Int32) else (x (16 + 2 * j) 2))), (0, .ref (gq G (16 + 2 * j))), (1, .int a1), (2, .int a2)]) hx hb dX0_hasNumbers_12 rfl hl (by decide) rfl (fun ls hl => ?_)
  refine lv_iload_n hx hb dX0_hasNumbers_13 rfl (lv_at hl 2 rfl) ?_
  refine lv_if_lt (tgt := 37) hx hb dX0_hasNumbers_14 (by decide) (fun hc => ?_) (fun hc => ?_)
  · replace h := p_t hc h
    refine lv_iconst (v := (0 : Int32)) hx hb dX0_hasNumbers_37 (by decide) ?_
    subst h
    exact w_iret C hw (v := (0 : Int32)) rfl rfl dX0_hasNumbers_38
  · replace h := p_f hc h
    refine lv_iload_n hx hb dX0_hasNumbers_17 rfl (lv_at hl 3 rfl) ?_
    refine lv_if_lt (tgt := 37) hx hb dX0_hasNumbers_18 (by decide) (fun hc => ?_) (fun hc => ?_)
    · replace h := p_t hc h
      refine lv_iconst (v := (0 : Int32)) hx hb dX0_hasNumbers_37 (by decide) ?_
      subst h
      exact w_iret C hw (v := (0 : Int32)) rfl rfl dX0_hasNumbers_38
    · replace h := p_f hc h
      refine lv_iload_n hx hb dX0_hasNumbers_21 rfl (lv_at hl 2 rfl) ?_
      refine lv_iload_n hx hb dX0_hasNumbers_22 rfl (lv_at hl 0 rfl) ?_
      refine lv_icmp_gt (tgt := 37) hx hb dX0_hasNumbers_23 (by decide) (fun hc => ?_) (fun hc => ?_)
      · replace h := p_t hc h
        refine lv_iconst (v := (0 : Int32)) hx hb dX0_hasNumbers_37 (by decide) ?_
        subst h
        exact w_iret C hw (v := (0 : Int32)) rfl rfl dX0_hasNumbers_38
      · replace h := p_f hc h
        refine lv_iload_n hx hb dX0_hasNumbers_26 rfl (lv_at hl 3 rfl) ?_
        refine lv_iload_n hx hb dX0_hasNumbers_27 rfl (lv_at hl 0 rfl) ?_
        refine lv_iload_n hx hb dX0_hasNumbers_28 rfl (lv_at hl 2 rfl) ?_
        refine lv_isub hx hb dX0_hasNumbers_29 ?_
        refine lv_icmp_gt (tgt := 37) hx hb dX0_hasNumbers_30 (by decide) (fun hc => ?_) (fun hc => ?_)
        · replace h := p_t hc h
          refine lv_iconst (v := (0 : Int32)) hx hb dX0_hasNumbers_37 (by decide) ?_
          subst h
          exact w_iret C hw (v := (0 : Int32)) rfl rfl dX0_hasNumbers_38
        · replace h := p_f hc h
          refine lv_iconst (v := (1 : Int32)) hx hb dX0_hasNumbers_33 (by decide) ?_
          refine lv_goto (tgt := 38) hx hb dX0_hasNumbers_34 (by decide) ?_
          subst h
          exact w_iret C hw (v := (1 : Int32)) rfl rfl dX0_hasNumbers_38

def f1_append  (a1 : Int32) (x : St) : Option (St) :=
  if (120 : Int32) ≤ (x 13 1) then
    some x
  else
    if (x 13 1) < 0 ∨ 120 ≤ (x 13 1).toNatClampNeg then none else
    some (up (up x 14 (x 13 1).toNatClampNeg a1) 13 1 (((up x 14 (x 13 1).toNatClampNeg a1) 13 1) + (1 : Int32)))
set_option maxHeartbeats 4000000 in
set_option maxRecDepth 100000 in
theorem c1_append (l : Launch) (G : GT)  (x m : St) (a1 : Int32) (r : St) (h : f1_append a1 x = some r) : Mt l yX1_append cX1_append 2 none (rmF 0 0) G x m [.ref (gq G 13), .int a1] none r m := by
  refine Mt.of (by decide) (Nat.le_of_ble_eq_true rfl) ?_
  intro p e s mm args below meth c C ls hl hw
  have hx := C.1
  have hb := C.2.1
  have hown := C.2.2.2.2.1
  replace hl : lv_has ls 2 [(0, .ref (gq G 13)), (1, .int a1)] := hl
  unfold f1_append at h
  refine lv_aload_n hx hb dX1_append_0 rfl (lv_at hl 0 rfl) ?_
  refine w_get C hw (v := .int (x 13 1)) (k := 1) (wk_tape G x m) rfl it_1 (by decide) fl_X1_15 rfl dX1_append_1 ?_
  refine lv_aload_n hx hb dX1_append_4 rfl (lv_at hl 0 rfl) ?_
  refine w_get C hw (v := .ref (gq G 14)) (k := 0) (wk_tape G x m) rfl it_1 (by decide) fl_X1_9 rfl dX1_append_5 ?_
  refine w_alen C hw (v := (120 : Int32)) (ax_14 G x m).1 rfl dX1_append_8 ?_
  refine lv_icmp_ge (tgt := 32) hx hb dX1_append_9 (by decide) (fun hc => ?_) (fun hc => ?_)
  · replace h := p_t hc h
    replace h := Option.some.inj h
    subst h
    exact w_vret C hw rfl dX1_append_32
  · replace h := p_f hc h
    refine lv_aload_n hx hb dX1_append_12 rfl (lv_at hl 0 rfl) ?_
    refine w_get C hw (v := .ref (gq G 14)) (k := 0) (wk_tape G x m) rfl it_1 (by decide) fl_X1_9 rfl dX1_append_13 ?_
    refine lv_aload_n hx hb dX1_append_16 rfl (lv_at hl 0 rfl) ?_
    refine w_get C hw (v := .int (x 13 1)) (k := 1) (wk_tape G x m) rfl it_1 (by decide) fl_X1_15 rfl dX1_append_17 ?_
    refine lv_iload_n hx hb dX1_append_20 rfl (lv_at hl 1 rfl) ?_
    obtain ⟨hq, h⟩ := p_if h
    refine w_astX C hw ax_14 hq dX1_append_21 (fun H locs hw => ?_)
    refine lv_aload_n hx hb dX1_append_22 rfl (lv_at hl 0 rfl) ?_
    refine lv_dup hx hb dX1_append_23 rfl ?_
    refine w_get C hw (v := .int ((up x 14 (x 13 1).toNatClampNeg a1) 13 1)) (k := 1) (wk_tape G (up x 14 (x 13 1).toNatClampNeg a1) m) rfl it_1 (by decide) fl_X1_15 rfl dX1_append_24 ?_
    refine lv_iconst (v := (1 : Int32)) hx hb dX1_append_27 (by decide) ?_
    refine lv_iadd hx hb dX1_append_28 ?_
    refine w_put C hw (k := 1) tyX1 tyX1_ok nmX1 (wk_tape G (up x 14 (x 13 1).toNatClampNeg a1) m) rfl it_1 (by decide) fl_X1_15 rfl (ty := .int) rfl rfl rfl (Nat.le_of_ble_eq_true rfl) (ws_tape_1 G (up x 14 (x 13 1).toNatClampNeg a1) m _) dX1_append_29 (fun H locs hw => ?_)
    replace h := Option.some.inj h
    subst h
    exact w_vret C hw rfl dX1_append_32

def f1_clear   (x : St) : St :=
  (up x 13 1 (0 : Int32))
set_option maxHeartbeats 4000000 in
set_option maxRecDepth 100000 in
theorem c1_clear (l : Launch) (G : GT)  (x m : St)  (r : St) (h : f1_clear x = r) : Mt l yX1_clear cX1_clear 1 none (rmF 0 0) G x m [.ref (gq G 13)] none r m := by
  refine Mt.of (by decide) (Nat.le_of_ble_eq_true rfl) ?_
  intro p e s mm args below meth c C ls hl hw
  have hx := C.1
  have hb := C.2.1
  have hown := C.2.2.2.2.1
  replace hl : lv_has ls 1 [(0, .ref (gq G 13))] := hl
  unfold f1_clear at h
  refine lv_aload_n hx hb dX1_clear_0 rfl (lv_at hl 0 rfl) ?_
  refine lv_iconst (v := (0 : Int32)) hx hb dX1_clear_1 (by decide) ?_
  refine w_put C hw (k := 1) tyX1 tyX1_ok nmX1 (wk_tape G x m) rfl it_1 (by decide) fl_X1_15 rfl (ty := .int) rfl rfl rfl (Nat.le_of_ble_eq_true rfl) (ws_tape_1 G x m _) dX1_clear_2 (fun H locs hw => ?_)
  subst h
  exact w_vret C hw rfl dX1_clear_5

def f3_isWithin  (a1 : Int32) (a2 : Int32) (a3 : Int32) : Int32 :=
  if a1 < a2 then
    (0 : Int32)
  else
    if a3 < a1 then
      (0 : Int32)
    else
      (1 : Int32)
theorem bz_X3_isWithin  (a1 : Int32) (a2 : Int32) (a3 : Int32) : f3_isWithin a1 a2 a3 = 0 ∨ f3_isWithin a1 a2 a3 = 1 := by
  unfold f3_isWithin
  repeat' split
  all_goals first | exact Or.inl rfl | exact Or.inr rfl
set_option maxHeartbeats 4000000 in
set_option maxRecDepth 100000 in
theorem c3_isWithin (l : Launch) (G : GT)  (x m : St) (a1 : Int32) (a2 : Int32) (a3 : Int32) (r : Int32) (h : f3_isWithin a1 a2 a3 = r) : Mt l yX3_isWithin cX3_isWithin 3 (some .boolean) (rmF 0 0) G x m [.int a1, .int a2, .int a3] (some (.int r)) x m := by
  refine Mt.of (by decide) (Nat.le_of_ble_eq_true rfl) ?_
  intro p e s mm args below meth c C ls hl hw
  have hx := C.1
  have hb := C.2.1
  have hown := C.2.2.2.2.1
  replace hl : lv_has ls 3 [(0, .int a1), (1, .int a2), (2, .int a3)] := hl
  unfold f3_isWithin at h
  refine lv_iload_n hx hb dX3_isWithin_0 rfl (lv_at hl 0 rfl) ?_
  refine lv_iload_n hx hb dX3_isWithin_1 rfl (lv_at hl 1 rfl) ?_
  refine lv_icmp_lt (tgt := 14) hx hb dX3_isWithin_2 (by decide) (fun hc => ?_) (fun hc => ?_)
  · replace h := p_t hc h
    refine lv_iconst (v := (0 : Int32)) hx hb dX3_isWithin_14 (by decide) ?_
    subst h
    exact w_iret C hw (v := (0 : Int32)) rfl rfl dX3_isWithin_15
  · replace h := p_f hc h
    refine lv_iload_n hx hb dX3_isWithin_5 rfl (lv_at hl 0 rfl) ?_
    refine lv_iload_n hx hb dX3_isWithin_6 rfl (lv_at hl 2 rfl) ?_
    refine lv_icmp_gt (tgt := 14) hx hb dX3_isWithin_7 (by decide) (fun hc => ?_) (fun hc => ?_)
    · replace h := p_t hc h
      refine lv_iconst (v := (0 : Int32)) hx hb dX3_isWithin_14 (by decide) ?_
      subst h
      exact w_iret C hw (v := (0 : Int32)) rfl rfl dX3_isWithin_15
    · replace h := p_f hc h
      refine lv_iconst (v := (1 : Int32)) hx hb dX3_isWithin_10 (by decide) ?_
      refine lv_goto (tgt := 15) hx hb dX3_isWithin_11 (by decide) ?_
      subst h
      exact w_iret C hw (v := (1 : Int32)) rfl rfl dX3_isWithin_15

def f1_isNumber  (a1 : Int32) (a2 : Int32) (x : St) : Int32 :=
  if (x 13 2) = (2 : Int32) then
    if (f3_isWithin (x 13 5) a1 a2) = 0 then
      (0 : Int32)
    else
      (1 : Int32)
  else
    (0 : Int32)
theorem bz_X1_isNumber  (a1 : Int32) (a2 : Int32) (x : St) : f1_isNumber a1 a2 x = 0 ∨ f1_isNumber a1 a2 x = 1 := by
  unfold f1_isNumber
  repeat' split
  all_goals first | exact Or.inl rfl | exact Or.inr rfl | exact bz_X3_isWithin _ _ _ 
set_option maxHeartbeats 4000000 in
set_option maxRecDepth 100000 in
theorem c1_isNumber (l : Launch) (G : GT)  (x m : St) (a1 : Int32) (a2 : Int32) (r : Int32) (h : f1_isNumber a1 a2 x = r) : Mt l yX1_isNumber cX1_isNumber 3 (some .boolean) (rmF 1 22) G x m [.ref (gq G 13), .int a1, .int a2] (some (.int r)) x m := by
  refine Mt.of (by decide) (Nat.le_of_ble_eq_true rfl) ?_
  intro p e s mm args below meth c C ls hl hw
  have hx := C.1
  have hb := C.2.1
  have hown := C.2.2.2.2.1
  replace hl : lv_has ls 3 [(0, .ref (gq G 13)), (1, .int a1), (2, .int a2)] := hl
  unfold f1_isNumber at h
  refine lv_aload_n hx hb dX1_isNumber_0 rfl (lv_at hl 0 rfl) ?_
  refine w_get C hw (v := .int (x 13 2)) (k := 2) (wk_tape G x m) rfl it_1 (by decide) fl_X1_29 rfl dX1_isNumber_1 ?_
  refine lv_iconst (v := (2 : Int32)) hx hb dX1_isNumber_4 (by decide) ?_
  refine lv_icmp_ne (tgt := 24) hx hb dX1_isNumber_5 (by decide) (fun hc => ?_) (fun hc => ?_)
  · replace h := p_f hc h
    refine lv_iconst (v := (0 : Int32)) hx hb dX1_isNumber_24 (by decide) ?_
    subst h
    exact w_iret C hw (v := (0 : Int32)) rfl rfl dX1_isNumber_25
  · replace h := p_t hc h
    refine lv_aload_n hx hb dX1_isNumber_8 rfl (lv_at hl 0 rfl) ?_
    refine w_get C hw (v := .int (x 13 5)) (k := 5) (wk_tape G x m) rfl it_1 (by decide) fl_X1_59 rfl dX1_isNumber_9 ?_
    refine lv_iload_n hx hb dX1_isNumber_12 rfl (lv_at hl 1 rfl) ?_
    refine lv_iload_n hx hb dX1_isNumber_13 rfl (lv_at hl 2 rfl) ?_
    refine w_SNi C hw (As := [.int (x 13 5), .int a1, .int a2]) (rest := []) (c3_isWithin l G x m (x 13 5) a1 a2 _ rfl) ks_X3_isWithin (List.mem_of_getElem? (i := 4) rfl) ⟨rfl, rfl⟩ ⟨Nat.le_of_ble_eq_true rfl, Nat.le_of_ble_eq_true rfl⟩ ⟨Nat.zero_le _, Nat.zero_le _⟩ rfl rfl (Nat.le_of_ble_eq_true rfl) (lv_sub hl [] rfl) dX1_isNumber_14 (fun H locs hw => ?_)
    refine lv_if_eq (tgt := 24) hx hb dX1_isNumber_17 (by decide) (fun hc => ?_) (fun hc => ?_)
    · replace h := p_t hc h
      refine lv_iconst (v := (0 : Int32)) hx hb dX1_isNumber_24 (by decide) ?_
      subst h
      exact w_iret C hw (v := (0 : Int32)) rfl rfl dX1_isNumber_25
    · replace h := p_f hc h
      refine lv_iconst (v := (1 : Int32)) hx hb dX1_isNumber_20 (by decide) ?_
      refine lv_goto (tgt := 25) hx hb dX1_isNumber_21 (by decide) ?_
      subst h
      exact w_iret C hw (v := (1 : Int32)) rfl rfl dX1_isNumber_25

def f1_byteAt  (a1 : Int32) (x : St) : Option (Int32) :=
  if a1 < 0 then
    some (-1 : Int32)
  else
    if (x 13 1) ≤ a1 then
      some (-1 : Int32)
    else
      if (120 : Int32) ≤ a1 then
        some (-1 : Int32)
      else
        if a1 < 0 ∨ 120 ≤ a1.toNatClampNeg then none else
        some (x 14 a1.toNatClampNeg)
set_option maxHeartbeats 4000000 in
set_option maxRecDepth 100000 in
theorem c1_byteAt (l : Launch) (G : GT)  (x m : St) (a1 : Int32) (r : Int32) (h : f1_byteAt a1 x = some r) : Mt l yX1_byteAt cX1_byteAt 2 (some .int) (rmF 0 0) G x m [.ref (gq G 13), .int a1] (some (.int r)) x m := by
  refine Mt.of (by decide) (Nat.le_of_ble_eq_true rfl) ?_
  intro p e s mm args below meth c C ls hl hw
  have hx := C.1
  have hb := C.2.1
  have hown := C.2.2.2.2.1
  replace hl : lv_has ls 2 [(0, .ref (gq G 13)), (1, .int a1)] := hl
  unfold f1_byteAt at h
  refine lv_iload_n hx hb dX1_byteAt_0 rfl (lv_at hl 1 rfl) ?_
  refine lv_if_lt (tgt := 30) hx hb dX1_byteAt_1 (by decide) (fun hc => ?_) (fun hc => ?_)
  · replace h := p_t hc h
    refine lv_iconst (v := (-1 : Int32)) hx hb dX1_byteAt_30 (by decide) ?_
    replace h := Option.some.inj h
    subst h
    exact w_iret C hw (v := (-1 : Int32)) rfl rfl dX1_byteAt_31
  · replace h := p_f hc h
    refine lv_iload_n hx hb dX1_byteAt_4 rfl (lv_at hl 1 rfl) ?_
    refine lv_aload_n hx hb dX1_byteAt_5 rfl (lv_at hl 0 rfl) ?_
    refine w_get C hw (v := .int (x 13 1)) (k := 1) (wk_tape G x m) rfl it_1 (by decide) fl_X1_15 rfl dX1_byteAt_6 ?_
    refine lv_icmp_ge (tgt := 30) hx hb dX1_byteAt_9 (by decide) (fun hc => ?_) (fun hc => ?_)
    · replace h := p_t hc h
      refine lv_iconst (v := (-1 : Int32)) hx hb dX1_byteAt_30 (by decide) ?_
      replace h := Option.some.inj h
      subst h
      exact w_iret C hw (v := (-1 : Int32)) rfl rfl dX1_byteAt_31
    · replace h := p_f hc h
      refine lv_iload_n hx hb dX1_byteAt_12 rfl (lv_at hl 1 rfl) ?_
      refine lv_aload_n hx hb dX1_byteAt_13 rfl (lv_at hl 0 rfl) ?_
      refine w_get C hw (v := .ref (gq G 14)) (k := 0) (wk_tape G x m) rfl it_1 (by decide) fl_X1_9 rfl dX1_byteAt_14 ?_
      refine w_alen C hw (v := (120 : Int32)) (ax_14 G x m).1 rfl dX1_byteAt_17 ?_
      refine lv_icmp_ge (tgt := 30) hx hb dX1_byteAt_18 (by decide) (fun hc => ?_) (fun hc => ?_)
      · replace h := p_t hc h
        refine lv_iconst (v := (-1 : Int32)) hx hb dX1_byteAt_30 (by decide) ?_
        replace h := Option.some.inj h
        subst h
        exact w_iret C hw (v := (-1 : Int32)) rfl rfl dX1_byteAt_31
      · replace h := p_f hc h
        refine lv_aload_n hx hb dX1_byteAt_21 rfl (lv_at hl 0 rfl) ?_
        refine w_get C hw (v := .ref (gq G 14)) (k := 0) (wk_tape G x m) rfl it_1 (by decide) fl_X1_9 rfl dX1_byteAt_22 ?_
        refine lv_iload_n hx hb dX1_byteAt_25 rfl (lv_at hl 1 rfl) ?_
        obtain ⟨hq, h⟩ := p_if h
        refine w_ald C hw (ax_14 G x m).1 hq dX1_byteAt_26 ?_
        refine lv_goto (tgt := 31) hx hb dX1_byteAt_27 (by decide) ?_
        replace h := Option.some.inj h
        subst h
        exact w_iret C hw (v := (x 14 a1.toNatClampNeg)) rfl rfl dX1_byteAt_31

def f1_isWord_L28 (i1 : Nat)  : Nat → Int32 → St → Option (Int32)
  | 0, _, _ => none
  | n + 1, b2, x =>
    if (Int32.ofNat (sLen.getD i1 0)) ≤ b2 then
      some (1 : Int32)
    else
      (f1_byteAt ((x 13 3) + b2) x).bind fun v1 =>
      if b2 < 0 ∨ sLen.getD i1 0 ≤ b2.toNatClampNeg then none else
      if v1 = (sch i1 b2) then
        (f1_isWord_L28 i1 n) (b2 + (1 : Int32)) x
      else
        some (0 : Int32)
theorem f1_isWord_L28_0 (i1 : Nat)  (b2 : Int32) (x : St) : f1_isWord_L28 i1 0 b2 x = none := rfl
theorem f1_isWord_L28_s (i1 : Nat)  (n : Nat) (b2 : Int32) (x : St) : f1_isWord_L28 i1 (n + 1) b2 x =
    if (Int32.ofNat (sLen.getD i1 0)) ≤ b2 then
      some (1 : Int32)
    else
      (f1_byteAt ((x 13 3) + b2) x).bind fun v1 =>
      if b2 < 0 ∨ sLen.getD i1 0 ≤ b2.toNatClampNeg then none else
      if v1 = (sch i1 b2) then
        (f1_isWord_L28 i1 n) (b2 + (1 : Int32)) x
      else
        some (0 : Int32) := rfl
def f1_isWord (i1 : Nat)  (x : St) : Option (Int32) :=
  if (x 13 2) = (1 : Int32) then
    if ((x 13 4) - (x 13 3)) = (Int32.ofNat (sLen.getD i1 0)) then
      f1_isWord_L28 i1 fu (0 : Int32) x
    else
      some (0 : Int32)
  else
    some (0 : Int32)
set_option maxHeartbeats 4000000 in
set_option maxRecDepth 100000 in
theorem c1_isWord (l : Launch) (G : GT) (i1 : Nat) (hi1 : i1 < 18) (x m : St)  (r : Int32) (h : f1_isWord i1 x = some r) : Mt l yX1_isWord cX1_isWord 3 (some .boolean) (rmF 4 85) G x m [.ref (gq G 13), .ref (gK G i1)] (some (.int r)) x m := by
  refine Mt.of (by decide) (Nat.le_of_ble_eq_true rfl) ?_
  intro p e s mm args below meth c C ls hl hw
  have hx := C.1
  have hb := C.2.1
  have hown := C.2.2.2.2.1
  replace hl : lv_has ls 3 [(0, .ref (gq G 13)), (1, .ref (gK G i1))] := hl
  have L28 : ∀ (n28 : Nat) (b2 : Int32) (H : Heap) (locs : List Loc) (ls : Array Slot), lv_has ls 3 [(0, .ref (gq G 13)), (1, .ref (gK G i1)), (2, .int b2)] → Wd G s x m H locs → f1_isWord_L28 i1 n28 b2 x = some r → W p l e (rmF 4 85) s mm args below meth c H locs 0 0 (QE below G (some (.int r)) x m args s) (F0 mm 28 ls []) := by
    intro n28
    induction n28 with
    | zero =>
      intro b2  H locs ls hl hw h
      rw [f1_isWord_L28_0] at h
      exact absurd h.symm (Option.some_ne_none _)
    | succ n28 ih28 =>
      intro b2  H locs ls hl hw h
      rw [f1_isWord_L28_s] at h
      refine lv_iload_n hx hb dX1_isWord_28 rfl (lv_at hl 2 rfl) ?_
      refine lv_aload_n hx hb dX1_isWord_29 rfl (lv_at hl 1 rfl) ?_
      refine w_Vi C hw (As := []) (rest := [.int b2]) (cS_length l G i1 hi1 x m) kv_J0_length_8abf5 ml_X1_116 ⟨rfl, rfl⟩ ⟨Nat.le_of_ble_eq_true rfl, Nat.le_of_ble_eq_true rfl⟩ ⟨Nat.zero_le _, Nat.zero_le _⟩ (w_srecv C hw hi1) rfl rfl (Nat.le_of_ble_eq_true rfl) (lv_sub hl [] rfl) dX1_isWord_30 (fun H locs hw => ?_)
      refine lv_icmp_ge (tgt := 62) hx hb dX1_isWord_33 (by decide) (fun hc => ?_) (fun hc => ?_)
      · replace h := p_t hc h
        refine lv_iconst (v := (1 : Int32)) hx hb dX1_isWord_62 (by decide) ?_
        replace h := Option.some.inj h
        subst h
        exact w_iret C hw (v := (1 : Int32)) rfl rfl dX1_isWord_63
      · replace h := p_f hc h
        refine lv_aload_n hx hb dX1_isWord_36 rfl (lv_at hl 0 rfl) ?_
        refine lv_aload_n hx hb dX1_isWord_37 rfl (lv_at hl 0 rfl) ?_
        refine w_get C hw (v := .int (x 13 3)) (k := 3) (wk_tape G x m) rfl it_1 (by decide) fl_X1_32 rfl dX1_isWord_38 ?_
        refine lv_iload_n hx hb dX1_isWord_41 rfl (lv_at hl 2 rfl) ?_
        refine lv_iadd hx hb dX1_isWord_42 ?_
        obtain ⟨v1, hq, h⟩ := p_bd h
        refine w_Vi C hw (As := [.int ((x 13 3) + b2)]) (rest := []) (c1_byteAt l G x m ((x 13 3) + b2) v1 hq) kv_X1_byteAt ml_X1_121 ⟨rfl, rfl⟩ ⟨Nat.le_of_ble_eq_true rfl, Nat.le_of_ble_eq_true rfl⟩ ⟨Nat.zero_le _, Nat.zero_le _⟩ (w_recv C hw (wk_tape G x m) rfl) rfl rfl (Nat.le_of_ble_eq_true rfl) (lv_sub hl [] rfl) dX1_isWord_43 (fun H locs hw => ?_)
        refine lv_aload_n hx hb dX1_isWord_46 rfl (lv_at hl 1 rfl) ?_
        refine lv_iload_n hx hb dX1_isWord_47 rfl (lv_at hl 2 rfl) ?_
        obtain ⟨hq, h⟩ := p_if h
        refine w_Vi C hw (As := [.int b2]) (rest := [.int v1]) (cS_charAt l G i1 hi1 x m b2 hq) kv_J0_charAt_5068e ml_X1_125 ⟨rfl, rfl⟩ ⟨Nat.le_of_ble_eq_true rfl, Nat.le_of_ble_eq_true rfl⟩ ⟨Nat.zero_le _, Nat.zero_le _⟩ (w_srecv C hw hi1) rfl rfl (Nat.le_of_ble_eq_true rfl) (lv_sub hl [] rfl) dX1_isWord_48 (fun H locs hw => ?_)
        refine lv_icmp_eq (tgt := 56) hx hb dX1_isWord_51 (by decide) (fun hc => ?_) (fun hc => ?_)
        · replace h := p_t hc h
          refine lv_iinc (v := (b2 + (1 : Int32))) (lv' := [(2, .int (b2 + (1 : Int32))), (0, .ref (gq G 13)), (1, .ref (gK G i1))]) hx hb dX1_isWord_56 hl (k := 2) rfl rfl (by decide) rfl (fun ls hl => ?_)
          refine lv_goto (tgt := 28) hx hb dX1_isWord_59 (by decide) ?_
          exact ih28 (b2 + (1 : Int32)) _ _ _ (lv_sub hl [1, 2, 0] rfl) hw h
        · replace h := p_f hc h
          refine lv_iconst (v := (0 : Int32)) hx hb dX1_isWord_54 (by decide) ?_
          replace h := Option.some.inj h
          subst h
          exact w_iret C hw (v := (0 : Int32)) rfl rfl dX1_isWord_55
  unfold f1_isWord at h
  refine lv_aload_n hx hb dX1_isWord_0 rfl (lv_at hl 0 rfl) ?_
  refine w_get C hw (v := .int (x 13 2)) (k := 2) (wk_tape G x m) rfl it_1 (by decide) fl_X1_29 rfl dX1_isWord_1 ?_
  refine lv_iconst (v := (1 : Int32)) hx hb dX1_isWord_4 (by decide) ?_
  refine lv_icmp_ne (tgt := 24) hx hb dX1_isWord_5 (by decide) (fun hc => ?_) (fun hc => ?_)
  · replace h := p_f hc h
    refine lv_iconst (v := (0 : Int32)) hx hb dX1_isWord_24 (by decide) ?_
    replace h := Option.some.inj h
    subst h
    exact w_iret C hw (v := (0 : Int32)) rfl rfl dX1_isWord_25
  · replace h := p_t hc h
    refine lv_aload_n hx hb dX1_isWord_8 rfl (lv_at hl 0 rfl) ?_
    refine w_get C hw (v := .int (x 13 4)) (k := 4) (wk_tape G x m) rfl it_1 (by decide) fl_X1_19 rfl dX1_isWord_9 ?_
    refine lv_aload_n hx hb dX1_isWord_12 rfl (lv_at hl 0 rfl) ?_
    refine w_get C hw (v := .int (x 13 3)) (k := 3) (wk_tape G x m) rfl it_1 (by decide) fl_X1_32 rfl dX1_isWord_13 ?_
    refine lv_isub hx hb dX1_isWord_16 ?_
    refine lv_aload_n hx hb dX1_isWord_17 rfl (lv_at hl 1 rfl) ?_
    refine w_Vi C hw (As := []) (rest := [.int ((x 13 4) - (x 13 3))]) (cS_length l G i1 hi1 x m) kv_J0_length_8abf5 ml_X1_116 ⟨rfl, rfl⟩ ⟨Nat.le_of_ble_eq_true rfl, Nat.le_of_ble_eq_true rfl⟩ ⟨Nat.zero_le _, Nat.zero_le _⟩ (w_srecv C hw hi1) rfl rfl (Nat.le_of_ble_eq_true rfl) (lv_sub hl [] rfl) dX1_isWord_18 (fun H locs hw => ?_)
    refine lv_icmp_eq (tgt := 26) hx hb dX1_isWord_21 (by decide) (fun hc => ?_) (fun hc => ?_)
    · replace h := p_t hc h
      refine lv_iconst (v := (0 : Int32)) hx hb dX1_isWord_26 (by decide) ?_
      refine lv_istore_n (lv' := [(2, .int (0 : Int32)), (0, .ref (gq G 13)), (1, .ref (gK G i1))]) hx hb dX1_isWord_27 rfl hl (by decide) rfl (fun ls hl => ?_)
      exact L28 fu (0 : Int32) _ _ _ (lv_sub hl [1, 2, 0] rfl) hw h
    · replace h := p_f hc h
      refine lv_iconst (v := (0 : Int32)) hx hb dX1_isWord_24 (by decide) ?_
      replace h := Option.some.inj h
      subst h
      exact w_iret C hw (v := (0 : Int32)) rfl rfl dX1_isWord_25

def f1_kindName  (a1 : Int32) : Nat :=
  if a1 = (1 : Int32) then
    1
  else
  if a1 = (2 : Int32) then
    2
  else
  if a1 = (3 : Int32) then
    3
  else
  if a1 = (4 : Int32) then
    4
  else
  if a1 = (5 : Int32) then
    5
  else
  if a1 = (6 : Int32) then
    6
  else
    0
theorem hs_X1_kindName (a1 : Int32) : f1_kindName a1 < 18 := by
  unfold f1_kindName
  repeat' split
  all_goals decide
set_option maxHeartbeats 4000000 in
set_option maxRecDepth 100000 in
theorem c1_kindName (l : Launch) (G : GT)  (x m : St) (a1 : Int32) (r : Nat) (h : f1_kindName a1 = r) : Mt l yX1_kindName cX1_kindName 1 (some (.object "java/lang/String")) (rmF 0 0) G x m [.int a1] (some (.ref (gK G r))) x m := by
  refine Mt.of (by decide) (Nat.le_of_ble_eq_true rfl) ?_
  intro p e s mm args below meth c C ls hl hw
  have hx := C.1
  have hb := C.2.1
  have hown := C.2.2.2.2.1
  replace hl : lv_has ls 1 [(0, .int a1)] := hl
  unfold f1_kindName at h
  refine lv_iload_n hx hb dX1_kindName_0 rfl (lv_at hl 0 rfl) ?_
  by_cases hc0 : a1 = (1 : Int32)
  · replace h := p_t hc0 h
    refine lv_tableIn (tgt := 40) hx hb dX1_kindName_1 (by rw [hc0]; decide) (by rw [hc0]; decide) (by rw [hc0]; rfl) (by decide) ?_
    refine w_ldcS C (i := 1) (List.mem_of_getElem? (i := 0) rfl) dX1_kindName_40 ?_
    subst h
    exact w_aret C hw rfl (Or.inl ⟨_, rfl⟩) (Or.inr ⟨_, rfl⟩) dX1_kindName_42
  · replace h := p_f hc0 h
    by_cases hc1 : a1 = (2 : Int32)
    · replace h := p_t hc1 h
      refine lv_tableIn (tgt := 43) hx hb dX1_kindName_1 (by rw [hc1]; decide) (by rw [hc1]; decide) (by rw [hc1]; rfl) (by decide) ?_
      refine w_ldcS C (i := 2) (List.mem_of_getElem? (i := 1) rfl) dX1_kindName_43 ?_
      subst h
      exact w_aret C hw rfl (Or.inl ⟨_, rfl⟩) (Or.inr ⟨_, rfl⟩) dX1_kindName_45
    · replace h := p_f hc1 h
      by_cases hc2 : a1 = (3 : Int32)
      · replace h := p_t hc2 h
        refine lv_tableIn (tgt := 46) hx hb dX1_kindName_1 (by rw [hc2]; decide) (by rw [hc2]; decide) (by rw [hc2]; rfl) (by decide) ?_
        refine w_ldcS C (i := 3) (List.mem_of_getElem? (i := 2) rfl) dX1_kindName_46 ?_
        subst h
        exact w_aret C hw rfl (Or.inl ⟨_, rfl⟩) (Or.inr ⟨_, rfl⟩) dX1_kindName_48
      · replace h := p_f hc2 h
        by_cases hc3 : a1 = (4 : Int32)
        · replace h := p_t hc3 h
          refine lv_tableIn (tgt := 49) hx hb dX1_kindName_1 (by rw [hc3]; decide) (by rw [hc3]; decide) (by rw [hc3]; rfl) (by decide) ?_
          refine w_ldcS C (i := 4) (List.mem_of_getElem? (i := 3) rfl) dX1_kindName_49 ?_
          subst h
          exact w_aret C hw rfl (Or.inl ⟨_, rfl⟩) (Or.inr ⟨_, rfl⟩) dX1_kindName_51
        · replace h := p_f hc3 h
          by_cases hc4 : a1 = (5 : Int32)
          · replace h := p_t hc4 h
            refine lv_tableIn (tgt := 52) hx hb dX1_kindName_1 (by rw [hc4]; decide) (by rw [hc4]; decide) (by rw [hc4]; rfl) (by decide) ?_
            refine w_ldcS C (i := 5) (List.mem_of_getElem? (i := 4) rfl) dX1_kindName_52 ?_
            subst h
            exact w_aret C hw rfl (Or.inl ⟨_, rfl⟩) (Or.inr ⟨_, rfl⟩) dX1_kindName_54
          · replace h := p_f hc4 h
            by_cases hc5 : a1 = (6 : Int32)
            · replace h := p_t hc5 h
              refine lv_tableIn (tgt := 55) hx hb dX1_kindName_1 (by rw [hc5]; decide) (by rw [hc5]; decide) (by rw [hc5]; rfl) (by decide) ?_
              refine w_ldcS C (i := 6) (List.mem_of_getElem? (i := 5) rfl) dX1_kindName_55 ?_
              subst h
              exact w_aret C hw rfl (Or.inl ⟨_, rfl⟩) (Or.inr ⟨_, rfl⟩) dX1_kindName_57
            · replace h := p_f hc5 h
              refine lv_tableOut (tgt := 58) hx hb dX1_kindName_1 (by have q0 : ¬ a1.toInt = 1 := lv_neT hc0 rfl; have q1 : ¬ a1.toInt = 2 := lv_neT hc1 rfl; have q2 : ¬ a1.toInt = 3 := lv_neT hc2 rfl; have q3 : ¬ a1.toInt = 4 := lv_neT hc3 rfl; have q4 : ¬ a1.toInt = 5 := lv_neT hc4 rfl; have q5 : ¬ a1.toInt = 6 := lv_neT hc5 rfl; omega) (by decide) ?_
              refine w_ldcS C (i := 0) (List.mem_of_getElem? (i := 6) rfl) dX1_kindName_58 ?_
              subst h
              exact w_aret C hw rfl (Or.inl ⟨_, rfl⟩) (Or.inr ⟨_, rfl⟩) dX1_kindName_60

def f1_sortOf_b34   (b0 : Int32) : Int32 :=
  if b0 = (59 : Int32) then
    (3 : Int32)
  else
    (4 : Int32)
def f1_sortOf_b20   (b0 : Int32) : Int32 :=
  if b0 < (48 : Int32) then
    f1_sortOf_b34 b0
  else
    if (57 : Int32) < b0 then
      f1_sortOf_b34 b0
    else
      (2 : Int32)
def f1_sortOf  (a1 : Int32) : Int32 :=
  if 0 ≤ a1 then
    if a1 < (97 : Int32) then
      f1_sortOf_b20 a1
    else
      if (122 : Int32) < a1 then
        f1_sortOf_b20 a1
      else
        (1 : Int32)
  else
    (0 : Int32)
set_option maxHeartbeats 4000000 in
set_option maxRecDepth 100000 in
theorem c1_sortOf (l : Launch) (G : GT)  (x m : St) (a1 : Int32) (r : Int32) (h : f1_sortOf a1 = r) : Mt l yX1_sortOf cX1_sortOf 1 (some .int) (rmF 0 0) G x m [.int a1] (some (.int r)) x m := by
  refine Mt.of (by decide) (Nat.le_of_ble_eq_true rfl) ?_
  intro p e s mm args below meth c C ls hl hw
  have hx := C.1
  have hb := C.2.1
  have hown := C.2.2.2.2.1
  replace hl : lv_has ls 1 [(0, .int a1)] := hl
  have B34 : ∀ (b0 : Int32) (H : Heap) (locs : List Loc) (ls : Array Slot), lv_has ls 1 [(0, .int b0)] → Wd G s x m H locs → f1_sortOf_b34 b0 = r → W p l e (rmF 0 0) s mm args below meth c H locs 0 0 (QE below G (some (.int r)) x m args s) (F0 mm 34 ls []) := by
    intro b0  H locs ls hl hw h
    unfold f1_sortOf_b34 at h
    refine lv_iload_n hx hb dX1_sortOf_34 rfl (lv_at hl 0 rfl) ?_
    refine lv_bipush (v := (59 : Int32)) hx hb dX1_sortOf_35 (by decide) ?_
    refine lv_icmp_ne (tgt := 44) hx hb dX1_sortOf_37 (by decide) (fun hc => ?_) (fun hc => ?_)
    · replace h := p_f hc h
      refine lv_iconst (v := (4 : Int32)) hx hb dX1_sortOf_44 (by decide) ?_
      subst h
      exact w_iret C hw (v := (4 : Int32)) rfl rfl dX1_sortOf_45
    · replace h := p_t hc h
      refine lv_iconst (v := (3 : Int32)) hx hb dX1_sortOf_40 (by decide) ?_
      refine lv_goto (tgt := 45) hx hb dX1_sortOf_41 (by decide) ?_
      subst h
      exact w_iret C hw (v := (3 : Int32)) rfl rfl dX1_sortOf_45
  have B20 : ∀ (b0 : Int32) (H : Heap) (locs : List Loc) (ls : Array Slot), lv_has ls 1 [(0, .int b0)] → Wd G s x m H locs → f1_sortOf_b20 b0 = r → W p l e (rmF 0 0) s mm args below meth c H locs 0 0 (QE below G (some (.int r)) x m args s) (F0 mm 20 ls []) := by
    intro b0  H locs ls hl hw h
    unfold f1_sortOf_b20 at h
    refine lv_iload_n hx hb dX1_sortOf_20 rfl (lv_at hl 0 rfl) ?_
    refine lv_bipush (v := (48 : Int32)) hx hb dX1_sortOf_21 (by decide) ?_
    refine lv_icmp_lt (tgt := 34) hx hb dX1_sortOf_23 (by decide) (fun hc => ?_) (fun hc => ?_)
    · replace h := p_t hc h
      exact B34 b0 _ _ _ (lv_sub hl [0] rfl) hw h
    · replace h := p_f hc h
      refine lv_iload_n hx hb dX1_sortOf_26 rfl (lv_at hl 0 rfl) ?_
      refine lv_bipush (v := (57 : Int32)) hx hb dX1_sortOf_27 (by decide) ?_
      refine lv_icmp_gt (tgt := 34) hx hb dX1_sortOf_29 (by decide) (fun hc => ?_) (fun hc => ?_)
      · replace h := p_t hc h
        exact B34 b0 _ _ _ (lv_sub hl [0] rfl) hw h
      · replace h := p_f hc h
        refine lv_iconst (v := (2 : Int32)) hx hb dX1_sortOf_32 (by decide) ?_
        subst h
        exact w_iret C hw (v := (2 : Int32)) rfl rfl dX1_sortOf_33
  unfold f1_sortOf at h
  refine lv_iload_n hx hb dX1_sortOf_0 rfl (lv_at hl 0 rfl) ?_
  refine lv_if_ge (tgt := 6) hx hb dX1_sortOf_1 (by decide) (fun hc => ?_) (fun hc => ?_)
  · replace h := p_t hc h
    refine lv_iload_n hx hb dX1_sortOf_6 rfl (lv_at hl 0 rfl) ?_
    refine lv_bipush (v := (97 : Int32)) hx hb dX1_sortOf_7 (by decide) ?_
    refine lv_icmp_lt (tgt := 20) hx hb dX1_sortOf_9 (by decide) (fun hc => ?_) (fun hc => ?_)
    · replace h := p_t hc h
      exact B20 a1 _ _ _ (lv_sub hl [0] rfl) hw h
    · replace h := p_f hc h
      refine lv_iload_n hx hb dX1_sortOf_12 rfl (lv_at hl 0 rfl) ?_
      refine lv_bipush (v := (122 : Int32)) hx hb dX1_sortOf_13 (by decide) ?_
      refine lv_icmp_gt (tgt := 20) hx hb dX1_sortOf_15 (by decide) (fun hc => ?_) (fun hc => ?_)
      · replace h := p_t hc h
        exact B20 a1 _ _ _ (lv_sub hl [0] rfl) hw h
      · replace h := p_f hc h
        refine lv_iconst (v := (1 : Int32)) hx hb dX1_sortOf_18 (by decide) ?_
        subst h
        exact w_iret C hw (v := (1 : Int32)) rfl rfl dX1_sortOf_19
  · replace h := p_f hc h
    refine lv_iconst (v := (0 : Int32)) hx hb dX1_sortOf_4 (by decide) ?_
    subst h
    exact w_iret C hw (v := (0 : Int32)) rfl rfl dX1_sortOf_5

def f1_step_b168  (k109 : Int32 → Int32 → St → Option (St)) (b1 : Int32) (b2 : Int32) (x : St) : Option (St) :=
  k109 b1 (b2 + (1 : Int32)) (up x 13 4 ((x 13 4) + (1 : Int32)))
def f1_step_L109   : Nat → Int32 → Int32 → St → Option (St)
  | 0, _, _, _ => none
  | n + 1, b1, b2, x =>
    if b1 ≤ b2 then
      some x
    else
      (f1_byteAt (x 13 4) x).bind fun v3 =>
      if (f1_sortOf v3) = (x 13 2) then
        if (x 13 2) = (2 : Int32) then
          (f1_byteAt (x 13 4) x).bind fun v4 =>
          f1_step_b168 (f1_step_L109 n) b1 b2 (up x 13 5 (if (100000 : Int32) < ((((10 : Int32) * (x 13 5)) + v4) - (48 : Int32)) then (100000 : Int32) else ((((10 : Int32) * (x 13 5)) + v4) - (48 : Int32))))
        else
          f1_step_b168 (f1_step_L109 n) b1 b2 x
      else
        some x
theorem f1_step_L109_0   (b1 : Int32) (b2 : Int32) (x : St) : f1_step_L109  0 b1 b2 x = none := rfl
theorem f1_step_L109_s   (n : Nat) (b1 : Int32) (b2 : Int32) (x : St) : f1_step_L109  (n + 1) b1 b2 x =
    if b1 ≤ b2 then
      some x
    else
      (f1_byteAt (x 13 4) x).bind fun v3 =>
      if (f1_sortOf v3) = (x 13 2) then
        if (x 13 2) = (2 : Int32) then
          (f1_byteAt (x 13 4) x).bind fun v4 =>
          f1_step_b168 (f1_step_L109 n) b1 b2 (up x 13 5 (if (100000 : Int32) < ((((10 : Int32) * (x 13 5)) + v4) - (48 : Int32)) then (100000 : Int32) else ((((10 : Int32) * (x 13 5)) + v4) - (48 : Int32))))
        else
          f1_step_b168 (f1_step_L109 n) b1 b2 x
      else
        some x := rfl
def f1_step_b106   (w0 : Int32) (x : St) : Option (St) :=
  f1_step_L109 fu w0 (0 : Int32) x
def f1_step_b89    (x : St) : Option (St) :=
  f1_step_b106 (120 : Int32) x
def f1_step_b45    (x : St) : Option (St) :=
  (f1_byteAt ((up (up x 13 4 (x 13 3)) 13 5 (0 : Int32)) 13 3) (up (up x 13 4 (x 13 3)) 13 5 (0 : Int32))).bind fun v2 =>
  if ((up (up (up x 13 4 (x 13 3)) 13 5 (0 : Int32)) 13 2 (f1_sortOf v2)) 13 2) = (1 : Int32) then
    f1_step_b89 (up (up (up x 13 4 (x 13 3)) 13 5 (0 : Int32)) 13 2 (f1_sortOf v2))
  else
    if ((up (up (up x 13 4 (x 13 3)) 13 5 (0 : Int32)) 13 2 (f1_sortOf v2)) 13 2) = (2 : Int32) then
      f1_step_b89 (up (up (up x 13 4 (x 13 3)) 13 5 (0 : Int32)) 13 2 (f1_sortOf v2))
    else
      if ((up (up (up x 13 4 (x 13 3)) 13 5 (0 : Int32)) 13 2 (f1_sortOf v2)) 13 2) = 0 then
        f1_step_b106 (0 : Int32) (up (up (up x 13 4 (x 13 3)) 13 5 (0 : Int32)) 13 2 (f1_sortOf v2))
      else
        f1_step_b106 (1 : Int32) (up (up (up x 13 4 (x 13 3)) 13 5 (0 : Int32)) 13 2 (f1_sortOf v2))
def f1_step_L10   : Nat → Int32 → St → Option (St)
  | 0, _, _ => none
  | n + 1, b1, x =>
    if (120 : Int32) ≤ b1 then
      f1_step_b45 x
    else
      (f1_byteAt (x 13 3) x).bind fun v1 =>
      if v1 = (32 : Int32) then
        (f1_step_L10 n) (b1 + (1 : Int32)) (up x 13 3 ((x 13 3) + (1 : Int32)))
      else
        f1_step_b45 x
theorem f1_step_L10_0   (b1 : Int32) (x : St) : f1_step_L10  0 b1 x = none := rfl
theorem f1_step_L10_s   (n : Nat) (b1 : Int32) (x : St) : f1_step_L10  (n + 1) b1 x =
    if (120 : Int32) ≤ b1 then
      f1_step_b45 x
    else
      (f1_byteAt (x 13 3) x).bind fun v1 =>
      if v1 = (32 : Int32) then
        (f1_step_L10 n) (b1 + (1 : Int32)) (up x 13 3 ((x 13 3) + (1 : Int32)))
      else
        f1_step_b45 x := rfl
def f1_step   (x : St) : Option (St) :=
  f1_step_L10 fu (0 : Int32) (up x 13 3 (x 13 4))
set_option maxHeartbeats 4000000 in
set_option maxRecDepth 100000 in
theorem c1_step (l : Launch) (G : GT)  (x m : St)  (r : St) (h : f1_step x = some r) : Mt l yX1_step cX1_step 3 none (rmF 1 21) G x m [.ref (gq G 13)] none r m := by
  refine Mt.of (by decide) (Nat.le_of_ble_eq_true rfl) ?_
  intro p e s mm args below meth c C ls hl hw
  have hx := C.1
  have hb := C.2.1
  have hown := C.2.2.2.2.1
  replace hl : lv_has ls 3 [(0, .ref (gq G 13))] := hl
  have L109 : ∀ (n109 : Nat) (b1 : Int32) (b2 : Int32) (x : St) (H : Heap) (locs : List Loc) (ls : Array Slot), lv_has ls 3 [(0, .ref (gq G 13)), (1, .int b1), (2, .int b2)] → Wd G s x m H locs → f1_step_L109 n109 b1 b2 x = some r → W p l e (rmF 1 21) s mm args below meth c H locs 0 0 (QE below G none r m args s) (F0 mm 109 ls []) := by
    intro n109
    induction n109 with
    | zero =>
      intro b1 b2 x H locs ls hl hw h
      rw [f1_step_L109_0] at h
      exact absurd h.symm (Option.some_ne_none _)
    | succ n109 ih109 =>
      have B168 : ∀ (b1 : Int32) (b2 : Int32) (x : St) (H : Heap) (locs : List Loc) (ls : Array Slot), lv_has ls 3 [(0, .ref (gq G 13)), (1, .int b1), (2, .int b2)] → Wd G s x m H locs → f1_step_b168 (f1_step_L109 n109) b1 b2 x = some r → W p l e (rmF 1 21) s mm args below meth c H locs 0 0 (QE below G none r m args s) (F0 mm 168 ls []) := by
        intro b1 b2 x H locs ls hl hw h
        unfold f1_step_b168 at h
        refine lv_aload_n hx hb dX1_step_168 rfl (lv_at hl 0 rfl) ?_
        refine lv_dup hx hb dX1_step_169 rfl ?_
        refine w_get C hw (v := .int (x 13 4)) (k := 4) (wk_tape G x m) rfl it_1 (by decide) fl_X1_19 rfl dX1_step_170 ?_
        refine lv_iconst (v := (1 : Int32)) hx hb dX1_step_173 (by decide) ?_
        refine lv_iadd hx hb dX1_step_174 ?_
        refine w_put C hw (k := 4) tyX1 tyX1_ok nmX1 (wk_tape G x m) rfl it_1 (by decide) fl_X1_19 rfl (ty := .int) rfl rfl rfl (Nat.le_of_ble_eq_true rfl) (ws_tape_4 G x m _) dX1_step_175 (fun H locs hw => ?_)
        refine lv_iinc (v := (b2 + (1 : Int32))) (lv' := [(2, .int (b2 + (1 : Int32))), (0, .ref (gq G 13)), (1, .int b1)]) hx hb dX1_step_178 hl (k := 2) rfl rfl (by decide) rfl (fun ls hl => ?_)
        refine lv_goto (tgt := 109) hx hb dX1_step_181 (by decide) ?_
        exact ih109 b1 (b2 + (1 : Int32)) (up x 13 4 ((x 13 4) + (1 : Int32))) _ _ _ (lv_sub hl [1, 2, 0] rfl) hw h
      intro b1 b2 x H locs ls hl hw h
      rw [f1_step_L109_s] at h
      refine lv_iload_n hx hb dX1_step_109 rfl (lv_at hl 2 rfl) ?_
      refine lv_iload_n hx hb dX1_step_110 rfl (lv_at hl 1 rfl) ?_
      refine lv_icmp_ge (tgt := 184) hx hb dX1_step_111 (by decide) (fun hc => ?_) (fun hc => ?_)
      · replace h := p_t hc h
        replace h := Option.some.inj h
        subst h
        exact w_vret C hw rfl dX1_step_184
      · replace h := p_f hc h
        refine lv_aload_n hx hb dX1_step_114 rfl (lv_at hl 0 rfl) ?_
        refine lv_aload_n hx hb dX1_step_115 rfl (lv_at hl 0 rfl) ?_
        refine w_get C hw (v := .int (x 13 4)) (k := 4) (wk_tape G x m) rfl it_1 (by decide) fl_X1_19 rfl dX1_step_116 ?_
        obtain ⟨v3, hq, h⟩ := p_bd h
        refine w_Vi C hw (As := [.int (x 13 4)]) (rest := []) (c1_byteAt l G x m (x 13 4) v3 hq) kv_X1_byteAt ml_X1_121 ⟨rfl, rfl⟩ ⟨Nat.le_of_ble_eq_true rfl, Nat.le_of_ble_eq_true rfl⟩ ⟨Nat.zero_le _, Nat.zero_le _⟩ (w_recv C hw (wk_tape G x m) rfl) rfl rfl (Nat.le_of_ble_eq_true rfl) (lv_sub hl [] rfl) dX1_step_119 (fun H locs hw => ?_)
        refine w_Si C hw (As := [.int v3]) (rest := []) (c1_sortOf l G x m v3 _ rfl) ks_X1_sortOf ml_X1_143 ⟨rfl, rfl⟩ ⟨Nat.le_of_ble_eq_true rfl, Nat.le_of_ble_eq_true rfl⟩ ⟨Nat.zero_le _, Nat.zero_le _⟩ rfl rfl (Nat.le_of_ble_eq_true rfl) (lv_sub hl [] rfl) dX1_step_122 (fun H locs hw => ?_)
        refine lv_aload_n hx hb dX1_step_125 rfl (lv_at hl 0 rfl) ?_
        refine w_get C hw (v := .int (x 13 2)) (k := 2) (wk_tape G x m) rfl it_1 (by decide) fl_X1_29 rfl dX1_step_126 ?_
        refine lv_icmp_ne (tgt := 184) hx hb dX1_step_129 (by decide) (fun hc => ?_) (fun hc => ?_)
        · replace h := p_f hc h
          replace h := Option.some.inj h
          subst h
          exact w_vret C hw rfl dX1_step_184
        · replace h := p_t hc h
          refine lv_aload_n hx hb dX1_step_132 rfl (lv_at hl 0 rfl) ?_
          refine w_get C hw (v := .int (x 13 2)) (k := 2) (wk_tape G x m) rfl it_1 (by decide) fl_X1_29 rfl dX1_step_133 ?_
          refine lv_iconst (v := (2 : Int32)) hx hb dX1_step_136 (by decide) ?_
          refine lv_icmp_ne (tgt := 168) hx hb dX1_step_137 (by decide) (fun hc => ?_) (fun hc => ?_)
          · replace h := p_f hc h
            exact B168 b1 b2 x _ _ _ (lv_sub hl [0, 1, 2] rfl) hw h
          · replace h := p_t hc h
            refine lv_aload_n hx hb dX1_step_140 rfl (lv_at hl 0 rfl) ?_
            refine lv_bipush (v := (10 : Int32)) hx hb dX1_step_141 (by decide) ?_
            refine lv_aload_n hx hb dX1_step_143 rfl (lv_at hl 0 rfl) ?_
            refine w_get C hw (v := .int (x 13 5)) (k := 5) (wk_tape G x m) rfl it_1 (by decide) fl_X1_59 rfl dX1_step_144 ?_
            refine lv_imul hx hb dX1_step_147 ?_
            refine lv_aload_n hx hb dX1_step_148 rfl (lv_at hl 0 rfl) ?_
            refine lv_aload_n hx hb dX1_step_149 rfl (lv_at hl 0 rfl) ?_
            refine w_get C hw (v := .int (x 13 4)) (k := 4) (wk_tape G x m) rfl it_1 (by decide) fl_X1_19 rfl dX1_step_150 ?_
            obtain ⟨v4, hq, h⟩ := p_bd h
            refine w_Vi C hw (As := [.int (x 13 4)]) (rest := [.int ((10 : Int32) * (x 13 5)), .ref (gq G 13)]) (c1_byteAt l G x m (x 13 4) v4 hq) kv_X1_byteAt ml_X1_121 ⟨rfl, rfl⟩ ⟨Nat.le_of_ble_eq_true rfl, Nat.le_of_ble_eq_true rfl⟩ ⟨Nat.zero_le _, Nat.zero_le _⟩ (w_recv C hw (wk_tape G x m) rfl) rfl rfl (Nat.le_of_ble_eq_true rfl) (lv_sub hl [] rfl) dX1_step_153 (fun H locs hw => ?_)
            refine lv_iadd hx hb dX1_step_156 ?_
            refine lv_bipush (v := (48 : Int32)) hx hb dX1_step_157 (by decide) ?_
            refine lv_isub hx hb dX1_step_159 ?_
            refine lv_ldc hx hb hown (C.w kc_X1_146) dX1_step_160 ?_
            refine w_min C (lv_sub hl [] rfl) ml_X1_147 k_min ⟨Nat.le_of_ble_eq_true rfl, Nat.le_of_ble_eq_true rfl⟩ ⟨Nat.zero_le _, Nat.zero_le _⟩ (Nat.le_of_ble_eq_true rfl) dX1_step_162 ?_
            refine w_put C hw (k := 5) tyX1 tyX1_ok nmX1 (wk_tape G x m) rfl it_1 (by decide) fl_X1_59 rfl (ty := .int) rfl rfl rfl (Nat.le_of_ble_eq_true rfl) (ws_tape_5 G x m _) dX1_step_165 (fun H locs hw => ?_)
            exact B168 b1 b2 (up x 13 5 (if (100000 : Int32) < ((((10 : Int32) * (x 13 5)) + v4) - (48 : Int32)) then (100000 : Int32) else ((((10 : Int32) * (x 13 5)) + v4) - (48 : Int32)))) _ _ _ (lv_sub hl [0, 1, 2] rfl) hw h
  have B106 : ∀ (w0 : Int32) (x : St) (H : Heap) (locs : List Loc) (ls : Array Slot), lv_has ls 3 [(0, .ref (gq G 13))] → Wd G s x m H locs → f1_step_b106 w0 x = some r → W p l e (rmF 1 21) s mm args below meth c H locs 0 0 (QE below G none r m args s) (F0 mm 106 ls [.int w0]) := by
    intro w0 x H locs ls hl hw h
    unfold f1_step_b106 at h
    refine lv_istore_n (lv' := [(1, .int w0), (0, .ref (gq G 13))]) hx hb dX1_step_106 rfl hl (by decide) rfl (fun ls hl => ?_)
    refine lv_iconst (v := (0 : Int32)) hx hb dX1_step_107 (by decide) ?_
    refine lv_istore_n (lv' := [(2, .int (0 : Int32)), (1, .int w0), (0, .ref (gq G 13))]) hx hb dX1_step_108 rfl hl (by decide) rfl (fun ls hl => ?_)
    exact L109 fu w0 (0 : Int32) x _ _ _ (lv_sub hl [2, 1, 0] rfl) hw h
  have B89 : ∀  (x : St) (H : Heap) (locs : List Loc) (ls : Array Slot), lv_has ls 3 [(0, .ref (gq G 13))] → Wd G s x m H locs → f1_step_b89 x = some r → W p l e (rmF 1 21) s mm args below meth c H locs 0 0 (QE below G none r m args s) (F0 mm 89 ls []) := by
    intro  x H locs ls hl hw h
    unfold f1_step_b89 at h
    refine lv_bipush (v := (120 : Int32)) hx hb dX1_step_89 (by decide) ?_
    refine lv_goto (tgt := 106) hx hb dX1_step_91 (by decide) ?_
    exact B106 (120 : Int32) x _ _ _ (lv_sub hl [0] rfl) hw h
  have B45 : ∀  (x : St) (H : Heap) (locs : List Loc) (ls : Array Slot), lv_has ls 3 [(0, .ref (gq G 13))] → Wd G s x m H locs → f1_step_b45 x = some r → W p l e (rmF 1 21) s mm args below meth c H locs 0 0 (QE below G none r m args s) (F0 mm 45 ls []) := by
    intro  x H locs ls hl hw h
    unfold f1_step_b45 at h
    refine lv_aload_n hx hb dX1_step_45 rfl (lv_at hl 0 rfl) ?_
    refine lv_aload_n hx hb dX1_step_46 rfl (lv_at hl 0 rfl) ?_
    refine w_get C hw (v := .int (x 13 3)) (k := 3) (wk_tape G x m) rfl it_1 (by decide) fl_X1_32 rfl dX1_step_47 ?_
    refine w_put C hw (k := 4) tyX1 tyX1_ok nmX1 (wk_tape G x m) rfl it_1 (by decide) fl_X1_19 rfl (ty := .int) rfl rfl rfl (Nat.le_of_ble_eq_true rfl) (ws_tape_4 G x m _) dX1_step_50 (fun H locs hw => ?_)
    refine lv_aload_n hx hb dX1_step_53 rfl (lv_at hl 0 rfl) ?_
    refine lv_iconst (v := (0 : Int32)) hx hb dX1_step_54 (by decide) ?_
    refine w_put C hw (k := 5) tyX1 tyX1_ok nmX1 (wk_tape G (up x 13 4 (x 13 3)) m) rfl it_1 (by decide) fl_X1_59 rfl (ty := .int) rfl rfl rfl (Nat.le_of_ble_eq_true rfl) (ws_tape_5 G (up x 13 4 (x 13 3)) m _) dX1_step_55 (fun H locs hw => ?_)
    refine lv_aload_n hx hb dX1_step_58 rfl (lv_at hl 0 rfl) ?_
    refine lv_aload_n hx hb dX1_step_59 rfl (lv_at hl 0 rfl) ?_
    refine lv_aload_n hx hb dX1_step_60 rfl (lv_at hl 0 rfl) ?_
    refine w_get C hw (v := .int ((up (up x 13 4 (x 13 3)) 13 5 (0 : Int32)) 13 3)) (k := 3) (wk_tape G (up (up x 13 4 (x 13 3)) 13 5 (0 : Int32)) m) rfl it_1 (by decide) fl_X1_32 rfl dX1_step_61 ?_
    obtain ⟨v2, hq, h⟩ := p_bd h
    refine w_Vi C hw (As := [.int ((up (up x 13 4 (x 13 3)) 13 5 (0 : Int32)) 13 3)]) (rest := [.ref (gq G 13)]) (c1_byteAt l G (up (up x 13 4 (x 13 3)) 13 5 (0 : Int32)) m ((up (up x 13 4 (x 13 3)) 13 5 (0 : Int32)) 13 3) v2 hq) kv_X1_byteAt ml_X1_121 ⟨rfl, rfl⟩ ⟨Nat.le_of_ble_eq_true rfl, Nat.le_of_ble_eq_true rfl⟩ ⟨Nat.zero_le _, Nat.zero_le _⟩ (w_recv C hw (wk_tape G (up (up x 13 4 (x 13 3)) 13 5 (0 : Int32)) m) rfl) rfl rfl (Nat.le_of_ble_eq_true rfl) (lv_sub hl [] rfl) dX1_step_64 (fun H locs hw => ?_)
    refine w_Si C hw (As := [.int v2]) (rest := [.ref (gq G 13)]) (c1_sortOf l G (up (up x 13 4 (x 13 3)) 13 5 (0 : Int32)) m v2 _ rfl) ks_X1_sortOf ml_X1_143 ⟨rfl, rfl⟩ ⟨Nat.le_of_ble_eq_true rfl, Nat.le_of_ble_eq_true rfl⟩ ⟨Nat.zero_le _, Nat.zero_le _⟩ rfl rfl (Nat.le_of_ble_eq_true rfl) (lv_sub hl [] rfl) dX1_step_67 (fun H locs hw => ?_)
    refine w_put C hw (k := 2) tyX1 tyX1_ok nmX1 (wk_tape G (up (up x 13 4 (x 13 3)) 13 5 (0 : Int32)) m) rfl it_1 (by decide) fl_X1_29 rfl (ty := .int) rfl rfl rfl (Nat.le_of_ble_eq_true rfl) (ws_tape_2 G (up (up x 13 4 (x 13 3)) 13 5 (0 : Int32)) m _) dX1_step_70 (fun H locs hw => ?_)
    refine lv_aload_n hx hb dX1_step_73 rfl (lv_at hl 0 rfl) ?_
    refine w_get C hw (v := .int ((up (up (up x 13 4 (x 13 3)) 13 5 (0 : Int32)) 13 2 (f1_sortOf v2)) 13 2)) (k := 2) (wk_tape G (up (up (up x 13 4 (x 13 3)) 13 5 (0 : Int32)) 13 2 (f1_sortOf v2)) m) rfl it_1 (by decide) fl_X1_29 rfl dX1_step_74 ?_
    refine lv_iconst (v := (1 : Int32)) hx hb dX1_step_77 (by decide) ?_
    refine lv_icmp_eq (tgt := 89) hx hb dX1_step_78 (by decide) (fun hc => ?_) (fun hc => ?_)
    · replace h := p_t hc h
      exact B89 (up (up (up x 13 4 (x 13 3)) 13 5 (0 : Int32)) 13 2 (f1_sortOf v2)) _ _ _ (lv_sub hl [0] rfl) hw h
    · replace h := p_f hc h
      refine lv_aload_n hx hb dX1_step_81 rfl (lv_at hl 0 rfl) ?_
      refine w_get C hw (v := .int ((up (up (up x 13 4 (x 13 3)) 13 5 (0 : Int32)) 13 2 (f1_sortOf v2)) 13 2)) (k := 2) (wk_tape G (up (up (up x 13 4 (x 13 3)) 13 5 (0 : Int32)) 13 2 (f1_sortOf v2)) m) rfl it_1 (by decide) fl_X1_29 rfl dX1_step_82 ?_
      refine lv_iconst (v := (2 : Int32)) hx hb dX1_step_85 (by decide) ?_
      refine lv_icmp_ne (tgt := 94) hx hb dX1_step_86 (by decide) (fun hc => ?_) (fun hc => ?_)
      · replace h := p_f hc h
        refine lv_aload_n hx hb dX1_step_94 rfl (lv_at hl 0 rfl) ?_
        refine w_get C hw (v := .int ((up (up (up x 13 4 (x 13 3)) 13 5 (0 : Int32)) 13 2 (f1_sortOf v2)) 13 2)) (k := 2) (wk_tape G (up (up (up x 13 4 (x 13 3)) 13 5 (0 : Int32)) 13 2 (f1_sortOf v2)) m) rfl it_1 (by decide) fl_X1_29 rfl dX1_step_95 ?_
        refine lv_if_ne (tgt := 105) hx hb dX1_step_98 (by decide) (fun hc => ?_) (fun hc => ?_)
        · replace h := p_f hc h
          refine lv_iconst (v := (1 : Int32)) hx hb dX1_step_105 (by decide) ?_
          exact B106 (1 : Int32) (up (up (up x 13 4 (x 13 3)) 13 5 (0 : Int32)) 13 2 (f1_sortOf v2)) _ _ _ (lv_sub hl [0] rfl) hw h
        · replace h := p_t hc h
          refine lv_iconst (v := (0 : Int32)) hx hb dX1_step_101 (by decide) ?_
          refine lv_goto (tgt := 106) hx hb dX1_step_102 (by decide) ?_
          exact B106 (0 : Int32) (up (up (up x 13 4 (x 13 3)) 13 5 (0 : Int32)) 13 2 (f1_sortOf v2)) _ _ _ (lv_sub hl [0] rfl) hw h
      · replace h := p_t hc h
        exact B89 (up (up (up x 13 4 (x 13 3)) 13 5 (0 : Int32)) 13 2 (f1_sortOf v2)) _ _ _ (lv_sub hl [0] rfl) hw h
  have L10 : ∀ (n10 : Nat) (b1 : Int32) (x : St) (H : Heap) (locs : List Loc) (ls : Array Slot), lv_has ls 3 [(0, .ref (gq G 13)), (1, .int b1)] → Wd G s x m H locs → f1_step_L10 n10 b1 x = some r → W p l e (rmF 1 21) s mm args below meth c H locs 0 0 (QE below G none r m args s) (F0 mm 10 ls []) := by
    intro n10
    induction n10 with
    | zero =>
      intro b1 x H locs ls hl hw h
      rw [f1_step_L10_0] at h
      exact absurd h.symm (Option.some_ne_none _)
    | succ n10 ih10 =>
      intro b1 x H locs ls hl hw h
      rw [f1_step_L10_s] at h
      refine lv_iload_n hx hb dX1_step_10 rfl (lv_at hl 1 rfl) ?_
      refine lv_bipush (v := (120 : Int32)) hx hb dX1_step_11 (by decide) ?_
      refine lv_icmp_ge (tgt := 45) hx hb dX1_step_13 (by decide) (fun hc => ?_) (fun hc => ?_)
      · replace h := p_t hc h
        exact B45 x _ _ _ (lv_sub hl [0] rfl) hw h
      · replace h := p_f hc h
        refine lv_aload_n hx hb dX1_step_16 rfl (lv_at hl 0 rfl) ?_
        refine lv_aload_n hx hb dX1_step_17 rfl (lv_at hl 0 rfl) ?_
        refine w_get C hw (v := .int (x 13 3)) (k := 3) (wk_tape G x m) rfl it_1 (by decide) fl_X1_32 rfl dX1_step_18 ?_
        obtain ⟨v1, hq, h⟩ := p_bd h
        refine w_Vi C hw (As := [.int (x 13 3)]) (rest := []) (c1_byteAt l G x m (x 13 3) v1 hq) kv_X1_byteAt ml_X1_121 ⟨rfl, rfl⟩ ⟨Nat.le_of_ble_eq_true rfl, Nat.le_of_ble_eq_true rfl⟩ ⟨Nat.zero_le _, Nat.zero_le _⟩ (w_recv C hw (wk_tape G x m) rfl) rfl rfl (Nat.le_of_ble_eq_true rfl) (lv_sub hl [] rfl) dX1_step_21 (fun H locs hw => ?_)
        refine lv_bipush (v := (32 : Int32)) hx hb dX1_step_24 (by decide) ?_
        refine lv_icmp_ne (tgt := 45) hx hb dX1_step_26 (by decide) (fun hc => ?_) (fun hc => ?_)
        · replace h := p_f hc h
          exact B45 x _ _ _ (lv_sub hl [0] rfl) hw h
        · replace h := p_t hc h
          refine lv_aload_n hx hb dX1_step_29 rfl (lv_at hl 0 rfl) ?_
          refine lv_dup hx hb dX1_step_30 rfl ?_
          refine w_get C hw (v := .int (x 13 3)) (k := 3) (wk_tape G x m) rfl it_1 (by decide) fl_X1_32 rfl dX1_step_31 ?_
          refine lv_iconst (v := (1 : Int32)) hx hb dX1_step_34 (by decide) ?_
          refine lv_iadd hx hb dX1_step_35 ?_
          refine w_put C hw (k := 3) tyX1 tyX1_ok nmX1 (wk_tape G x m) rfl it_1 (by decide) fl_X1_32 rfl (ty := .int) rfl rfl rfl (Nat.le_of_ble_eq_true rfl) (ws_tape_3 G x m _) dX1_step_36 (fun H locs hw => ?_)
          refine lv_iinc (v := (b1 + (1 : Int32))) (lv' := [(1, .int (b1 + (1 : Int32))), (0, .ref (gq G 13))]) hx hb dX1_step_39 hl (k := 1) rfl rfl (by decide) rfl (fun ls hl => ?_)
          refine lv_goto (tgt := 10) hx hb dX1_step_42 (by decide) ?_
          exact ih10 (b1 + (1 : Int32)) (up x 13 3 ((x 13 3) + (1 : Int32))) _ _ _ (lv_sub hl [1, 0] rfl) hw h
  unfold f1_step at h
  refine lv_aload_n hx hb dX1_step_0 rfl (lv_at hl 0 rfl) ?_
  refine lv_aload_n hx hb dX1_step_1 rfl (lv_at hl 0 rfl) ?_
  refine w_get C hw (v := .int (x 13 4)) (k := 4) (wk_tape G x m) rfl it_1 (by decide) fl_X1_19 rfl dX1_step_2 ?_
  refine w_put C hw (k := 3) tyX1 tyX1_ok nmX1 (wk_tape G x m) rfl it_1 (by decide) fl_X1_32 rfl (ty := .int) rfl rfl rfl (Nat.le_of_ble_eq_true rfl) (ws_tape_3 G x m _) dX1_step_5 (fun H locs hw => ?_)
  refine lv_iconst (v := (0 : Int32)) hx hb dX1_step_8 (by decide) ?_
  refine lv_istore_n (lv' := [(1, .int (0 : Int32)), (0, .ref (gq G 13))]) hx hb dX1_step_9 rfl hl (by decide) rfl (fun ls hl => ?_)
  exact L10 fu (0 : Int32) (up x 13 3 (x 13 4)) _ _ _ (lv_sub hl [1, 0] rfl) hw h

def f2_setTrait (t : Nat) (a1 : Int32) (a2 : Int32) (a3 : Int32) (x : St) : Option (St) :=
  (f3_put (2 + 4 * t) 80 (((5 : Int32) * a1) + a2) a3 x).bind fun z1 =>
  some z1
set_option maxHeartbeats 4000000 in
set_option maxRecDepth 100000 in
theorem c2_setTrait (l : Launch) (G : GT) (t : Nat) (ht : t < 3) (x m : St) (a1 : Int32) (a2 : Int32) (a3 : Int32) (r : St) (h : f2_setTrait t a1 a2 a3 x = some r) : Mt l yX2_setTrait cX2_setTrait 4 none (rmF 1 22) G x m [.ref (gq G (1 + 4 * t)), .int a1, .int a2, .int a3] none r m := by
  refine Mt.of (by decide) (Nat.le_of_ble_eq_true rfl) ?_
  intro p e s mm args below meth c C ls hl hw
  have hx := C.1
  have hb := C.2.1
  have hown := C.2.2.2.2.1
  replace hl : lv_has ls 4 [(0, .ref (gq G (1 + 4 * t))), (1, .int a1), (2, .int a2), (3, .int a3)] := hl
  unfold f2_setTrait at h
  refine lv_aload_n hx hb dX2_setTrait_0 rfl (lv_at hl 0 rfl) ?_
  refine w_get C hw (v := .ref (gq G (2 + 4 * t))) (k := 0) (wk_town G x m ht) rfl it_2 (by decide) fl_X2_9 rfl dX2_setTrait_1 ?_
  refine lv_iconst (v := (5 : Int32)) hx hb dX2_setTrait_4 (by decide) ?_
  refine lv_iload_n hx hb dX2_setTrait_5 rfl (lv_at hl 1 rfl) ?_
  refine lv_imul hx hb dX2_setTrait_6 ?_
  refine lv_iload_n hx hb dX2_setTrait_7 rfl (lv_at hl 2 rfl) ?_
  refine lv_iadd hx hb dX2_setTrait_8 ?_
  refine lv_iload_n hx hb dX2_setTrait_9 rfl (lv_at hl 3 rfl) ?_
  obtain ⟨z1, hq, h⟩ := p_bd h
  refine w_SNv C hw (As := [.ref (gq G (2 + 4 * t)), .int (((5 : Int32) * a1) + a2), .int a3]) (rest := []) (c3_put l G (2 + 4 * t) 80 (ax_tr ht) x m (((5 : Int32) * a1) + a2) a3 z1 hq) ks_X3_put (List.mem_of_getElem? (i := 0) rfl) ⟨rfl, rfl⟩ ⟨Nat.le_of_ble_eq_true rfl, Nat.le_of_ble_eq_true rfl⟩ ⟨Nat.zero_le _, Nat.zero_le _⟩ rfl rfl (Nat.le_of_ble_eq_true rfl) (lv_sub hl [] rfl) dX2_setTrait_10 (fun H locs hw => ?_)
  replace h := Option.some.inj h
  subst h
  exact w_vret C hw rfl dX2_setTrait_13

def f3_isTrait  (a1 : Int32) (a2 : Int32) (x : St) : Option (Int32) :=
  if a1 < 0 then
    some (0 : Int32)
  else
    if (5 : Int32) ≤ a1 then
      some (0 : Int32)
    else
      if a1 < 0 ∨ 5 ≤ a1.toNatClampNeg then none else
      if (f3_isWithin a2 (0 : Int32) (tv 0 a1)) = 0 then
        some (0 : Int32)
      else
        some (1 : Int32)
set_option maxHeartbeats 4000000 in
set_option maxRecDepth 100000 in
theorem c3_isTrait (l : Launch) (G : GT)  (x m : St) (a1 : Int32) (a2 : Int32) (r : Int32) (h : f3_isTrait a1 a2 x = some r) : Mt l yX3_isTrait cX3_isTrait 2 (some .boolean) (rmF 1 22) G x m [.int a1, .int a2] (some (.int r)) x m := by
  refine Mt.of (by decide) (Nat.le_of_ble_eq_true rfl) ?_
  intro p e s mm args below meth c C ls hl hw
  have hx := C.1
  have hb := C.2.1
  have hown := C.2.2.2.2.1
  replace hl : lv_has ls 2 [(0, .int a1), (1, .int a2)] := hl
  unfold f3_isTrait at h
  refine lv_iload_n hx hb dX3_isTrait_0 rfl (lv_at hl 0 rfl) ?_
  refine lv_if_lt (tgt := 29) hx hb dX3_isTrait_1 (by decide) (fun hc => ?_) (fun hc => ?_)
  · replace h := p_t hc h
    refine lv_iconst (v := (0 : Int32)) hx hb dX3_isTrait_29 (by decide) ?_
    replace h := Option.some.inj h
    subst h
    exact w_iret C hw (v := (0 : Int32)) rfl rfl dX3_isTrait_30
  · replace h := p_f hc h
    refine lv_iload_n hx hb dX3_isTrait_4 rfl (lv_at hl 0 rfl) ?_
    refine w_gets C hw (i := 0) (by decide) fl_X3_272 dX3_isTrait_5 ?_
    refine w_tlen C hw (i := 0) (by decide) (v := (5 : Int32)) rfl dX3_isTrait_8 ?_
    refine lv_icmp_ge (tgt := 29) hx hb dX3_isTrait_9 (by decide) (fun hc => ?_) (fun hc => ?_)
    · replace h := p_t hc h
      refine lv_iconst (v := (0 : Int32)) hx hb dX3_isTrait_29 (by decide) ?_
      replace h := Option.some.inj h
      subst h
      exact w_iret C hw (v := (0 : Int32)) rfl rfl dX3_isTrait_30
    · replace h := p_f hc h
      refine lv_iload_n hx hb dX3_isTrait_12 rfl (lv_at hl 1 rfl) ?_
      refine lv_iconst (v := (0 : Int32)) hx hb dX3_isTrait_13 (by decide) ?_
      refine w_gets C hw (i := 0) (by decide) fl_X3_272 dX3_isTrait_14 ?_
      refine lv_iload_n hx hb dX3_isTrait_17 rfl (lv_at hl 0 rfl) ?_
      obtain ⟨hq, h⟩ := p_if h
      refine w_tald C hw (i := 0) (by decide) hq dX3_isTrait_18 ?_
      refine w_Si C hw (As := [.int a2, .int (0 : Int32), .int (tv 0 a1)]) (rest := []) (c3_isWithin l G x m a2 (0 : Int32) (tv 0 a1) _ rfl) ks_X3_isWithin ml_X3_44 ⟨rfl, rfl⟩ ⟨Nat.le_of_ble_eq_true rfl, Nat.le_of_ble_eq_true rfl⟩ ⟨Nat.zero_le _, Nat.zero_le _⟩ rfl rfl (Nat.le_of_ble_eq_true rfl) (lv_sub hl [] rfl) dX3_isTrait_19 (fun H locs hw => ?_)
      refine lv_if_eq (tgt := 29) hx hb dX3_isTrait_22 (by decide) (fun hc => ?_) (fun hc => ?_)
      · replace h := p_t hc h
        refine lv_iconst (v := (0 : Int32)) hx hb dX3_isTrait_29 (by decide) ?_
        replace h := Option.some.inj h
        subst h
        exact w_iret C hw (v := (0 : Int32)) rfl rfl dX3_isTrait_30
      · replace h := p_f hc h
        refine lv_iconst (v := (1 : Int32)) hx hb dX3_isTrait_25 (by decide) ?_
        refine lv_goto (tgt := 30) hx hb dX3_isTrait_26 (by decide) ?_
        replace h := Option.some.inj h
        subst h
        exact w_iret C hw (v := (1 : Int32)) rfl rfl dX3_isTrait_30

def f1_readTrait (u : Nat) (i4 : Nat) (a2 : Int32) (a3 : Int32) (x : St) : Option (Int32 × St) :=
  (f1_isWord i4 x).bind fun v1 =>
  if v1 = 0 then
    some ((1 : Int32), x)
  else
    (f1_step x).bind fun z2 =>
    if (z2 13 2) = (2 : Int32) then
      (f3_isTrait a3 (z2 13 5) z2).bind fun v3 =>
      if v3 = 0 then
        some ((0 : Int32), z2)
      else
        (f2_setTrait u a2 a3 (z2 13 5) z2).bind fun z4 =>
        (f1_step z4).bind fun z5 =>
        some ((1 : Int32), z5)
    else
      some ((0 : Int32), z2)
set_option maxHeartbeats 4000000 in
set_option maxRecDepth 100000 in
theorem c1_readTrait (l : Launch) (G : GT) (u : Nat) (hu : u < 3) (i4 : Nat) (hi4 : i4 < 18) (x m : St) (a2 : Int32) (a3 : Int32) (r : Int32 × St) (h : f1_readTrait u i4 a2 a3 x = some r) : Mt l yX1_readTrait cX1_readTrait 5 (some .boolean) (rmF 5 107) G x m [.ref (gq G 13), .ref (gq G (1 + 4 * u)), .int a2, .int a3, .ref (gK G i4)] (some (.int r.1)) r.2 m := by
  refine Mt.of (by decide) (Nat.le_of_ble_eq_true rfl) ?_
  intro p e s mm args below meth c C ls hl hw
  have hx := C.1
  have hb := C.2.1
  have hown := C.2.2.2.2.1
  replace hl : lv_has ls 5 [(0, .ref (gq G 13)), (1, .ref (gq G (1 + 4 * u))), (2, .int a2), (3, .int a3), (4, .ref (gK G i4))] := hl
  unfold f1_readTrait at h
  refine lv_aload_n hx hb dX1_readTrait_0 rfl (lv_at hl 0 rfl) ?_
  refine lv_aload hx hb dX1_readTrait_1 (lv_at hl 4 rfl) ?_
  obtain ⟨v1, hq, h⟩ := p_bd h
  refine w_Vi C hw (As := [.ref (gK G i4)]) (rest := []) (c1_isWord l G i4 hi4 x m v1 hq) kv_X1_isWord ml_X1_39 ⟨rfl, rfl⟩ ⟨Nat.le_of_ble_eq_true rfl, Nat.le_of_ble_eq_true rfl⟩ ⟨Nat.zero_le _, Nat.zero_le _⟩ (w_recv C hw (wk_tape G x m) rfl) rfl rfl (Nat.le_of_ble_eq_true rfl) (lv_sub hl [] rfl) dX1_readTrait_3 (fun H locs hw => ?_)
  refine lv_if_ne (tgt := 11) hx hb dX1_readTrait_6 (by decide) (fun hc => ?_) (fun hc => ?_)
  · replace h := p_f hc h
    refine lv_aload_n hx hb dX1_readTrait_11 rfl (lv_at hl 0 rfl) ?_
    obtain ⟨z2, hq, h⟩ := p_bd h
    refine w_Vv C hw (As := []) (rest := []) (c1_step l G x m z2 hq) kv_X1_step ml_X1_22 ⟨rfl, rfl⟩ ⟨Nat.le_of_ble_eq_true rfl, Nat.le_of_ble_eq_true rfl⟩ ⟨Nat.zero_le _, Nat.zero_le _⟩ (w_recv C hw (wk_tape G x m) rfl) rfl rfl (Nat.le_of_ble_eq_true rfl) (lv_sub hl [] rfl) dX1_readTrait_12 (fun H locs hw => ?_)
    refine lv_aload_n hx hb dX1_readTrait_15 rfl (lv_at hl 0 rfl) ?_
    refine w_get C hw (v := .int (z2 13 2)) (k := 2) (wk_tape G z2 m) rfl it_1 (by decide) fl_X1_29 rfl dX1_readTrait_16 ?_
    refine lv_iconst (v := (2 : Int32)) hx hb dX1_readTrait_19 (by decide) ?_
    refine lv_icmp_ne (tgt := 34) hx hb dX1_readTrait_20 (by decide) (fun hc => ?_) (fun hc => ?_)
    · replace h := p_f hc h
      refine lv_iconst (v := (0 : Int32)) hx hb dX1_readTrait_34 (by decide) ?_
      replace h := Option.some.inj h
      subst h
      exact w_iret C hw (v := (0 : Int32)) rfl rfl dX1_readTrait_35
    · replace h := p_t hc h
      refine lv_iload_n hx hb dX1_readTrait_23 rfl (lv_at hl 3 rfl) ?_
      refine lv_aload_n hx hb dX1_readTrait_24 rfl (lv_at hl 0 rfl) ?_
      refine w_get C hw (v := .int (z2 13 5)) (k := 5) (wk_tape G z2 m) rfl it_1 (by decide) fl_X1_59 rfl dX1_readTrait_25 ?_
      obtain ⟨v3, hq, h⟩ := p_bd h
      refine w_SNi C hw (As := [.int a3, .int (z2 13 5)]) (rest := []) (c3_isTrait l G z2 m a3 (z2 13 5) v3 hq) ks_X3_isTrait (List.mem_of_getElem? (i := 5) rfl) ⟨rfl, rfl⟩ ⟨Nat.le_of_ble_eq_true rfl, Nat.le_of_ble_eq_true rfl⟩ ⟨Nat.zero_le _, Nat.zero_le _⟩ rfl rfl (Nat.le_of_ble_eq_true rfl) (lv_sub hl [] rfl) dX1_readTrait_28 (fun H locs hw => ?_)
      refine lv_if_ne (tgt := 36) hx hb dX1_readTrait_31 (by decide) (fun hc => ?_) (fun hc => ?_)
      · replace h := p_f hc h
        refine lv_aload_n hx hb dX1_readTrait_36 rfl (lv_at hl 1 rfl) ?_
        refine lv_iload_n hx hb dX1_readTrait_37 rfl (lv_at hl 2 rfl) ?_
        refine lv_iload_n hx hb dX1_readTrait_38 rfl (lv_at hl 3 rfl) ?_
        refine lv_aload_n hx hb dX1_readTrait_39 rfl (lv_at hl 0 rfl) ?_
        refine w_get C hw (v := .int (z2 13 5)) (k := 5) (wk_tape G z2 m) rfl it_1 (by decide) fl_X1_59 rfl dX1_readTrait_40 ?_
        obtain ⟨z4, hq, h⟩ := p_bd h
        refine w_Vv C hw (As := [.int a2, .int a3, .int (z2 13 5)]) (rest := []) (c2_setTrait l G u hu z2 m a2 a3 (z2 13 5) z4 hq) kv_X2_setTrait ml_X1_109 ⟨rfl, rfl⟩ ⟨Nat.le_of_ble_eq_true rfl, Nat.le_of_ble_eq_true rfl⟩ ⟨Nat.zero_le _, Nat.zero_le _⟩ (w_recv C hw (wk_town G z2 m hu) rfl) rfl rfl (Nat.le_of_ble_eq_true rfl) (lv_sub hl [] rfl) dX1_readTrait_43 (fun H locs hw => ?_)
        refine lv_aload_n hx hb dX1_readTrait_46 rfl (lv_at hl 0 rfl) ?_
        obtain ⟨z5, hq, h⟩ := p_bd h
        refine w_Vv C hw (As := []) (rest := []) (c1_step l G z4 m z5 hq) kv_X1_step ml_X1_22 ⟨rfl, rfl⟩ ⟨Nat.le_of_ble_eq_true rfl, Nat.le_of_ble_eq_true rfl⟩ ⟨Nat.zero_le _, Nat.zero_le _⟩ (w_recv C hw (wk_tape G z4 m) rfl) rfl rfl (Nat.le_of_ble_eq_true rfl) (lv_sub hl [] rfl) dX1_readTrait_47 (fun H locs hw => ?_)
        refine lv_iconst (v := (1 : Int32)) hx hb dX1_readTrait_50 (by decide) ?_
        replace h := Option.some.inj h
        subst h
        exact w_iret C hw (v := (1 : Int32)) rfl rfl dX1_readTrait_51
      · replace h := p_t hc h
        refine lv_iconst (v := (0 : Int32)) hx hb dX1_readTrait_34 (by decide) ?_
        replace h := Option.some.inj h
        subst h
        exact w_iret C hw (v := (0 : Int32)) rfl rfl dX1_readTrait_35
  · replace h := p_t hc h
    refine lv_iconst (v := (1 : Int32)) hx hb dX1_readTrait_9 (by decide) ?_
    replace h := Option.some.inj h
    subst h
    exact w_iret C hw (v := (1 : Int32)) rfl rfl dX1_readTrait_10

def f1_readCorner (u : Nat)  (x : St) : Option (Int32 × St) :=
  (f1_step x).bind fun z1 =>
  if (f1_isNumber (0 : Int32) (15 : Int32) z1) = 0 then
    some ((0 : Int32), z1)
  else
    (f1_step z1).bind fun z2 =>
    (f1_readTrait u 10 (z1 13 5) (0 : Int32) z2).bind fun q => match q with
    | (v4, z3) =>
      if v4 = 0 then
        some ((0 : Int32), z3)
      else
        (f1_readTrait u 11 (z1 13 5) (1 : Int32) z3).bind fun q => match q with
        | (v6, z5) =>
          if v6 = 0 then
            some ((0 : Int32), z5)
          else
            (f1_readTrait u 12 (z1 13 5) (2 : Int32) z5).bind fun q => match q with
            | (v8, z7) =>
              if v8 = 0 then
                some ((0 : Int32), z7)
              else
                (f1_readTrait u 13 (z1 13 5) (4 : Int32) z7).bind fun q => match q with
                | (v10, z9) =>
                  if v10 = 0 then
                    some ((0 : Int32), z9)
                  else
                    some ((1 : Int32), z9)
set_option maxHeartbeats 4000000 in
set_option maxRecDepth 100000 in
theorem c1_readCorner (l : Launch) (G : GT) (u : Nat) (hu : u < 3) (x m : St)  (r : Int32 × St) (h : f1_readCorner u x = some r) : Mt l yX1_readCorner cX1_readCorner 3 (some .boolean) (rmF 6 131) G x m [.ref (gq G 13), .ref (gq G (1 + 4 * u))] (some (.int r.1)) r.2 m := by
  refine Mt.of (by decide) (Nat.le_of_ble_eq_true rfl) ?_
  intro p e s mm args below meth c C ls hl hw
  have hx := C.1
  have hb := C.2.1
  have hown := C.2.2.2.2.1
  replace hl : lv_has ls 3 [(0, .ref (gq G 13)), (1, .ref (gq G (1 + 4 * u)))] := hl
  unfold f1_readCorner at h
  refine lv_aload_n hx hb dX1_readCorner_0 rfl (lv_at hl 0 rfl) ?_
  obtain ⟨z1, hq, h⟩ := p_bd h
  refine w_Vv C hw (As := []) (rest := []) (c1_step l G x m z1 hq) kv_X1_step ml_X1_22 ⟨rfl, rfl⟩ ⟨Nat.le_of_ble_eq_true rfl, Nat.le_of_ble_eq_true rfl⟩ ⟨Nat.zero_le _, Nat.zero_le _⟩ (w_recv C hw (wk_tape G x m) rfl) rfl rfl (Nat.le_of_ble_eq_true rfl) (lv_sub hl [] rfl) dX1_readCorner_1 (fun H locs hw => ?_)
  refine lv_aload_n hx hb dX1_readCorner_4 rfl (lv_at hl 0 rfl) ?_
  refine lv_iconst (v := (0 : Int32)) hx hb dX1_readCorner_5 (by decide) ?_
  refine lv_bipush (v := (15 : Int32)) hx hb dX1_readCorner_6 (by decide) ?_
  refine w_Vi C hw (As := [.int (0 : Int32), .int (15 : Int32)]) (rest := []) (c1_isNumber l G z1 m (0 : Int32) (15 : Int32) _ rfl) kv_X1_isNumber ml_X1_55 ⟨rfl, rfl⟩ ⟨Nat.le_of_ble_eq_true rfl, Nat.le_of_ble_eq_true rfl⟩ ⟨Nat.zero_le _, Nat.zero_le _⟩ (w_recv C hw (wk_tape G z1 m) rfl) rfl rfl (Nat.le_of_ble_eq_true rfl) (lv_sub hl [] rfl) dX1_readCorner_8 (fun H locs hw => ?_)
  refine lv_if_ne (tgt := 16) hx hb dX1_readCorner_11 (by decide) (fun hc => ?_) (fun hc => ?_)
  · replace h := p_f hc h
    refine lv_aload_n hx hb dX1_readCorner_16 rfl (lv_at hl 0 rfl) ?_
    refine w_get C hw (v := .int (z1 13 5)) (k := 5) (wk_tape G z1 m) rfl it_1 (by decide) fl_X1_59 rfl dX1_readCorner_17 ?_
    refine lv_istore_n (lv' := [(2, .int (z1 13 5)), (0, .ref (gq G 13)), (1, .ref (gq G (1 + 4 * u)))]) hx hb dX1_readCorner_20 rfl hl (by decide) rfl (fun ls hl => ?_)
    refine lv_aload_n hx hb dX1_readCorner_21 rfl (lv_at hl 1 rfl) ?_
    obtain ⟨z2, hq, h⟩ := p_bd h
    refine w_Vv C hw (As := []) (rest := []) (c1_step l G z1 m z2 hq) kv_X1_step ml_X1_22 ⟨rfl, rfl⟩ ⟨Nat.le_of_ble_eq_true rfl, Nat.le_of_ble_eq_true rfl⟩ ⟨Nat.zero_le _, Nat.zero_le _⟩ (w_recv C hw (wk_tape G z1 m) rfl) rfl rfl (Nat.le_of_ble_eq_true rfl) (lv_sub hl [] rfl) dX1_readCorner_22 (fun H locs hw => ?_)
    refine lv_aload_n hx hb dX1_readCorner_25 rfl (lv_at hl 1 rfl) ?_
    refine lv_aload_n hx hb dX1_readCorner_26 rfl (lv_at hl 2 rfl) ?_
    refine lv_iload_n hx hb dX1_readCorner_27 rfl (lv_at hl 0 rfl) ?_
    refine lv_iconst (v := (0 : Int32)) hx hb dX1_readCorner_28 (by decide) ?_
    refine w_ldcS C (i := 10) (List.mem_of_getElem? (i := 10) rfl) dX1_readCorner_29 ?_
    obtain ⟨⟨v4, z3⟩, hq, h⟩ := p_bd h
    dsimp only at h
    refine w_Vi C hw (As := [.ref (gq G (1 + 4 * u)), .int (z1 13 5), .int (0 : Int32), .ref (gK G 10)]) (rest := []) (c1_readTrait l G u hu 10 (by decide) z2 m (z1 13 5) (0 : Int32) (v4, z3) hq) kv_X1_readTrait ml_X1_97 ⟨rfl, rfl⟩ ⟨Nat.le_of_ble_eq_true rfl, Nat.le_of_ble_eq_true rfl⟩ ⟨Nat.zero_le _, Nat.zero_le _⟩ (w_recv C hw (wk_tape G z2 m) rfl) rfl rfl (Nat.le_of_ble_eq_true rfl) (lv_sub hl [] rfl) dX1_readCorner_31 (fun H locs hw => ?_)
    refine lv_if_eq (tgt := 77) hx hb dX1_readCorner_34 (by decide) (fun hc => ?_) (fun hc => ?_)
    · replace h := p_t hc h
      refine lv_iconst (v := (0 : Int32)) hx hb dX1_readCorner_77 (by decide) ?_
      replace h := Option.some.inj h
      subst h
      exact w_iret C hw (v := (0 : Int32)) rfl rfl dX1_readCorner_78
    · replace h := p_f hc h
      refine lv_aload_n hx hb dX1_readCorner_37 rfl (lv_at hl 1 rfl) ?_
      refine lv_aload_n hx hb dX1_readCorner_38 rfl (lv_at hl 2 rfl) ?_
      refine lv_iload_n hx hb dX1_readCorner_39 rfl (lv_at hl 0 rfl) ?_
      refine lv_iconst (v := (1 : Int32)) hx hb dX1_readCorner_40 (by decide) ?_
      refine w_ldcS C (i := 11) (List.mem_of_getElem? (i := 11) rfl) dX1_readCorner_41 ?_
      obtain ⟨⟨v6, z5⟩, hq, h⟩ := p_bd h
      dsimp only at h
      refine w_Vi C hw (As := [.ref (gq G (1 + 4 * u)), .int (z1 13 5), .int (1 : Int32), .ref (gK G 11)]) (rest := []) (c1_readTrait l G u hu 11 (by decide) z3 m (z1 13 5) (1 : Int32) (v6, z5) hq) kv_X1_readTrait ml_X1_97 ⟨rfl, rfl⟩ ⟨Nat.le_of_ble_eq_true rfl, Nat.le_of_ble_eq_true rfl⟩ ⟨Nat.zero_le _, Nat.zero_le _⟩ (w_recv C hw (wk_tape G z3 m) rfl) rfl rfl (Nat.le_of_ble_eq_true rfl) (lv_sub hl [] rfl) dX1_readCorner_43 (fun H locs hw => ?_)
      refine lv_if_eq (tgt := 77) hx hb dX1_readCorner_46 (by decide) (fun hc => ?_) (fun hc => ?_)
      · replace h := p_t hc h
        refine lv_iconst (v := (0 : Int32)) hx hb dX1_readCorner_77 (by decide) ?_
        replace h := Option.some.inj h
        subst h
        exact w_iret C hw (v := (0 : Int32)) rfl rfl dX1_readCorner_78
      · replace h := p_f hc h
        refine lv_aload_n hx hb dX1_readCorner_49 rfl (lv_at hl 1 rfl) ?_
        refine lv_aload_n hx hb dX1_readCorner_50 rfl (lv_at hl 2 rfl) ?_
        refine lv_iload_n hx hb dX1_readCorner_51 rfl (lv_at hl 0 rfl) ?_
        refine lv_iconst (v := (2 : Int32)) hx hb dX1_readCorner_52 (by decide) ?_
        refine w_ldcS C (i := 12) (List.mem_of_getElem? (i := 12) rfl) dX1_readCorner_53 ?_
        obtain ⟨⟨v8, z7⟩, hq, h⟩ := p_bd h
        dsimp only at h
        refine w_Vi C hw (As := [.ref (gq G (1 + 4 * u)), .int (z1 13 5), .int (2 : Int32), .ref (gK G 12)]) (rest := []) (c1_readTrait l G u hu 12 (by decide) z5 m (z1 13 5) (2 : Int32) (v8, z7) hq) kv_X1_readTrait ml_X1_97 ⟨rfl, rfl⟩ ⟨Nat.le_of_ble_eq_true rfl, Nat.le_of_ble_eq_true rfl⟩ ⟨Nat.zero_le _, Nat.zero_le _⟩ (w_recv C hw (wk_tape G z5 m) rfl) rfl rfl (Nat.le_of_ble_eq_true rfl) (lv_sub hl [] rfl) dX1_readCorner_55 (fun H locs hw => ?_)
        refine lv_if_eq (tgt := 77) hx hb dX1_readCorner_58 (by decide) (fun hc => ?_) (fun hc => ?_)
        · replace h := p_t hc h
          refine lv_iconst (v := (0 : Int32)) hx hb dX1_readCorner_77 (by decide) ?_
          replace h := Option.some.inj h
          subst h
          exact w_iret C hw (v := (0 : Int32)) rfl rfl dX1_readCorner_78
        · replace h := p_f hc h
          refine lv_aload_n hx hb dX1_readCorner_61 rfl (lv_at hl 1 rfl) ?_
          refine lv_aload_n hx hb dX1_readCorner_62 rfl (lv_at hl 2 rfl) ?_
          refine lv_iload_n hx hb dX1_readCorner_63 rfl (lv_at hl 0 rfl) ?_
          refine lv_iconst (v := (4 : Int32)) hx hb dX1_readCorner_64 (by decide) ?_
          refine w_ldcS C (i := 13) (List.mem_of_getElem? (i := 13) rfl) dX1_readCorner_65 ?_
          obtain ⟨⟨v10, z9⟩, hq, h⟩ := p_bd h
          dsimp only at h
          refine w_Vi C hw (As := [.ref (gq G (1 + 4 * u)), .int (z1 13 5), .int (4 : Int32), .ref (gK G 13)]) (rest := []) (c1_readTrait l G u hu 13 (by decide) z7 m (z1 13 5) (4 : Int32) (v10, z9) hq) kv_X1_readTrait ml_X1_97 ⟨rfl, rfl⟩ ⟨Nat.le_of_ble_eq_true rfl, Nat.le_of_ble_eq_true rfl⟩ ⟨Nat.zero_le _, Nat.zero_le _⟩ (w_recv C hw (wk_tape G z7 m) rfl) rfl rfl (Nat.le_of_ble_eq_true rfl) (lv_sub hl [] rfl) dX1_readCorner_67 (fun H locs hw => ?_)
          refine lv_if_eq (tgt := 77) hx hb dX1_readCorner_70 (by decide) (fun hc => ?_) (fun hc => ?_)
          · replace h := p_t hc h
            refine lv_iconst (v := (0 : Int32)) hx hb dX1_readCorner_77 (by decide) ?_
            replace h := Option.some.inj h
            subst h
            exact w_iret C hw (v := (0 : Int32)) rfl rfl dX1_readCorner_78
          · replace h := p_f hc h
            refine lv_iconst (v := (1 : Int32)) hx hb dX1_readCorner_73 (by decide) ?_
            refine lv_goto (tgt := 78) hx hb dX1_readCorner_74 (by decide) ?_
            replace h := Option.some.inj h
            subst h
            exact w_iret C hw (v := (1 : Int32)) rfl rfl dX1_readCorner_78
  · replace h := p_t hc h
    refine lv_iconst (v := (0 : Int32)) hx hb dX1_readCorner_14 (by decide) ?_
    replace h := Option.some.inj h
    subst h
    exact w_iret C hw (v := (0 : Int32)) rfl rfl dX1_readCorner_15

def f2_setQuality (t : Nat) (a1 : Int32) (a2 : Int32) (a3 : Int32) (x : St) : Option (St) :=
  (f3_put (3 + 4 * t) 24 (((3 : Int32) * a1) + a2) a3 x).bind fun z1 =>
  some z1
set_option maxHeartbeats 4000000 in
set_option maxRecDepth 100000 in
theorem c2_setQuality (l : Launch) (G : GT) (t : Nat) (ht : t < 3) (x m : St) (a1 : Int32) (a2 : Int32) (a3 : Int32) (r : St) (h : f2_setQuality t a1 a2 a3 x = some r) : Mt l yX2_setQuality cX2_setQuality 4 none (rmF 1 22) G x m [.ref (gq G (1 + 4 * t)), .int a1, .int a2, .int a3] none r m := by
  refine Mt.of (by decide) (Nat.le_of_ble_eq_true rfl) ?_
  intro p e s mm args below meth c C ls hl hw
  have hx := C.1
  have hb := C.2.1
  have hown := C.2.2.2.2.1
  replace hl : lv_has ls 4 [(0, .ref (gq G (1 + 4 * t))), (1, .int a1), (2, .int a2), (3, .int a3)] := hl
  unfold f2_setQuality at h
  refine lv_aload_n hx hb dX2_setQuality_0 rfl (lv_at hl 0 rfl) ?_
  refine w_get C hw (v := .ref (gq G (3 + 4 * t))) (k := 1) (wk_town G x m ht) rfl it_2 (by decide) fl_X2_15 rfl dX2_setQuality_1 ?_
  refine lv_iconst (v := (3 : Int32)) hx hb dX2_setQuality_4 (by decide) ?_
  refine lv_iload_n hx hb dX2_setQuality_5 rfl (lv_at hl 1 rfl) ?_
  refine lv_imul hx hb dX2_setQuality_6 ?_
  refine lv_iload_n hx hb dX2_setQuality_7 rfl (lv_at hl 2 rfl) ?_
  refine lv_iadd hx hb dX2_setQuality_8 ?_
  refine lv_iload_n hx hb dX2_setQuality_9 rfl (lv_at hl 3 rfl) ?_
  obtain ⟨z1, hq, h⟩ := p_bd h
  refine w_SNv C hw (As := [.ref (gq G (3 + 4 * t)), .int (((3 : Int32) * a1) + a2), .int a3]) (rest := []) (c3_put l G (3 + 4 * t) 24 (ax_qu ht) x m (((3 : Int32) * a1) + a2) a3 z1 hq) ks_X3_put (List.mem_of_getElem? (i := 0) rfl) ⟨rfl, rfl⟩ ⟨Nat.le_of_ble_eq_true rfl, Nat.le_of_ble_eq_true rfl⟩ ⟨Nat.zero_le _, Nat.zero_le _⟩ rfl rfl (Nat.le_of_ble_eq_true rfl) (lv_sub hl [] rfl) dX2_setQuality_10 (fun H locs hw => ?_)
  replace h := Option.some.inj h
  subst h
  exact w_vret C hw rfl dX2_setQuality_13

def f3_isQuality  (a1 : Int32) (a2 : Int32) (x : St) : Option (Int32) :=
  if a1 < 0 then
    some (0 : Int32)
  else
    if (3 : Int32) ≤ a1 then
      some (0 : Int32)
    else
      if (3 : Int32) ≤ a1 then
        some (0 : Int32)
      else
        if a1 < 0 ∨ 3 ≤ a1.toNatClampNeg then none else
        if a1 < 0 ∨ 3 ≤ a1.toNatClampNeg then none else
        if (f3_isWithin a2 (tv 1 a1) (tv 2 a1)) = 0 then
          some (0 : Int32)
        else
          some (1 : Int32)
set_option maxHeartbeats 4000000 in
set_option maxRecDepth 100000 in
theorem c3_isQuality (l : Launch) (G : GT)  (x m : St) (a1 : Int32) (a2 : Int32) (r : Int32) (h : f3_isQuality a1 a2 x = some r) : Mt l yX3_isQuality cX3_isQuality 2 (some .boolean) (rmF 1 22) G x m [.int a1, .int a2] (some (.int r)) x m := by
  refine Mt.of (by decide) (Nat.le_of_ble_eq_true rfl) ?_
  intro p e s mm args below meth c C ls hl hw
  have hx := C.1
  have hb := C.2.1
  have hown := C.2.2.2.2.1
  replace hl : lv_has ls 2 [(0, .int a1), (1, .int a2)] := hl
  unfold f3_isQuality at h
  refine lv_iload_n hx hb dX3_isQuality_0 rfl (lv_at hl 0 rfl) ?_
  refine lv_if_lt (tgt := 41) hx hb dX3_isQuality_1 (by decide) (fun hc => ?_) (fun hc => ?_)
  · replace h := p_t hc h
    refine lv_iconst (v := (0 : Int32)) hx hb dX3_isQuality_41 (by decide) ?_
    replace h := Option.some.inj h
    subst h
    exact w_iret C hw (v := (0 : Int32)) rfl rfl dX3_isQuality_42
  · replace h := p_f hc h
    refine lv_iload_n hx hb dX3_isQuality_4 rfl (lv_at hl 0 rfl) ?_
    refine w_gets C hw (i := 1) (by decide) fl_X3_275 dX3_isQuality_5 ?_
    refine w_tlen C hw (i := 1) (by decide) (v := (3 : Int32)) rfl dX3_isQuality_8 ?_
    refine lv_icmp_ge (tgt := 41) hx hb dX3_isQuality_9 (by decide) (fun hc => ?_) (fun hc => ?_)
    · replace h := p_t hc h
      refine lv_iconst (v := (0 : Int32)) hx hb dX3_isQuality_41 (by decide) ?_
      replace h := Option.some.inj h
      subst h
      exact w_iret C hw (v := (0 : Int32)) rfl rfl dX3_isQuality_42
    · replace h := p_f hc h
      refine lv_iload_n hx hb dX3_isQuality_12 rfl (lv_at hl 0 rfl) ?_
      refine w_gets C hw (i := 2) (by decide) fl_X3_278 dX3_isQuality_13 ?_
      refine w_tlen C hw (i := 2) (by decide) (v := (3 : Int32)) rfl dX3_isQuality_16 ?_
      refine lv_icmp_ge (tgt := 41) hx hb dX3_isQuality_17 (by decide) (fun hc => ?_) (fun hc => ?_)
      · replace h := p_t hc h
        refine lv_iconst (v := (0 : Int32)) hx hb dX3_isQuality_41 (by decide) ?_
        replace h := Option.some.inj h
        subst h
        exact w_iret C hw (v := (0 : Int32)) rfl rfl dX3_isQuality_42
      · replace h := p_f hc h
        refine lv_iload_n hx hb dX3_isQuality_20 rfl (lv_at hl 1 rfl) ?_
        refine w_gets C hw (i := 1) (by decide) fl_X3_275 dX3_isQuality_21 ?_
        refine lv_iload_n hx hb dX3_isQuality_24 rfl (lv_at hl 0 rfl) ?_
        obtain ⟨hq, h⟩ := p_if h
        refine w_tald C hw (i := 1) (by decide) hq dX3_isQuality_25 ?_
        refine w_gets C hw (i := 2) (by decide) fl_X3_278 dX3_isQuality_26 ?_
        refine lv_iload_n hx hb dX3_isQuality_29 rfl (lv_at hl 0 rfl) ?_
        obtain ⟨hq, h⟩ := p_if h
        refine w_tald C hw (i := 2) (by decide) hq dX3_isQuality_30 ?_
        refine w_Si C hw (As := [.int a2, .int (tv 1 a1), .int (tv 2 a1)]) (rest := []) (c3_isWithin l G x m a2 (tv 1 a1) (tv 2 a1) _ rfl) ks_X3_isWithin ml_X3_44 ⟨rfl, rfl⟩ ⟨Nat.le_of_ble_eq_true rfl, Nat.le_of_ble_eq_true rfl⟩ ⟨Nat.zero_le _, Nat.zero_le _⟩ rfl rfl (Nat.le_of_ble_eq_true rfl) (lv_sub hl [] rfl) dX3_isQuality_31 (fun H locs hw => ?_)
        refine lv_if_eq (tgt := 41) hx hb dX3_isQuality_34 (by decide) (fun hc => ?_) (fun hc => ?_)
        · replace h := p_t hc h
          refine lv_iconst (v := (0 : Int32)) hx hb dX3_isQuality_41 (by decide) ?_
          replace h := Option.some.inj h
          subst h
          exact w_iret C hw (v := (0 : Int32)) rfl rfl dX3_isQuality_42
        · replace h := p_f hc h
          refine lv_iconst (v := (1 : Int32)) hx hb dX3_isQuality_37 (by decide) ?_
          refine lv_goto (tgt := 42) hx hb dX3_isQuality_38 (by decide) ?_
          replace h := Option.some.inj h
          subst h
          exact w_iret C hw (v := (1 : Int32)) rfl rfl dX3_isQuality_42

def f1_readQuality (u : Nat) (i4 : Nat) (a2 : Int32) (a3 : Int32) (x : St) : Option (Int32 × St) :=
  (f1_isWord i4 x).bind fun v1 =>
  if v1 = 0 then
    some ((1 : Int32), x)
  else
    (f1_step x).bind fun z2 =>
    if (z2 13 2) = (2 : Int32) then
      (f3_isQuality a3 (z2 13 5) z2).bind fun v3 =>
      if v3 = 0 then
        some ((0 : Int32), z2)
      else
        (f2_setQuality u a2 a3 (z2 13 5) z2).bind fun z4 =>
        (f1_step z4).bind fun z5 =>
        some ((1 : Int32), z5)
    else
      some ((0 : Int32), z2)
set_option maxHeartbeats 4000000 in
set_option maxRecDepth 100000 in
theorem c1_readQuality (l : Launch) (G : GT) (u : Nat) (hu : u < 3) (i4 : Nat) (hi4 : i4 < 18) (x m : St) (a2 : Int32) (a3 : Int32) (r : Int32 × St) (h : f1_readQuality u i4 a2 a3 x = some r) : Mt l yX1_readQuality cX1_readQuality 5 (some .boolean) (rmF 5 107) G x m [.ref (gq G 13), .ref (gq G (1 + 4 * u)), .int a2, .int a3, .ref (gK G i4)] (some (.int r.1)) r.2 m := by
  refine Mt.of (by decide) (Nat.le_of_ble_eq_true rfl) ?_
  intro p e s mm args below meth c C ls hl hw
  have hx := C.1
  have hb := C.2.1
  have hown := C.2.2.2.2.1
  replace hl : lv_has ls 5 [(0, .ref (gq G 13)), (1, .ref (gq G (1 + 4 * u))), (2, .int a2), (3, .int a3), (4, .ref (gK G i4))] := hl
  unfold f1_readQuality at h
  refine lv_aload_n hx hb dX1_readQuality_0 rfl (lv_at hl 0 rfl) ?_
  refine lv_aload hx hb dX1_readQuality_1 (lv_at hl 4 rfl) ?_
  obtain ⟨v1, hq, h⟩ := p_bd h
  refine w_Vi C hw (As := [.ref (gK G i4)]) (rest := []) (c1_isWord l G i4 hi4 x m v1 hq) kv_X1_isWord ml_X1_39 ⟨rfl, rfl⟩ ⟨Nat.le_of_ble_eq_true rfl, Nat.le_of_ble_eq_true rfl⟩ ⟨Nat.zero_le _, Nat.zero_le _⟩ (w_recv C hw (wk_tape G x m) rfl) rfl rfl (Nat.le_of_ble_eq_true rfl) (lv_sub hl [] rfl) dX1_readQuality_3 (fun H locs hw => ?_)
  refine lv_if_ne (tgt := 11) hx hb dX1_readQuality_6 (by decide) (fun hc => ?_) (fun hc => ?_)
  · replace h := p_f hc h
    refine lv_aload_n hx hb dX1_readQuality_11 rfl (lv_at hl 0 rfl) ?_
    obtain ⟨z2, hq, h⟩ := p_bd h
    refine w_Vv C hw (As := []) (rest := []) (c1_step l G x m z2 hq) kv_X1_step ml_X1_22 ⟨rfl, rfl⟩ ⟨Nat.le_of_ble_eq_true rfl, Nat.le_of_ble_eq_true rfl⟩ ⟨Nat.zero_le _, Nat.zero_le _⟩ (w_recv C hw (wk_tape G x m) rfl) rfl rfl (Nat.le_of_ble_eq_true rfl) (lv_sub hl [] rfl) dX1_readQuality_12 (fun H locs hw => ?_)
    refine lv_aload_n hx hb dX1_readQuality_15 rfl (lv_at hl 0 rfl) ?_
    refine w_get C hw (v := .int (z2 13 2)) (k := 2) (wk_tape G z2 m) rfl it_1 (by decide) fl_X1_29 rfl dX1_readQuality_16 ?_
    refine lv_iconst (v := (2 : Int32)) hx hb dX1_readQuality_19 (by decide) ?_
    refine lv_icmp_ne (tgt := 34) hx hb dX1_readQuality_20 (by decide) (fun hc => ?_) (fun hc => ?_)
    · replace h := p_f hc h
      refine lv_iconst (v := (0 : Int32)) hx hb dX1_readQuality_34 (by decide) ?_
      replace h := Option.some.inj h
      subst h
      exact w_iret C hw (v := (0 : Int32)) rfl rfl dX1_readQuality_35
    · replace h := p_t hc h
      refine lv_iload_n hx hb dX1_readQuality_23 rfl (lv_at hl 3 rfl) ?_
      refine lv_aload_n hx hb dX1_readQuality_24 rfl (lv_at hl 0 rfl) ?_
      refine w_get C hw (v := .int (z2 13 5)) (k := 5) (wk_tape G z2 m) rfl it_1 (by decide) fl_X1_59 rfl dX1_readQuality_25 ?_
      obtain ⟨v3, hq, h⟩ := p_bd h
      refine w_SNi C hw (As := [.int a3, .int (z2 13 5)]) (rest := []) (c3_isQuality l G z2 m a3 (z2 13 5) v3 hq) ks_X3_isQuality (List.mem_of_getElem? (i := 3) rfl) ⟨rfl, rfl⟩ ⟨Nat.le_of_ble_eq_true rfl, Nat.le_of_ble_eq_true rfl⟩ ⟨Nat.zero_le _, Nat.zero_le _⟩ rfl rfl (Nat.le_of_ble_eq_true rfl) (lv_sub hl [] rfl) dX1_readQuality_28 (fun H locs hw => ?_)
      refine lv_if_ne (tgt := 36) hx hb dX1_readQuality_31 (by decide) (fun hc => ?_) (fun hc => ?_)
      · replace h := p_f hc h
        refine lv_aload_n hx hb dX1_readQuality_36 rfl (lv_at hl 1 rfl) ?_
        refine lv_iload_n hx hb dX1_readQuality_37 rfl (lv_at hl 2 rfl) ?_
        refine lv_iload_n hx hb dX1_readQuality_38 rfl (lv_at hl 3 rfl) ?_
        refine lv_aload_n hx hb dX1_readQuality_39 rfl (lv_at hl 0 rfl) ?_
        refine w_get C hw (v := .int (z2 13 5)) (k := 5) (wk_tape G z2 m) rfl it_1 (by decide) fl_X1_59 rfl dX1_readQuality_40 ?_
        obtain ⟨z4, hq, h⟩ := p_bd h
        refine w_Vv C hw (As := [.int a2, .int a3, .int (z2 13 5)]) (rest := []) (c2_setQuality l G u hu z2 m a2 a3 (z2 13 5) z4 hq) kv_X2_setQuality ml_X1_91 ⟨rfl, rfl⟩ ⟨Nat.le_of_ble_eq_true rfl, Nat.le_of_ble_eq_true rfl⟩ ⟨Nat.zero_le _, Nat.zero_le _⟩ (w_recv C hw (wk_town G z2 m hu) rfl) rfl rfl (Nat.le_of_ble_eq_true rfl) (lv_sub hl [] rfl) dX1_readQuality_43 (fun H locs hw => ?_)
        refine lv_aload_n hx hb dX1_readQuality_46 rfl (lv_at hl 0 rfl) ?_
        obtain ⟨z5, hq, h⟩ := p_bd h
        refine w_Vv C hw (As := []) (rest := []) (c1_step l G z4 m z5 hq) kv_X1_step ml_X1_22 ⟨rfl, rfl⟩ ⟨Nat.le_of_ble_eq_true rfl, Nat.le_of_ble_eq_true rfl⟩ ⟨Nat.zero_le _, Nat.zero_le _⟩ (w_recv C hw (wk_tape G z4 m) rfl) rfl rfl (Nat.le_of_ble_eq_true rfl) (lv_sub hl [] rfl) dX1_readQuality_47 (fun H locs hw => ?_)
        refine lv_iconst (v := (1 : Int32)) hx hb dX1_readQuality_50 (by decide) ?_
        replace h := Option.some.inj h
        subst h
        exact w_iret C hw (v := (1 : Int32)) rfl rfl dX1_readQuality_51
      · replace h := p_t hc h
        refine lv_iconst (v := (0 : Int32)) hx hb dX1_readQuality_34 (by decide) ?_
        replace h := Option.some.inj h
        subst h
        exact w_iret C hw (v := (0 : Int32)) rfl rfl dX1_readQuality_35
  · replace h := p_t hc h
    refine lv_iconst (v := (1 : Int32)) hx hb dX1_readQuality_9 (by decide) ?_
    replace h := Option.some.inj h
    subst h
    exact w_iret C hw (v := (1 : Int32)) rfl rfl dX1_readQuality_10

def f2_isFull (t : Nat)  (x : St) : Int32 :=
  if (x (1 + 4 * t) 3) < (8 : Int32) then
    (0 : Int32)
  else
    (1 : Int32)
theorem bz_X2_isFull (t : Nat)  (x : St) : f2_isFull t x = 0 ∨ f2_isFull t x = 1 := by
  unfold f2_isFull
  repeat' split
  all_goals first | exact Or.inl rfl | exact Or.inr rfl
set_option maxHeartbeats 4000000 in
set_option maxRecDepth 100000 in
theorem c2_isFull (l : Launch) (G : GT) (t : Nat) (ht : t < 3) (x m : St)  (r : Int32) (h : f2_isFull t x = r) : Mt l yX2_isFull cX2_isFull 1 (some .boolean) (rmF 0 0) G x m [.ref (gq G (1 + 4 * t))] (some (.int r)) x m := by
  refine Mt.of (by decide) (Nat.le_of_ble_eq_true rfl) ?_
  intro p e s mm args below meth c C ls hl hw
  have hx := C.1
  have hb := C.2.1
  have hown := C.2.2.2.2.1
  replace hl : lv_has ls 1 [(0, .ref (gq G (1 + 4 * t)))] := hl
  unfold f2_isFull at h
  refine lv_aload_n hx hb dX2_isFull_0 rfl (lv_at hl 0 rfl) ?_
  refine w_get C hw (v := .int (x (1 + 4 * t) 3)) (k := 3) (wk_town G x m ht) rfl it_2 (by decide) fl_X2_39 rfl dX2_isFull_1 ?_
  refine lv_bipush (v := (8 : Int32)) hx hb dX2_isFull_4 (by decide) ?_
  refine lv_icmp_lt (tgt := 13) hx hb dX2_isFull_6 (by decide) (fun hc => ?_) (fun hc => ?_)
  · replace h := p_t hc h
    refine lv_iconst (v := (0 : Int32)) hx hb dX2_isFull_13 (by decide) ?_
    subst h
    exact w_iret C hw (v := (0 : Int32)) rfl rfl dX2_isFull_14
  · replace h := p_f hc h
    refine lv_iconst (v := (1 : Int32)) hx hb dX2_isFull_9 (by decide) ?_
    refine lv_goto (tgt := 14) hx hb dX2_isFull_10 (by decide) ?_
    subst h
    exact w_iret C hw (v := (1 : Int32)) rfl rfl dX2_isFull_14

def f2_addWhisper (t : Nat) (a1 : Int32) (a2 : Int32) (a3 : Int32) (x : St) : Option (Int32 × St) :=
  if (f2_isFull t x) = 0 then
    (f2_setQuality t (x (1 + 4 * t) 3) (0 : Int32) a1 (up x (1 + 4 * t) 3 ((x (1 + 4 * t) 3) + (1 : Int32)))).bind fun z1 =>
    (f2_setQuality t (x (1 + 4 * t) 3) (1 : Int32) a2 z1).bind fun z2 =>
    (f2_setQuality t (x (1 + 4 * t) 3) (2 : Int32) a3 z2).bind fun z3 =>
    some ((x (1 + 4 * t) 3), z3)
  else
    some ((-1 : Int32), x)
set_option maxHeartbeats 4000000 in
set_option maxRecDepth 100000 in
theorem c2_addWhisper (l : Launch) (G : GT) (t : Nat) (ht : t < 3) (x m : St) (a1 : Int32) (a2 : Int32) (a3 : Int32) (r : Int32 × St) (h : f2_addWhisper t a1 a2 a3 x = some r) : Mt l yX2_addWhisper cX2_addWhisper 5 (some .int) (rmF 2 45) G x m [.ref (gq G (1 + 4 * t)), .int a1, .int a2, .int a3] (some (.int r.1)) r.2 m := by
  refine Mt.of (by decide) (Nat.le_of_ble_eq_true rfl) ?_
  intro p e s mm args below meth c C ls hl hw
  have hx := C.1
  have hb := C.2.1
  have hown := C.2.2.2.2.1
  replace hl : lv_has ls 5 [(0, .ref (gq G (1 + 4 * t))), (1, .int a1), (2, .int a2), (3, .int a3)] := hl
  unfold f2_addWhisper at h
  refine lv_aload_n hx hb dX2_addWhisper_0 rfl (lv_at hl 0 rfl) ?_
  refine w_Vi C hw (As := []) (rest := []) (c2_isFull l G t ht x m _ rfl) kv_X2_isFull ml_X2_55 ⟨rfl, rfl⟩ ⟨Nat.le_of_ble_eq_true rfl, Nat.le_of_ble_eq_true rfl⟩ ⟨Nat.zero_le _, Nat.zero_le _⟩ (w_recv C hw (wk_town G x m ht) rfl) rfl rfl (Nat.le_of_ble_eq_true rfl) (lv_sub hl [] rfl) dX2_addWhisper_1 (fun H locs hw => ?_)
  refine lv_if_eq (tgt := 9) hx hb dX2_addWhisper_4 (by decide) (fun hc => ?_) (fun hc => ?_)
  · replace h := p_t hc h
    refine lv_aload_n hx hb dX2_addWhisper_9 rfl (lv_at hl 0 rfl) ?_
    refine w_get C hw (v := .int (x (1 + 4 * t) 3)) (k := 3) (wk_town G x m ht) rfl it_2 (by decide) fl_X2_39 rfl dX2_addWhisper_10 ?_
    refine lv_istore (lv' := [(4, .int (x (1 + 4 * t) 3)), (0, .ref (gq G (1 + 4 * t))), (1, .int a1), (2, .int a2), (3, .int a3)]) hx hb dX2_addWhisper_13 hl (by decide) rfl (fun ls hl => ?_)
    refine lv_aload_n hx hb dX2_addWhisper_15 rfl (lv_at hl 1 rfl) ?_
    refine lv_dup hx hb dX2_addWhisper_16 rfl ?_
    refine w_get C hw (v := .int (x (1 + 4 * t) 3)) (k := 3) (wk_town G x m ht) rfl it_2 (by decide) fl_X2_39 rfl dX2_addWhisper_17 ?_
    refine lv_iconst (v := (1 : Int32)) hx hb dX2_addWhisper_20 (by decide) ?_
    refine lv_iadd hx hb dX2_addWhisper_21 ?_
    refine w_put C hw (k := 3) tyX2 tyX2_ok nmX2 (wk_town G x m ht) rfl it_2 (by decide) fl_X2_39 rfl (ty := .int) rfl rfl rfl (Nat.le_of_ble_eq_true rfl) (ws_town G x m ht 3 (by decide) _) dX2_addWhisper_22 (fun H locs hw => ?_)
    refine lv_aload_n hx hb dX2_addWhisper_25 rfl (lv_at hl 1 rfl) ?_
    refine lv_iload hx hb dX2_addWhisper_26 (lv_at hl 0 rfl) ?_
    refine lv_iconst (v := (0 : Int32)) hx hb dX2_addWhisper_28 (by decide) ?_
    refine lv_iload_n hx hb dX2_addWhisper_29 rfl (lv_at hl 2 rfl) ?_
    obtain ⟨z1, hq, h⟩ := p_bd h
    refine w_Vv C hw (As := [.int (x (1 + 4 * t) 3), .int (0 : Int32), .int a1]) (rest := []) (c2_setQuality l G t ht (up x (1 + 4 * t) 3 ((x (1 + 4 * t) 3) + (1 : Int32))) m (x (1 + 4 * t) 3) (0 : Int32) a1 z1 hq) kv_X2_setQuality ml_X2_59 ⟨rfl, rfl⟩ ⟨Nat.le_of_ble_eq_true rfl, Nat.le_of_ble_eq_true rfl⟩ ⟨Nat.zero_le _, Nat.zero_le _⟩ (w_recv C hw (wk_town G (up x (1 + 4 * t) 3 ((x (1 + 4 * t) 3) + (1 : Int32))) m ht) rfl) rfl rfl (Nat.le_of_ble_eq_true rfl) (lv_sub hl [] rfl) dX2_addWhisper_30 (fun H locs hw => ?_)
    refine lv_aload_n hx hb dX2_addWhisper_33 rfl (lv_at hl 1 rfl) ?_
    refine lv_iload hx hb dX2_addWhisper_34 (lv_at hl 0 rfl) ?_
    refine lv_iconst (v := (1 : Int32)) hx hb dX2_addWhisper_36 (by decide) ?_
    refine lv_iload_n hx hb dX2_addWhisper_37 rfl (lv_at hl 3 rfl) ?_
    obtain ⟨z2, hq, h⟩ := p_bd h
    refine w_Vv C hw (As := [.int (x (1 + 4 * t) 3), .int (1 : Int32), .int a2]) (rest := []) (c2_setQuality l G t ht z1 m (x (1 + 4 * t) 3) (1 : Int32) a2 z2 hq) kv_X2_setQuality ml_X2_59 ⟨rfl, rfl⟩ ⟨Nat.le_of_ble_eq_true rfl, Nat.le_of_ble_eq_true rfl⟩ ⟨Nat.zero_le _, Nat.zero_le _⟩ (w_recv C hw (wk_town G z1 m ht) rfl) rfl rfl (Nat.le_of_ble_eq_true rfl) (lv_sub hl [] rfl) dX2_addWhisper_38 (fun H locs hw => ?_)
    refine lv_aload_n hx hb dX2_addWhisper_41 rfl (lv_at hl 1 rfl) ?_
    refine lv_iload hx hb dX2_addWhisper_42 (lv_at hl 0 rfl) ?_
    refine lv_iconst (v := (2 : Int32)) hx hb dX2_addWhisper_44 (by decide) ?_
    refine lv_iload_n hx hb dX2_addWhisper_45 rfl (lv_at hl 4 rfl) ?_
    obtain ⟨z3, hq, h⟩ := p_bd h
    refine w_Vv C hw (As := [.int (x (1 + 4 * t) 3), .int (2 : Int32), .int a3]) (rest := []) (c2_setQuality l G t ht z2 m (x (1 + 4 * t) 3) (2 : Int32) a3 z3 hq) kv_X2_setQuality ml_X2_59 ⟨rfl, rfl⟩ ⟨Nat.le_of_ble_eq_true rfl, Nat.le_of_ble_eq_true rfl⟩ ⟨Nat.zero_le _, Nat.zero_le _⟩ (w_recv C hw (wk_town G z2 m ht) rfl) rfl rfl (Nat.le_of_ble_eq_true rfl) (lv_sub hl [] rfl) dX2_addWhisper_46 (fun H locs hw => ?_)
    refine lv_iload hx hb dX2_addWhisper_49 (lv_at hl 0 rfl) ?_
    replace h := Option.some.inj h
    subst h
    exact w_iret C hw (v := (x (1 + 4 * t) 3)) rfl rfl dX2_addWhisper_51
  · replace h := p_f hc h
    refine lv_iconst (v := (-1 : Int32)) hx hb dX2_addWhisper_7 (by decide) ?_
    replace h := Option.some.inj h
    subst h
    exact w_iret C hw (v := (-1 : Int32)) rfl rfl dX2_addWhisper_8

def f1_readWhisper (u : Nat) (a2 : Int32) (x : St) : Option (Int32 × St) :=
  if (f2_isFull u x) = 0 then
    (f2_addWhisper u a2 (0 : Int32) (1 : Int32) x).bind fun q => match q with
    | (v2, z1) =>
      (f1_step z1).bind fun z3 =>
      (f1_readQuality u 7 v2 (1 : Int32) z3).bind fun q => match q with
      | (v5, z4) =>
        if v5 = 0 then
          some ((0 : Int32), z4)
        else
          (f1_readQuality u 8 v2 (2 : Int32) z4).bind fun q => match q with
          | (v7, z6) =>
            if v7 = 0 then
              some ((0 : Int32), z6)
            else
              some ((1 : Int32), z6)
  else
    some ((0 : Int32), x)
set_option maxHeartbeats 4000000 in
set_option maxRecDepth 100000 in
theorem c1_readWhisper (l : Launch) (G : GT) (u : Nat) (hu : u < 3) (x m : St) (a2 : Int32) (r : Int32 × St) (h : f1_readWhisper u a2 x = some r) : Mt l yX1_readWhisper cX1_readWhisper 4 (some .boolean) (rmF 6 131) G x m [.ref (gq G 13), .ref (gq G (1 + 4 * u)), .int a2] (some (.int r.1)) r.2 m := by
  refine Mt.of (by decide) (Nat.le_of_ble_eq_true rfl) ?_
  intro p e s mm args below meth c C ls hl hw
  have hx := C.1
  have hb := C.2.1
  have hown := C.2.2.2.2.1
  replace hl : lv_has ls 4 [(0, .ref (gq G 13)), (1, .ref (gq G (1 + 4 * u))), (2, .int a2)] := hl
  unfold f1_readWhisper at h
  refine lv_aload_n hx hb dX1_readWhisper_0 rfl (lv_at hl 1 rfl) ?_
  refine w_Vi C hw (As := []) (rest := []) (c2_isFull l G u hu x m _ rfl) kv_X2_isFull ml_X1_72 ⟨rfl, rfl⟩ ⟨Nat.le_of_ble_eq_true rfl, Nat.le_of_ble_eq_true rfl⟩ ⟨Nat.zero_le _, Nat.zero_le _⟩ (w_recv C hw (wk_town G x m hu) rfl) rfl rfl (Nat.le_of_ble_eq_true rfl) (lv_sub hl [] rfl) dX1_readWhisper_1 (fun H locs hw => ?_)
  refine lv_if_eq (tgt := 9) hx hb dX1_readWhisper_4 (by decide) (fun hc => ?_) (fun hc => ?_)
  · replace h := p_t hc h
    refine lv_aload_n hx hb dX1_readWhisper_9 rfl (lv_at hl 1 rfl) ?_
    refine lv_iload_n hx hb dX1_readWhisper_10 rfl (lv_at hl 2 rfl) ?_
    refine lv_iconst (v := (0 : Int32)) hx hb dX1_readWhisper_11 (by decide) ?_
    refine lv_iconst (v := (1 : Int32)) hx hb dX1_readWhisper_12 (by decide) ?_
    obtain ⟨⟨v2, z1⟩, hq, h⟩ := p_bd h
    dsimp only at h
    refine w_Vi C hw (As := [.int a2, .int (0 : Int32), .int (1 : Int32)]) (rest := []) (c2_addWhisper l G u hu x m a2 (0 : Int32) (1 : Int32) (v2, z1) hq) kv_X2_addWhisper ml_X1_76 ⟨rfl, rfl⟩ ⟨Nat.le_of_ble_eq_true rfl, Nat.le_of_ble_eq_true rfl⟩ ⟨Nat.zero_le _, Nat.zero_le _⟩ (w_recv C hw (wk_town G x m hu) rfl) rfl rfl (Nat.le_of_ble_eq_true rfl) (lv_sub hl [] rfl) dX1_readWhisper_13 (fun H locs hw => ?_)
    refine lv_istore_n (lv' := [(3, .int v2), (0, .ref (gq G 13)), (1, .ref (gq G (1 + 4 * u))), (2, .int a2)]) hx hb dX1_readWhisper_16 rfl hl (by decide) rfl (fun ls hl => ?_)
    refine lv_aload_n hx hb dX1_readWhisper_17 rfl (lv_at hl 1 rfl) ?_
    obtain ⟨z3, hq, h⟩ := p_bd h
    refine w_Vv C hw (As := []) (rest := []) (c1_step l G z1 m z3 hq) kv_X1_step ml_X1_22 ⟨rfl, rfl⟩ ⟨Nat.le_of_ble_eq_true rfl, Nat.le_of_ble_eq_true rfl⟩ ⟨Nat.zero_le _, Nat.zero_le _⟩ (w_recv C hw (wk_tape G z1 m) rfl) rfl rfl (Nat.le_of_ble_eq_true rfl) (lv_sub hl [] rfl) dX1_readWhisper_18 (fun H locs hw => ?_)
    refine lv_aload_n hx hb dX1_readWhisper_21 rfl (lv_at hl 1 rfl) ?_
    refine lv_aload_n hx hb dX1_readWhisper_22 rfl (lv_at hl 2 rfl) ?_
    refine lv_iload_n hx hb dX1_readWhisper_23 rfl (lv_at hl 0 rfl) ?_
    refine lv_iconst (v := (1 : Int32)) hx hb dX1_readWhisper_24 (by decide) ?_
    refine w_ldcS C (i := 7) (List.mem_of_getElem? (i := 7) rfl) dX1_readWhisper_25 ?_
    obtain ⟨⟨v5, z4⟩, hq, h⟩ := p_bd h
    dsimp only at h
    refine w_Vi C hw (As := [.ref (gq G (1 + 4 * u)), .int v2, .int (1 : Int32), .ref (gK G 7)]) (rest := []) (c1_readQuality l G u hu 7 (by decide) z3 m v2 (1 : Int32) (v5, z4) hq) kv_X1_readQuality ml_X1_82 ⟨rfl, rfl⟩ ⟨Nat.le_of_ble_eq_true rfl, Nat.le_of_ble_eq_true rfl⟩ ⟨Nat.zero_le _, Nat.zero_le _⟩ (w_recv C hw (wk_tape G z3 m) rfl) rfl rfl (Nat.le_of_ble_eq_true rfl) (lv_sub hl [] rfl) dX1_readWhisper_27 (fun H locs hw => ?_)
    refine lv_if_eq (tgt := 49) hx hb dX1_readWhisper_30 (by decide) (fun hc => ?_) (fun hc => ?_)
    · replace h := p_t hc h
      refine lv_iconst (v := (0 : Int32)) hx hb dX1_readWhisper_49 (by decide) ?_
      replace h := Option.some.inj h
      subst h
      exact w_iret C hw (v := (0 : Int32)) rfl rfl dX1_readWhisper_50
    · replace h := p_f hc h
      refine lv_aload_n hx hb dX1_readWhisper_33 rfl (lv_at hl 1 rfl) ?_
      refine lv_aload_n hx hb dX1_readWhisper_34 rfl (lv_at hl 2 rfl) ?_
      refine lv_iload_n hx hb dX1_readWhisper_35 rfl (lv_at hl 0 rfl) ?_
      refine lv_iconst (v := (2 : Int32)) hx hb dX1_readWhisper_36 (by decide) ?_
      refine w_ldcS C (i := 8) (List.mem_of_getElem? (i := 8) rfl) dX1_readWhisper_37 ?_
      obtain ⟨⟨v7, z6⟩, hq, h⟩ := p_bd h
      dsimp only at h
      refine w_Vi C hw (As := [.ref (gq G (1 + 4 * u)), .int v2, .int (2 : Int32), .ref (gK G 8)]) (rest := []) (c1_readQuality l G u hu 8 (by decide) z4 m v2 (2 : Int32) (v7, z6) hq) kv_X1_readQuality ml_X1_82 ⟨rfl, rfl⟩ ⟨Nat.le_of_ble_eq_true rfl, Nat.le_of_ble_eq_true rfl⟩ ⟨Nat.zero_le _, Nat.zero_le _⟩ (w_recv C hw (wk_tape G z4 m) rfl) rfl rfl (Nat.le_of_ble_eq_true rfl) (lv_sub hl [] rfl) dX1_readWhisper_39 (fun H locs hw => ?_)
      refine lv_if_eq (tgt := 49) hx hb dX1_readWhisper_42 (by decide) (fun hc => ?_) (fun hc => ?_)
      · replace h := p_t hc h
        refine lv_iconst (v := (0 : Int32)) hx hb dX1_readWhisper_49 (by decide) ?_
        replace h := Option.some.inj h
        subst h
        exact w_iret C hw (v := (0 : Int32)) rfl rfl dX1_readWhisper_50
      · replace h := p_f hc h
        refine lv_iconst (v := (1 : Int32)) hx hb dX1_readWhisper_45 (by decide) ?_
        refine lv_goto (tgt := 50) hx hb dX1_readWhisper_46 (by decide) ?_
        replace h := Option.some.inj h
        subst h
        exact w_iret C hw (v := (1 : Int32)) rfl rfl dX1_readWhisper_50
  · replace h := p_f hc h
    refine lv_iconst (v := (0 : Int32)) hx hb dX1_readWhisper_7 (by decide) ?_
    replace h := Option.some.inj h
    subst h
    exact w_iret C hw (v := (0 : Int32)) rfl rfl dX1_readWhisper_8

def f1_readItem_b119 (u : Nat)  (w1 : Int32) (x : St) : Option (Int32 × St) :=
  (f1_step (up x (1 + 4 * u) 5 w1)).bind fun z13 =>
  some ((1 : Int32), z13)
def f1_readItem_b104 (u : Nat)   (x : St) : Option (Int32 × St) :=
  (f1_isWord 15 x).bind fun v12 =>
  if v12 = 0 then
    f1_readItem_b119 u (0 : Int32) x
  else
    f1_readItem_b119 u (1 : Int32) x
def f1_readItem_L2 (u : Nat)  : Nat → Int32 → St → Option (Int32 × St)
  | 0, _, _ => none
  | n + 1, b2, x =>
    if (7 : Int32) ≤ b2 then
      (f1_isWord 9 x).bind fun v1 =>
      if v1 = 0 then
        (f1_isWord 14 x).bind fun v2 =>
        if v2 = 0 then
          (f1_isWord 15 x).bind fun v3 =>
          if v3 = 0 then
            (f1_isWord 16 x).bind fun v4 =>
            if v4 = 0 then
              some ((0 : Int32), x)
            else
              f1_readItem_b104 u x
          else
            f1_readItem_b104 u x
        else
          (f1_step x).bind fun z5 =>
          if (f1_isNumber (0 : Int32) (65535 : Int32) z5) = 0 then
            some ((0 : Int32), z5)
          else
            (f1_step (up z5 (1 + 4 * u) 4 (z5 13 5))).bind fun z6 =>
            some ((1 : Int32), z6)
      else
        (f1_readCorner u x).bind fun q => match q with
        | (v8, z7) =>
          if v8 = 0 ∨ v8 = 1 then
            some (v8, z7)
          else none
    else
      (f1_isWord (f1_kindName b2) x).bind fun v9 =>
      if v9 = 0 then
        (f1_readItem_L2 u n) (b2 + (1 : Int32)) x
      else
        (f1_readWhisper u b2 x).bind fun q => match q with
        | (v11, z10) =>
          if v11 = 0 ∨ v11 = 1 then
            some (v11, z10)
          else none
theorem f1_readItem_L2_0 (u : Nat)  (b2 : Int32) (x : St) : f1_readItem_L2 u 0 b2 x = none := rfl
theorem f1_readItem_L2_s (u : Nat)  (n : Nat) (b2 : Int32) (x : St) : f1_readItem_L2 u (n + 1) b2 x =
    if (7 : Int32) ≤ b2 then
      (f1_isWord 9 x).bind fun v1 =>
      if v1 = 0 then
        (f1_isWord 14 x).bind fun v2 =>
        if v2 = 0 then
          (f1_isWord 15 x).bind fun v3 =>
          if v3 = 0 then
            (f1_isWord 16 x).bind fun v4 =>
            if v4 = 0 then
              some ((0 : Int32), x)
            else
              f1_readItem_b104 u x
          else
            f1_readItem_b104 u x
        else
          (f1_step x).bind fun z5 =>
          if (f1_isNumber (0 : Int32) (65535 : Int32) z5) = 0 then
            some ((0 : Int32), z5)
          else
            (f1_step (up z5 (1 + 4 * u) 4 (z5 13 5))).bind fun z6 =>
            some ((1 : Int32), z6)
      else
        (f1_readCorner u x).bind fun q => match q with
        | (v8, z7) =>
          if v8 = 0 ∨ v8 = 1 then
            some (v8, z7)
          else none
    else
      (f1_isWord (f1_kindName b2) x).bind fun v9 =>
      if v9 = 0 then
        (f1_readItem_L2 u n) (b2 + (1 : Int32)) x
      else
        (f1_readWhisper u b2 x).bind fun q => match q with
        | (v11, z10) =>
          if v11 = 0 ∨ v11 = 1 then
            some (v11, z10)
          else none := rfl
def f1_readItem (u : Nat)  (x : St) : Option (Int32 × St) :=
  f1_readItem_L2 u fu (0 : Int32) x
set_option maxHeartbeats 4000000 in
set_option maxRecDepth 100000 in
theorem c1_readItem (l : Launch) (G : GT) (u : Nat) (hu : u < 3) (x m : St)  (r : Int32 × St) (h : f1_readItem u x = some r) : Mt l yX1_readItem cX1_readItem 3 (some .boolean) (rmF 7 154) G x m [.ref (gq G 13), .ref (gq G (1 + 4 * u))] (some (.int r.1)) r.2 m := by
  refine Mt.of (by decide) (Nat.le_of_ble_eq_true rfl) ?_
  intro p e s mm args below meth c C ls hl hw
  have hx := C.1
  have hb := C.2.1
  have hown := C.2.2.2.2.1
  replace hl : lv_has ls 3 [(0, .ref (gq G 13)), (1, .ref (gq G (1 + 4 * u)))] := hl
  have B119 : ∀ (w1 : Int32) (x : St) (H : Heap) (locs : List Loc) (ls : Array Slot), lv_has ls 3 [(0, .ref (gq G 13))] → Wd G s x m H locs → f1_readItem_b119 u w1 x = some r → W p l e (rmF 7 154) s mm args below meth c H locs 0 0 (QE below G (some (.int r.1)) r.2 m args s) (F0 mm 119 ls [.int w1, .ref (gq G (1 + 4 * u))]) := by
    intro w1 x H locs ls hl hw h
    unfold f1_readItem_b119 at h
    refine w_putN C hw (k := 5) tyX2 tyX2_ok nmX2 (wk_town G x m hu) rfl it_2 (by decide) (List.mem_of_getElem? (i := 3) rfl) rfl (ty := .int) rfl rfl rfl (Nat.le_of_ble_eq_true rfl) (ws_town G x m hu 5 (by decide) _) dX1_readItem_119 (fun H locs hw => ?_)
    refine lv_aload_n hx hb dX1_readItem_122 rfl (lv_at hl 0 rfl) ?_
    obtain ⟨z13, hq, h⟩ := p_bd h
    refine w_Vv C hw (As := []) (rest := []) (c1_step l G (up x (1 + 4 * u) 5 w1) m z13 hq) kv_X1_step ml_X1_22 ⟨rfl, rfl⟩ ⟨Nat.le_of_ble_eq_true rfl, Nat.le_of_ble_eq_true rfl⟩ ⟨Nat.zero_le _, Nat.zero_le _⟩ (w_recv C hw (wk_tape G (up x (1 + 4 * u) 5 w1) m) rfl) rfl rfl (Nat.le_of_ble_eq_true rfl) (lv_sub hl [] rfl) dX1_readItem_123 (fun H locs hw => ?_)
    refine lv_iconst (v := (1 : Int32)) hx hb dX1_readItem_126 (by decide) ?_
    replace h := Option.some.inj h
    subst h
    exact w_iret C hw (v := (1 : Int32)) rfl rfl dX1_readItem_127
  have B104 : ∀  (x : St) (H : Heap) (locs : List Loc) (ls : Array Slot), lv_has ls 3 [(0, .ref (gq G 13)), (1, .ref (gq G (1 + 4 * u)))] → Wd G s x m H locs → f1_readItem_b104 u x = some r → W p l e (rmF 7 154) s mm args below meth c H locs 0 0 (QE below G (some (.int r.1)) r.2 m args s) (F0 mm 104 ls []) := by
    intro  x H locs ls hl hw h
    unfold f1_readItem_b104 at h
    refine lv_aload_n hx hb dX1_readItem_104 rfl (lv_at hl 1 rfl) ?_
    refine lv_aload_n hx hb dX1_readItem_105 rfl (lv_at hl 0 rfl) ?_
    refine w_ldcS C (i := 15) (List.mem_of_getElem? (i := 15) rfl) dX1_readItem_106 ?_
    obtain ⟨v12, hq, h⟩ := p_bd h
    refine w_Vi C hw (As := [.ref (gK G 15)]) (rest := [.ref (gq G (1 + 4 * u))]) (c1_isWord l G 15 (by decide) x m v12 hq) kv_X1_isWord ml_X1_39 ⟨rfl, rfl⟩ ⟨Nat.le_of_ble_eq_true rfl, Nat.le_of_ble_eq_true rfl⟩ ⟨Nat.zero_le _, Nat.zero_le _⟩ (w_recv C hw (wk_tape G x m) rfl) rfl rfl (Nat.le_of_ble_eq_true rfl) (lv_sub hl [] rfl) dX1_readItem_108 (fun H locs hw => ?_)
    refine lv_if_eq (tgt := 118) hx hb dX1_readItem_111 (by decide) (fun hc => ?_) (fun hc => ?_)
    · replace h := p_t hc h
      refine lv_iconst (v := (0 : Int32)) hx hb dX1_readItem_118 (by decide) ?_
      exact B119 (0 : Int32) x _ _ _ (lv_sub hl [0] rfl) hw h
    · replace h := p_f hc h
      refine lv_iconst (v := (1 : Int32)) hx hb dX1_readItem_114 (by decide) ?_
      refine lv_goto (tgt := 119) hx hb dX1_readItem_115 (by decide) ?_
      exact B119 (1 : Int32) x _ _ _ (lv_sub hl [0] rfl) hw h
  have L2 : ∀ (n2 : Nat) (b2 : Int32) (x : St) (H : Heap) (locs : List Loc) (ls : Array Slot), lv_has ls 3 [(0, .ref (gq G 13)), (1, .ref (gq G (1 + 4 * u))), (2, .int b2)] → Wd G s x m H locs → f1_readItem_L2 u n2 b2 x = some r → W p l e (rmF 7 154) s mm args below meth c H locs 0 0 (QE below G (some (.int r.1)) r.2 m args s) (F0 mm 2 ls []) := by
    intro n2
    induction n2 with
    | zero =>
      intro b2 x H locs ls hl hw h
      rw [f1_readItem_L2_0] at h
      exact absurd h.symm (Option.some_ne_none _)
    | succ n2 ih2 =>
      intro b2 x H locs ls hl hw h
      rw [f1_readItem_L2_s] at h
      refine lv_iload_n hx hb dX1_readItem_2 rfl (lv_at hl 2 rfl) ?_
      refine lv_bipush (v := (7 : Int32)) hx hb dX1_readItem_3 (by decide) ?_
      refine lv_icmp_ge (tgt := 32) hx hb dX1_readItem_5 (by decide) (fun hc => ?_) (fun hc => ?_)
      · replace h := p_t hc h
        refine lv_aload_n hx hb dX1_readItem_32 rfl (lv_at hl 0 rfl) ?_
        refine w_ldcS C (i := 9) (List.mem_of_getElem? (i := 9) rfl) dX1_readItem_33 ?_
        obtain ⟨v1, hq, h⟩ := p_bd h
        refine w_Vi C hw (As := [.ref (gK G 9)]) (rest := []) (c1_isWord l G 9 (by decide) x m v1 hq) kv_X1_isWord ml_X1_39 ⟨rfl, rfl⟩ ⟨Nat.le_of_ble_eq_true rfl, Nat.le_of_ble_eq_true rfl⟩ ⟨Nat.zero_le _, Nat.zero_le _⟩ (w_recv C hw (wk_tape G x m) rfl) rfl rfl (Nat.le_of_ble_eq_true rfl) (lv_sub hl [] rfl) dX1_readItem_35 (fun H locs hw => ?_)
        refine lv_if_eq (tgt := 47) hx hb dX1_readItem_38 (by decide) (fun hc => ?_) (fun hc => ?_)
        · replace h := p_t hc h
          refine lv_aload_n hx hb dX1_readItem_47 rfl (lv_at hl 0 rfl) ?_
          refine w_ldcS C (i := 14) (List.mem_of_getElem? (i := 14) rfl) dX1_readItem_48 ?_
          obtain ⟨v2, hq, h⟩ := p_bd h
          refine w_Vi C hw (As := [.ref (gK G 14)]) (rest := []) (c1_isWord l G 14 (by decide) x m v2 hq) kv_X1_isWord ml_X1_39 ⟨rfl, rfl⟩ ⟨Nat.le_of_ble_eq_true rfl, Nat.le_of_ble_eq_true rfl⟩ ⟨Nat.zero_le _, Nat.zero_le _⟩ (w_recv C hw (wk_tape G x m) rfl) rfl rfl (Nat.le_of_ble_eq_true rfl) (lv_sub hl [] rfl) dX1_readItem_50 (fun H locs hw => ?_)
          refine lv_if_eq (tgt := 86) hx hb dX1_readItem_53 (by decide) (fun hc => ?_) (fun hc => ?_)
          · replace h := p_t hc h
            refine lv_aload_n hx hb dX1_readItem_86 rfl (lv_at hl 0 rfl) ?_
            refine w_ldcS C (i := 15) (List.mem_of_getElem? (i := 15) rfl) dX1_readItem_87 ?_
            obtain ⟨v3, hq, h⟩ := p_bd h
            refine w_Vi C hw (As := [.ref (gK G 15)]) (rest := []) (c1_isWord l G 15 (by decide) x m v3 hq) kv_X1_isWord ml_X1_39 ⟨rfl, rfl⟩ ⟨Nat.le_of_ble_eq_true rfl, Nat.le_of_ble_eq_true rfl⟩ ⟨Nat.zero_le _, Nat.zero_le _⟩ (w_recv C hw (wk_tape G x m) rfl) rfl rfl (Nat.le_of_ble_eq_true rfl) (lv_sub hl [] rfl) dX1_readItem_89 (fun H locs hw => ?_)
            refine lv_if_ne (tgt := 104) hx hb dX1_readItem_92 (by decide) (fun hc => ?_) (fun hc => ?_)
            · replace h := p_f hc h
              exact B104 x _ _ _ (lv_sub hl [0, 1] rfl) hw h
            · replace h := p_t hc h
              refine lv_aload_n hx hb dX1_readItem_95 rfl (lv_at hl 0 rfl) ?_
              refine w_ldcS C (i := 16) (List.mem_of_getElem? (i := 16) rfl) dX1_readItem_96 ?_
              obtain ⟨v4, hq, h⟩ := p_bd h
              refine w_Vi C hw (As := [.ref (gK G 16)]) (rest := []) (c1_isWord l G 16 (by decide) x m v4 hq) kv_X1_isWord ml_X1_39 ⟨rfl, rfl⟩ ⟨Nat.le_of_ble_eq_true rfl, Nat.le_of_ble_eq_true rfl⟩ ⟨Nat.zero_le _, Nat.zero_le _⟩ (w_recv C hw (wk_tape G x m) rfl) rfl rfl (Nat.le_of_ble_eq_true rfl) (lv_sub hl [] rfl) dX1_readItem_98 (fun H locs hw => ?_)
              refine lv_if_eq (tgt := 128) hx hb dX1_readItem_101 (by decide) (fun hc => ?_) (fun hc => ?_)
              · replace h := p_t hc h
                refine lv_iconst (v := (0 : Int32)) hx hb dX1_readItem_128 (by decide) ?_
                replace h := Option.some.inj h
                subst h
                exact w_iret C hw (v := (0 : Int32)) rfl rfl dX1_readItem_129
              · replace h := p_f hc h
                exact B104 x _ _ _ (lv_sub hl [0, 1] rfl) hw h
          · replace h := p_f hc h
            refine lv_aload_n hx hb dX1_readItem_56 rfl (lv_at hl 0 rfl) ?_
            obtain ⟨z5, hq, h⟩ := p_bd h
            refine w_Vv C hw (As := []) (rest := []) (c1_step l G x m z5 hq) kv_X1_step ml_X1_22 ⟨rfl, rfl⟩ ⟨Nat.le_of_ble_eq_true rfl, Nat.le_of_ble_eq_true rfl⟩ ⟨Nat.zero_le _, Nat.zero_le _⟩ (w_recv C hw (wk_tape G x m) rfl) rfl rfl (Nat.le_of_ble_eq_true rfl) (lv_sub hl [] rfl) dX1_readItem_57 (fun H locs hw => ?_)
            refine lv_aload_n hx hb dX1_readItem_60 rfl (lv_at hl 0 rfl) ?_
            refine lv_iconst (v := (0 : Int32)) hx hb dX1_readItem_61 (by decide) ?_
            refine lv_ldc hx hb hown (C.w kc_X1_54) dX1_readItem_62 ?_
            refine w_Vi C hw (As := [.int (0 : Int32), .int (65535 : Int32)]) (rest := []) (c1_isNumber l G z5 m (0 : Int32) (65535 : Int32) _ rfl) kv_X1_isNumber ml_X1_55 ⟨rfl, rfl⟩ ⟨Nat.le_of_ble_eq_true rfl, Nat.le_of_ble_eq_true rfl⟩ ⟨Nat.zero_le _, Nat.zero_le _⟩ (w_recv C hw (wk_tape G z5 m) rfl) rfl rfl (Nat.le_of_ble_eq_true rfl) (lv_sub hl [] rfl) dX1_readItem_64 (fun H locs hw => ?_)
            refine lv_if_ne (tgt := 72) hx hb dX1_readItem_67 (by decide) (fun hc => ?_) (fun hc => ?_)
            · replace h := p_f hc h
              refine lv_aload_n hx hb dX1_readItem_72 rfl (lv_at hl 1 rfl) ?_
              refine lv_aload_n hx hb dX1_readItem_73 rfl (lv_at hl 0 rfl) ?_
              refine w_get C hw (v := .int (z5 13 5)) (k := 5) (wk_tape G z5 m) rfl it_1 (by decide) fl_X1_59 rfl dX1_readItem_74 ?_
              refine w_putN C hw (k := 4) tyX2 tyX2_ok nmX2 (wk_town G z5 m hu) rfl it_2 (by decide) (List.mem_of_getElem? (i := 1) rfl) rfl (ty := .int) rfl rfl rfl (Nat.le_of_ble_eq_true rfl) (ws_town G z5 m hu 4 (by decide) _) dX1_readItem_77 (fun H locs hw => ?_)
              refine lv_aload_n hx hb dX1_readItem_80 rfl (lv_at hl 0 rfl) ?_
              obtain ⟨z6, hq, h⟩ := p_bd h
              refine w_Vv C hw (As := []) (rest := []) (c1_step l G (up z5 (1 + 4 * u) 4 (z5 13 5)) m z6 hq) kv_X1_step ml_X1_22 ⟨rfl, rfl⟩ ⟨Nat.le_of_ble_eq_true rfl, Nat.le_of_ble_eq_true rfl⟩ ⟨Nat.zero_le _, Nat.zero_le _⟩ (w_recv C hw (wk_tape G (up z5 (1 + 4 * u) 4 (z5 13 5)) m) rfl) rfl rfl (Nat.le_of_ble_eq_true rfl) (lv_sub hl [] rfl) dX1_readItem_81 (fun H locs hw => ?_)
              refine lv_iconst (v := (1 : Int32)) hx hb dX1_readItem_84 (by decide) ?_
              replace h := Option.some.inj h
              subst h
              exact w_iret C hw (v := (1 : Int32)) rfl rfl dX1_readItem_85
            · replace h := p_t hc h
              refine lv_iconst (v := (0 : Int32)) hx hb dX1_readItem_70 (by decide) ?_
              replace h := Option.some.inj h
              subst h
              exact w_iret C hw (v := (0 : Int32)) rfl rfl dX1_readItem_71
        · replace h := p_f hc h
          refine lv_aload_n hx hb dX1_readItem_41 rfl (lv_at hl 0 rfl) ?_
          refine lv_aload_n hx hb dX1_readItem_42 rfl (lv_at hl 1 rfl) ?_
          obtain ⟨⟨v8, z7⟩, hq, h⟩ := p_bd h
          dsimp only at h
          refine w_Vi C hw (As := [.ref (gq G (1 + 4 * u))]) (rest := []) (c1_readCorner l G u hu x m (v8, z7) hq) kv_X1_readCorner ml_X1_49 ⟨rfl, rfl⟩ ⟨Nat.le_of_ble_eq_true rfl, Nat.le_of_ble_eq_true rfl⟩ ⟨Nat.zero_le _, Nat.zero_le _⟩ (w_recv C hw (wk_tape G x m) rfl) rfl rfl (Nat.le_of_ble_eq_true rfl) (lv_sub hl [] rfl) dX1_readItem_43 (fun H locs hw => ?_)
          obtain ⟨hq, h⟩ := p_ck h
          replace h := Option.some.inj h
          subst h
          exact w_iret C hw (v := v8) rfl (nz_b hq) dX1_readItem_46
      · replace h := p_f hc h
        refine lv_aload_n hx hb dX1_readItem_8 rfl (lv_at hl 0 rfl) ?_
        refine lv_iload_n hx hb dX1_readItem_9 rfl (lv_at hl 2 rfl) ?_
        refine w_Sa C hw (As := [.int b2]) (rest := [.ref (gq G 13)]) (c1_kindName l G x m b2 _ rfl) ks_X1_kindName ml_X1_35 ⟨rfl, rfl⟩ ⟨Nat.le_of_ble_eq_true rfl, Nat.le_of_ble_eq_true rfl⟩ ⟨Nat.zero_le _, Nat.zero_le _⟩ rfl rfl (Nat.le_of_ble_eq_true rfl) (lv_sub hl [] rfl) dX1_readItem_10 (fun H locs hw => ?_)
        obtain ⟨v9, hq, h⟩ := p_bd h
        refine w_Vi C hw (As := [.ref (gK G (f1_kindName b2))]) (rest := []) (c1_isWord l G (f1_kindName b2) (hs_X1_kindName b2) x m v9 hq) kv_X1_isWord ml_X1_39 ⟨rfl, rfl⟩ ⟨Nat.le_of_ble_eq_true rfl, Nat.le_of_ble_eq_true rfl⟩ ⟨Nat.zero_le _, Nat.zero_le _⟩ (w_recv C hw (wk_tape G x m) rfl) rfl rfl (Nat.le_of_ble_eq_true rfl) (lv_sub hl [] rfl) dX1_readItem_13 (fun H locs hw => ?_)
        refine lv_if_eq (tgt := 26) hx hb dX1_readItem_16 (by decide) (fun hc => ?_) (fun hc => ?_)
        · replace h := p_t hc h
          refine lv_iinc (v := (b2 + (1 : Int32))) (lv' := [(2, .int (b2 + (1 : Int32))), (0, .ref (gq G 13)), (1, .ref (gq G (1 + 4 * u)))]) hx hb dX1_readItem_26 hl (k := 2) rfl rfl (by decide) rfl (fun ls hl => ?_)
          refine lv_goto (tgt := 2) hx hb dX1_readItem_29 (by decide) ?_
          exact ih2 (b2 + (1 : Int32)) x _ _ _ (lv_sub hl [1, 2, 0] rfl) hw h
        · replace h := p_f hc h
          refine lv_aload_n hx hb dX1_readItem_19 rfl (lv_at hl 0 rfl) ?_
          refine lv_aload_n hx hb dX1_readItem_20 rfl (lv_at hl 1 rfl) ?_
          refine lv_iload_n hx hb dX1_readItem_21 rfl (lv_at hl 2 rfl) ?_
          obtain ⟨⟨v11, z10⟩, hq, h⟩ := p_bd h
          dsimp only at h
          refine w_Vi C hw (As := [.ref (gq G (1 + 4 * u)), .int b2]) (rest := []) (c1_readWhisper l G u hu x m b2 (v11, z10) hq) kv_X1_readWhisper ml_X1_43 ⟨rfl, rfl⟩ ⟨Nat.le_of_ble_eq_true rfl, Nat.le_of_ble_eq_true rfl⟩ ⟨Nat.zero_le _, Nat.zero_le _⟩ (w_recv C hw (wk_tape G x m) rfl) rfl rfl (Nat.le_of_ble_eq_true rfl) (lv_sub hl [] rfl) dX1_readItem_22 (fun H locs hw => ?_)
          obtain ⟨hq, h⟩ := p_ck h
          replace h := Option.some.inj h
          subst h
          exact w_iret C hw (v := v11) rfl (nz_b hq) dX1_readItem_25
  unfold f1_readItem at h
  refine lv_iconst (v := (0 : Int32)) hx hb dX1_readItem_0 (by decide) ?_
  refine lv_istore_n (lv' := [(2, .int (0 : Int32)), (0, .ref (gq G 13)), (1, .ref (gq G (1 + 4 * u)))]) hx hb dX1_readItem_1 rfl hl (by decide) rfl (fun ls hl => ?_)
  exact L2 fu (0 : Int32) x _ _ _ (lv_sub hl [1, 2, 0] rfl) hw h

def f1_readItems_b58 (u : Nat)   (x : St) : Option (Int32 × St) :=
  some (((-1 : Int32) - (x 13 3)), x)
def f1_readItems_L11 (u : Nat)  : Nat → Int32 → St → Option (Int32 × St)
  | 0, _, _ => none
  | n + 1, b2, x =>
    if (120 : Int32) < b2 then
      f1_readItems_b58 u x
    else
      (f1_readItem u x).bind fun q => match q with
      | (v3, z2) =>
        if v3 = 0 then
          f1_readItems_b58 u z2
        else
          if (z2 13 2) = 0 then
            some (b2, z2)
          else
            if (z2 13 2) = (3 : Int32) then
              (f1_step z2).bind fun z4 =>
              (f1_readItems_L11 u n) (b2 + (1 : Int32)) z4
            else
              f1_readItems_b58 u z2
theorem f1_readItems_L11_0 (u : Nat)  (b2 : Int32) (x : St) : f1_readItems_L11 u 0 b2 x = none := rfl
theorem f1_readItems_L11_s (u : Nat)  (n : Nat) (b2 : Int32) (x : St) : f1_readItems_L11 u (n + 1) b2 x =
    if (120 : Int32) < b2 then
      f1_readItems_b58 u x
    else
      (f1_readItem u x).bind fun q => match q with
      | (v3, z2) =>
        if v3 = 0 then
          f1_readItems_b58 u z2
        else
          if (z2 13 2) = 0 then
            some (b2, z2)
          else
            if (z2 13 2) = (3 : Int32) then
              (f1_step z2).bind fun z4 =>
              (f1_readItems_L11 u n) (b2 + (1 : Int32)) z4
            else
              f1_readItems_b58 u z2 := rfl
def f1_readItems (u : Nat)  (x : St) : Option (Int32 × St) :=
  (f1_step (up x 13 4 (0 : Int32))).bind fun z1 =>
  f1_readItems_L11 u fu (1 : Int32) z1
set_option maxHeartbeats 4000000 in
set_option maxRecDepth 100000 in
theorem c1_readItems (l : Launch) (G : GT) (u : Nat) (hu : u < 3) (x m : St)  (r : Int32 × St) (h : f1_readItems u x = some r) : Mt l yX1_readItems cX1_readItems 3 (some .int) (rmF 8 176) G x m [.ref (gq G 13), .ref (gq G (1 + 4 * u))] (some (.int r.1)) r.2 m := by
  refine Mt.of (by decide) (Nat.le_of_ble_eq_true rfl) ?_
  intro p e s mm args below meth c C ls hl hw
  have hx := C.1
  have hb := C.2.1
  have hown := C.2.2.2.2.1
  replace hl : lv_has ls 3 [(0, .ref (gq G 13)), (1, .ref (gq G (1 + 4 * u)))] := hl
  have B58 : ∀  (x : St) (H : Heap) (locs : List Loc) (ls : Array Slot), lv_has ls 3 [(0, .ref (gq G 13))] → Wd G s x m H locs → f1_readItems_b58 u x = some r → W p l e (rmF 8 176) s mm args below meth c H locs 0 0 (QE below G (some (.int r.1)) r.2 m args s) (F0 mm 58 ls []) := by
    intro  x H locs ls hl hw h
    unfold f1_readItems_b58 at h
    refine lv_iconst (v := (-1 : Int32)) hx hb dX1_readItems_58 (by decide) ?_
    refine lv_aload_n hx hb dX1_readItems_59 rfl (lv_at hl 0 rfl) ?_
    refine w_get C hw (v := .int (x 13 3)) (k := 3) (wk_tape G x m) rfl it_1 (by decide) fl_X1_32 rfl dX1_readItems_60 ?_
    refine lv_isub hx hb dX1_readItems_63 ?_
    replace h := Option.some.inj h
    subst h
    exact w_iret C hw (v := ((-1 : Int32) - (x 13 3))) rfl rfl dX1_readItems_64
  have L11 : ∀ (n11 : Nat) (b2 : Int32) (x : St) (H : Heap) (locs : List Loc) (ls : Array Slot), lv_has ls 3 [(0, .ref (gq G 13)), (1, .ref (gq G (1 + 4 * u))), (2, .int b2)] → Wd G s x m H locs → f1_readItems_L11 u n11 b2 x = some r → W p l e (rmF 8 176) s mm args below meth c H locs 0 0 (QE below G (some (.int r.1)) r.2 m args s) (F0 mm 11 ls []) := by
    intro n11
    induction n11 with
    | zero =>
      intro b2 x H locs ls hl hw h
      rw [f1_readItems_L11_0] at h
      exact absurd h.symm (Option.some_ne_none _)
    | succ n11 ih11 =>
      intro b2 x H locs ls hl hw h
      rw [f1_readItems_L11_s] at h
      refine lv_iload_n hx hb dX1_readItems_11 rfl (lv_at hl 2 rfl) ?_
      refine lv_bipush (v := (120 : Int32)) hx hb dX1_readItems_12 (by decide) ?_
      refine lv_icmp_gt (tgt := 58) hx hb dX1_readItems_14 (by decide) (fun hc => ?_) (fun hc => ?_)
      · replace h := p_t hc h
        exact B58 x _ _ _ (lv_sub hl [0] rfl) hw h
      · replace h := p_f hc h
        refine lv_aload_n hx hb dX1_readItems_17 rfl (lv_at hl 0 rfl) ?_
        refine lv_aload_n hx hb dX1_readItems_18 rfl (lv_at hl 1 rfl) ?_
        obtain ⟨⟨v3, z2⟩, hq, h⟩ := p_bd h
        dsimp only at h
        refine w_Vi C hw (As := [.ref (gq G (1 + 4 * u))]) (rest := []) (c1_readItem l G u hu x m (v3, z2) hq) kv_X1_readItem ml_X1_25 ⟨rfl, rfl⟩ ⟨Nat.le_of_ble_eq_true rfl, Nat.le_of_ble_eq_true rfl⟩ ⟨Nat.zero_le _, Nat.zero_le _⟩ (w_recv C hw (wk_tape G x m) rfl) rfl rfl (Nat.le_of_ble_eq_true rfl) (lv_sub hl [] rfl) dX1_readItems_19 (fun H locs hw => ?_)
        refine lv_if_ne (tgt := 28) hx hb dX1_readItems_22 (by decide) (fun hc => ?_) (fun hc => ?_)
        · replace h := p_f hc h
          refine lv_aload_n hx hb dX1_readItems_28 rfl (lv_at hl 0 rfl) ?_
          refine w_get C hw (v := .int (z2 13 2)) (k := 2) (wk_tape G z2 m) rfl it_1 (by decide) fl_X1_29 rfl dX1_readItems_29 ?_
          refine lv_if_ne (tgt := 37) hx hb dX1_readItems_32 (by decide) (fun hc => ?_) (fun hc => ?_)
          · replace h := p_f hc h
            refine lv_aload_n hx hb dX1_readItems_37 rfl (lv_at hl 0 rfl) ?_
            refine w_get C hw (v := .int (z2 13 2)) (k := 2) (wk_tape G z2 m) rfl it_1 (by decide) fl_X1_29 rfl dX1_readItems_38 ?_
            refine lv_iconst (v := (3 : Int32)) hx hb dX1_readItems_41 (by decide) ?_
            refine lv_icmp_eq (tgt := 48) hx hb dX1_readItems_42 (by decide) (fun hc => ?_) (fun hc => ?_)
            · replace h := p_t hc h
              refine lv_aload_n hx hb dX1_readItems_48 rfl (lv_at hl 0 rfl) ?_
              obtain ⟨z4, hq, h⟩ := p_bd h
              refine w_Vv C hw (As := []) (rest := []) (c1_step l G z2 m z4 hq) kv_X1_step ml_X1_22 ⟨rfl, rfl⟩ ⟨Nat.le_of_ble_eq_true rfl, Nat.le_of_ble_eq_true rfl⟩ ⟨Nat.zero_le _, Nat.zero_le _⟩ (w_recv C hw (wk_tape G z2 m) rfl) rfl rfl (Nat.le_of_ble_eq_true rfl) (lv_sub hl [] rfl) dX1_readItems_49 (fun H locs hw => ?_)
              refine lv_iinc (v := (b2 + (1 : Int32))) (lv' := [(2, .int (b2 + (1 : Int32))), (0, .ref (gq G 13)), (1, .ref (gq G (1 + 4 * u)))]) hx hb dX1_readItems_52 hl (k := 2) rfl rfl (by decide) rfl (fun ls hl => ?_)
              refine lv_goto (tgt := 11) hx hb dX1_readItems_55 (by decide) ?_
              exact ih11 (b2 + (1 : Int32)) z4 _ _ _ (lv_sub hl [1, 2, 0] rfl) hw h
            · replace h := p_f hc h
              refine lv_goto (tgt := 58) hx hb dX1_readItems_45 (by decide) ?_
              exact B58 z2 _ _ _ (lv_sub hl [0] rfl) hw h
          · replace h := p_t hc h
            refine lv_iload_n hx hb dX1_readItems_35 rfl (lv_at hl 2 rfl) ?_
            replace h := Option.some.inj h
            subst h
            exact w_iret C hw (v := b2) rfl rfl dX1_readItems_36
        · replace h := p_t hc h
          refine lv_goto (tgt := 58) hx hb dX1_readItems_25 (by decide) ?_
          exact B58 z2 _ _ _ (lv_sub hl [0] rfl) hw h
  unfold f1_readItems at h
  refine lv_aload_n hx hb dX1_readItems_0 rfl (lv_at hl 0 rfl) ?_
  refine lv_iconst (v := (0 : Int32)) hx hb dX1_readItems_1 (by decide) ?_
  refine w_put C hw (k := 4) tyX1 tyX1_ok nmX1 (wk_tape G x m) rfl it_1 (by decide) fl_X1_19 rfl (ty := .int) rfl rfl rfl (Nat.le_of_ble_eq_true rfl) (ws_tape_4 G x m _) dX1_readItems_2 (fun H locs hw => ?_)
  refine lv_aload_n hx hb dX1_readItems_5 rfl (lv_at hl 0 rfl) ?_
  obtain ⟨z1, hq, h⟩ := p_bd h
  refine w_Vv C hw (As := []) (rest := []) (c1_step l G (up x 13 4 (0 : Int32)) m z1 hq) kv_X1_step ml_X1_22 ⟨rfl, rfl⟩ ⟨Nat.le_of_ble_eq_true rfl, Nat.le_of_ble_eq_true rfl⟩ ⟨Nat.zero_le _, Nat.zero_le _⟩ (w_recv C hw (wk_tape G (up x 13 4 (0 : Int32)) m) rfl) rfl rfl (Nat.le_of_ble_eq_true rfl) (lv_sub hl [] rfl) dX1_readItems_6 (fun H locs hw => ?_)
  refine lv_iconst (v := (1 : Int32)) hx hb dX1_readItems_9 (by decide) ?_
  refine lv_istore_n (lv' := [(2, .int (1 : Int32)), (0, .ref (gq G 13)), (1, .ref (gq G (1 + 4 * u)))]) hx hb dX1_readItems_10 rfl hl (by decide) rfl (fun ls hl => ?_)
  exact L11 fu (1 : Int32) z1 _ _ _ (lv_sub hl [1, 2, 0] rfl) hw h

def f3_copyRow (kc1 : Nat) (ln1 : Nat) (kc2 : Nat) (ln2 : Nat)  (x : St) : Option (St) :=
  if (0 : Int32) < 0 ∨ (0 : Int32) < 0 ∨ (if (Int32.ofNat ln2) < (Int32.ofNat ln1) then (Int32.ofNat ln2) else (Int32.ofNat ln1)) < 0 ∨ ln1 < (0 : Int32).toNatClampNeg + (if (Int32.ofNat ln2) < (Int32.ofNat ln1) then (Int32.ofNat ln2) else (Int32.ofNat ln1)).toNatClampNeg ∨ ln2 < (0 : Int32).toNatClampNeg + (if (Int32.ofNat ln2) < (Int32.ofNat ln1) then (Int32.ofNat ln2) else (Int32.ofNat ln1)).toNatClampNeg then none else
  some (uR x kc2 (va_cpy (x kc1) (x kc2) (0 : Int32).toNatClampNeg (0 : Int32).toNatClampNeg (if (Int32.ofNat ln2) < (Int32.ofNat ln1) then (Int32.ofNat ln2) else (Int32.ofNat ln1)).toNatClampNeg))
set_option maxHeartbeats 4000000 in
set_option maxRecDepth 100000 in
theorem c3_copyRow (l : Launch) (G : GT) (kc1 : Nat) (ln1 : Nat) (hkc1 : AX kc1 ln1) (kc2 : Nat) (ln2 : Nat) (hkc2 : AX kc2 ln2) (x m : St)  (r : St) (h : f3_copyRow kc1 ln1 kc2 ln2 x = some r) : Mt l yX3_copyRow cX3_copyRow 2 none (rmF 1 60) G x m [.ref (gq G kc1), .ref (gq G kc2)] none r m := by
  refine Mt.of (by decide) (Nat.le_of_ble_eq_true rfl) ?_
  intro p e s mm args below meth c C ls hl hw
  have hx := C.1
  have hb := C.2.1
  have hown := C.2.2.2.2.1
  replace hl : lv_has ls 2 [(0, .ref (gq G kc1)), (1, .ref (gq G kc2))] := hl
  unfold f3_copyRow at h
  refine lv_aload_n hx hb dX3_copyRow_0 rfl (lv_at hl 0 rfl) ?_
  refine lv_iconst (v := (0 : Int32)) hx hb dX3_copyRow_1 (by decide) ?_
  refine lv_aload_n hx hb dX3_copyRow_2 rfl (lv_at hl 1 rfl) ?_
  refine lv_iconst (v := (0 : Int32)) hx hb dX3_copyRow_3 (by decide) ?_
  refine lv_aload_n hx hb dX3_copyRow_4 rfl (lv_at hl 0 rfl) ?_
  refine w_alen C hw (v := (Int32.ofNat ln1)) (hkc1 G x m).1 rfl dX3_copyRow_5 ?_
  refine lv_aload_n hx hb dX3_copyRow_6 rfl (lv_at hl 1 rfl) ?_
  refine w_alen C hw (v := (Int32.ofNat ln2)) (hkc2 G x m).1 rfl dX3_copyRow_7 ?_
  refine w_min C (lv_sub hl [] rfl) ml_X3_284 k_min ⟨Nat.le_of_ble_eq_true rfl, Nat.le_of_ble_eq_true rfl⟩ ⟨Nat.zero_le _, Nat.zero_le _⟩ (Nat.le_of_ble_eq_true rfl) dX3_copyRow_8 ?_
  obtain ⟨hq, h⟩ := p_if h
  refine w_copy C hw (lv_sub hl [] rfl) hkc1 hkc2 hq ml_X3_252 ⟨Nat.le_of_ble_eq_true rfl, Nat.le_of_ble_eq_true rfl⟩  (Nat.le_of_ble_eq_true rfl) dX3_copyRow_11 (fun H locs hw => ?_)
  replace h := Option.some.inj h
  subst h
  exact w_vret C hw rfl dX3_copyRow_14

def f2_become (t : Nat) (u : Nat)  (x : St) : Option (St) :=
  (f3_copyRow (2 + 4 * u) 80 (2 + 4 * t) 80 x).bind fun z1 =>
  (f3_copyRow (3 + 4 * u) 24 (3 + 4 * t) 24 z1).bind fun z2 =>
  (f3_copyRow (4 + 4 * u) 10 (4 + 4 * t) 10 z2).bind fun z3 =>
  some (up (up (up (up (up z3 (1 + 4 * t) 3 (z3 (1 + 4 * u) 3)) (1 + 4 * t) 4 ((up z3 (1 + 4 * t) 3 (z3 (1 + 4 * u) 3)) (1 + 4 * u) 4)) (1 + 4 * t) 5 ((up (up z3 (1 + 4 * t) 3 (z3 (1 + 4 * u) 3)) (1 + 4 * t) 4 ((up z3 (1 + 4 * t) 3 (z3 (1 + 4 * u) 3)) (1 + 4 * u) 4)) (1 + 4 * u) 5)) (1 + 4 * t) 6 ((up (up (up z3 (1 + 4 * t) 3 (z3 (1 + 4 * u) 3)) (1 + 4 * t) 4 ((up z3 (1 + 4 * t) 3 (z3 (1 + 4 * u) 3)) (1 + 4 * u) 4)) (1 + 4 * t) 5 ((up (up z3 (1 + 4 * t) 3 (z3 (1 + 4 * u) 3)) (1 + 4 * t) 4 ((up z3 (1 + 4 * t) 3 (z3 (1 + 4 * u) 3)) (1 + 4 * u) 4)) (1 + 4 * u) 5)) (1 + 4 * u) 6)) (1 + 4 * t) 7 ((up (up (up (up z3 (1 + 4 * t) 3 (z3 (1 + 4 * u) 3)) (1 + 4 * t) 4 ((up z3 (1 + 4 * t) 3 (z3 (1 + 4 * u) 3)) (1 + 4 * u) 4)) (1 + 4 * t) 5 ((up (up z3 (1 + 4 * t) 3 (z3 (1 + 4 * u) 3)) (1 + 4 * t) 4 ((up z3 (1 + 4 * t) 3 (z3 (1 + 4 * u) 3)) (1 + 4 * u) 4)) (1 + 4 * u) 5)) (1 + 4 * t) 6 ((up (up (up z3 (1 + 4 * t) 3 (z3 (1 + 4 * u) 3)) (1 + 4 * t) 4 ((up z3 (1 + 4 * t) 3 (z3 (1 + 4 * u) 3)) (1 + 4 * u) 4)) (1 + 4 * t) 5 ((up (up z3 (1 + 4 * t) 3 (z3 (1 + 4 * u) 3)) (1 + 4 * t) 4 ((up z3 (1 + 4 * t) 3 (z3 (1 + 4 * u) 3)) (1 + 4 * u) 4)) (1 + 4 * u) 5)) (1 + 4 * u) 6)) (1 + 4 * u) 7))
set_option maxHeartbeats 4000000 in
set_option maxRecDepth 100000 in
theorem c2_become (l : Launch) (G : GT) (t : Nat) (ht : t < 3) (u : Nat) (hu : u < 3) (x m : St)  (r : St) (h : f2_become t u x = some r) : Mt l yX2_become cX2_become 2 none (rmF 2 81) G x m [.ref (gq G (1 + 4 * t)), .ref (gq G (1 + 4 * u))] none r m := by
  refine Mt.of (by decide) (Nat.le_of_ble_eq_true rfl) ?_
  intro p e s mm args below meth c C ls hl hw
  have hx := C.1
  have hb := C.2.1
  have hown := C.2.2.2.2.1
  replace hl : lv_has ls 2 [(0, .ref (gq G (1 + 4 * t))), (1, .ref (gq G (1 + 4 * u)))] := hl
  unfold f2_become at h
  refine lv_aload_n hx hb dX2_become_0 rfl (lv_at hl 1 rfl) ?_
  refine w_get C hw (v := .ref (gq G (2 + 4 * u))) (k := 0) (wk_town G x m hu) rfl it_2 (by decide) fl_X2_9 rfl dX2_become_1 ?_
  refine lv_aload_n hx hb dX2_become_4 rfl (lv_at hl 0 rfl) ?_
  refine w_get C hw (v := .ref (gq G (2 + 4 * t))) (k := 0) (wk_town G x m ht) rfl it_2 (by decide) fl_X2_9 rfl dX2_become_5 ?_
  obtain ⟨z1, hq, h⟩ := p_bd h
  refine w_SNv C hw (As := [.ref (gq G (2 + 4 * u)), .ref (gq G (2 + 4 * t))]) (rest := []) (c3_copyRow l G (2 + 4 * u) 80 (ax_tr hu) (2 + 4 * t) 80 (ax_tr ht) x m z1 hq) ks_X3_copyRow (List.mem_of_getElem? (i := 2) rfl) ⟨rfl, rfl⟩ ⟨Nat.le_of_ble_eq_true rfl, Nat.le_of_ble_eq_true rfl⟩ ⟨Nat.zero_le _, Nat.zero_le _⟩ rfl rfl (Nat.le_of_ble_eq_true rfl) (lv_sub hl [] rfl) dX2_become_8 (fun H locs hw => ?_)
  refine lv_aload_n hx hb dX2_become_11 rfl (lv_at hl 1 rfl) ?_
  refine w_get C hw (v := .ref (gq G (3 + 4 * u))) (k := 1) (wk_town G z1 m hu) rfl it_2 (by decide) fl_X2_15 rfl dX2_become_12 ?_
  refine lv_aload_n hx hb dX2_become_15 rfl (lv_at hl 0 rfl) ?_
  refine w_get C hw (v := .ref (gq G (3 + 4 * t))) (k := 1) (wk_town G z1 m ht) rfl it_2 (by decide) fl_X2_15 rfl dX2_become_16 ?_
  obtain ⟨z2, hq, h⟩ := p_bd h
  refine w_SNv C hw (As := [.ref (gq G (3 + 4 * u)), .ref (gq G (3 + 4 * t))]) (rest := []) (c3_copyRow l G (3 + 4 * u) 24 (ax_qu hu) (3 + 4 * t) 24 (ax_qu ht) z1 m z2 hq) ks_X3_copyRow (List.mem_of_getElem? (i := 2) rfl) ⟨rfl, rfl⟩ ⟨Nat.le_of_ble_eq_true rfl, Nat.le_of_ble_eq_true rfl⟩ ⟨Nat.zero_le _, Nat.zero_le _⟩ rfl rfl (Nat.le_of_ble_eq_true rfl) (lv_sub hl [] rfl) dX2_become_19 (fun H locs hw => ?_)
  refine lv_aload_n hx hb dX2_become_22 rfl (lv_at hl 1 rfl) ?_
  refine w_get C hw (v := .ref (gq G (4 + 4 * u))) (k := 2) (wk_town G z2 m hu) rfl it_2 (by decide) fl_X2_18 rfl dX2_become_23 ?_
  refine lv_aload_n hx hb dX2_become_26 rfl (lv_at hl 0 rfl) ?_
  refine w_get C hw (v := .ref (gq G (4 + 4 * t))) (k := 2) (wk_town G z2 m ht) rfl it_2 (by decide) fl_X2_18 rfl dX2_become_27 ?_
  obtain ⟨z3, hq, h⟩ := p_bd h
  refine w_SNv C hw (As := [.ref (gq G (4 + 4 * u)), .ref (gq G (4 + 4 * t))]) (rest := []) (c3_copyRow l G (4 + 4 * u) 10 (ax_sp hu) (4 + 4 * t) 10 (ax_sp ht) z2 m z3 hq) ks_X3_copyRow (List.mem_of_getElem? (i := 2) rfl) ⟨rfl, rfl⟩ ⟨Nat.le_of_ble_eq_true rfl, Nat.le_of_ble_eq_true rfl⟩ ⟨Nat.zero_le _, Nat.zero_le _⟩ rfl rfl (Nat.le_of_ble_eq_true rfl) (lv_sub hl [] rfl) dX2_become_30 (fun H locs hw => ?_)
  refine lv_aload_n hx hb dX2_become_33 rfl (lv_at hl 0 rfl) ?_
  refine lv_aload_n hx hb dX2_become_34 rfl (lv_at hl 1 rfl) ?_
  refine w_get C hw (v := .int (z3 (1 + 4 * u) 3)) (k := 3) (wk_town G z3 m hu) rfl it_2 (by decide) fl_X2_39 rfl dX2_become_35 ?_
  refine w_put C hw (k := 3) tyX2 tyX2_ok nmX2 (wk_town G z3 m ht) rfl it_2 (by decide) fl_X2_39 rfl (ty := .int) rfl rfl rfl (Nat.le_of_ble_eq_true rfl) (ws_town G z3 m ht 3 (by decide) _) dX2_become_38 (fun H locs hw => ?_)
  refine lv_aload_n hx hb dX2_become_41 rfl (lv_at hl 0 rfl) ?_
  refine lv_aload_n hx hb dX2_become_42 rfl (lv_at hl 1 rfl) ?_
  refine w_get C hw (v := .int ((up z3 (1 + 4 * t) 3 (z3 (1 + 4 * u) 3)) (1 + 4 * u) 4)) (k := 4) (wk_town G (up z3 (1 + 4 * t) 3 (z3 (1 + 4 * u) 3)) m hu) rfl it_2 (by decide) fl_X2_42 rfl dX2_become_43 ?_
  refine w_put C hw (k := 4) tyX2 tyX2_ok nmX2 (wk_town G (up z3 (1 + 4 * t) 3 (z3 (1 + 4 * u) 3)) m ht) rfl it_2 (by decide) fl_X2_42 rfl (ty := .int) rfl rfl rfl (Nat.le_of_ble_eq_true rfl) (ws_town G (up z3 (1 + 4 * t) 3 (z3 (1 + 4 * u) 3)) m ht 4 (by decide) _) dX2_become_46 (fun H locs hw => ?_)
  refine lv_aload_n hx hb dX2_become_49 rfl (lv_at hl 0 rfl) ?_
  refine lv_aload_n hx hb dX2_become_50 rfl (lv_at hl 1 rfl) ?_
  refine w_get C hw (v := .int ((up (up z3 (1 + 4 * t) 3 (z3 (1 + 4 * u) 3)) (1 + 4 * t) 4 ((up z3 (1 + 4 * t) 3 (z3 (1 + 4 * u) 3)) (1 + 4 * u) 4)) (1 + 4 * u) 5)) (k := 5) (wk_town G (up (up z3 (1 + 4 * t) 3 (z3 (1 + 4 * u) 3)) (1 + 4 * t) 4 ((up z3 (1 + 4 * t) 3 (z3 (1 + 4 * u) 3)) (1 + 4 * u) 4)) m hu) rfl it_2 (by decide) fl_X2_45 rfl dX2_become_51 ?_
  refine w_put C hw (k := 5) tyX2 tyX2_ok nmX2 (wk_town G (up (up z3 (1 + 4 * t) 3 (z3 (1 + 4 * u) 3)) (1 + 4 * t) 4 ((up z3 (1 + 4 * t) 3 (z3 (1 + 4 * u) 3)) (1 + 4 * u) 4)) m ht) rfl it_2 (by decide) fl_X2_45 rfl (ty := .int) rfl rfl rfl (Nat.le_of_ble_eq_true rfl) (ws_town G (up (up z3 (1 + 4 * t) 3 (z3 (1 + 4 * u) 3)) (1 + 4 * t) 4 ((up z3 (1 + 4 * t) 3 (z3 (1 + 4 * u) 3)) (1 + 4 * u) 4)) m ht 5 (by decide) _) dX2_become_54 (fun H locs hw => ?_)
  refine lv_aload_n hx hb dX2_become_57 rfl (lv_at hl 0 rfl) ?_
  refine lv_aload_n hx hb dX2_become_58 rfl (lv_at hl 1 rfl) ?_
  refine w_get C hw (v := .int ((up (up (up z3 (1 + 4 * t) 3 (z3 (1 + 4 * u) 3)) (1 + 4 * t) 4 ((up z3 (1 + 4 * t) 3 (z3 (1 + 4 * u) 3)) (1 + 4 * u) 4)) (1 + 4 * t) 5 ((up (up z3 (1 + 4 * t) 3 (z3 (1 + 4 * u) 3)) (1 + 4 * t) 4 ((up z3 (1 + 4 * t) 3 (z3 (1 + 4 * u) 3)) (1 + 4 * u) 4)) (1 + 4 * u) 5)) (1 + 4 * u) 6)) (k := 6) (wk_town G (up (up (up z3 (1 + 4 * t) 3 (z3 (1 + 4 * u) 3)) (1 + 4 * t) 4 ((up z3 (1 + 4 * t) 3 (z3 (1 + 4 * u) 3)) (1 + 4 * u) 4)) (1 + 4 * t) 5 ((up (up z3 (1 + 4 * t) 3 (z3 (1 + 4 * u) 3)) (1 + 4 * t) 4 ((up z3 (1 + 4 * t) 3 (z3 (1 + 4 * u) 3)) (1 + 4 * u) 4)) (1 + 4 * u) 5)) m hu) rfl it_2 (by decide) fl_X2_48 rfl dX2_become_59 ?_
  refine w_put C hw (k := 6) tyX2 tyX2_ok nmX2 (wk_town G (up (up (up z3 (1 + 4 * t) 3 (z3 (1 + 4 * u) 3)) (1 + 4 * t) 4 ((up z3 (1 + 4 * t) 3 (z3 (1 + 4 * u) 3)) (1 + 4 * u) 4)) (1 + 4 * t) 5 ((up (up z3 (1 + 4 * t) 3 (z3 (1 + 4 * u) 3)) (1 + 4 * t) 4 ((up z3 (1 + 4 * t) 3 (z3 (1 + 4 * u) 3)) (1 + 4 * u) 4)) (1 + 4 * u) 5)) m ht) rfl it_2 (by decide) fl_X2_48 rfl (ty := .int) rfl rfl rfl (Nat.le_of_ble_eq_true rfl) (ws_town G (up (up (up z3 (1 + 4 * t) 3 (z3 (1 + 4 * u) 3)) (1 + 4 * t) 4 ((up z3 (1 + 4 * t) 3 (z3 (1 + 4 * u) 3)) (1 + 4 * u) 4)) (1 + 4 * t) 5 ((up (up z3 (1 + 4 * t) 3 (z3 (1 + 4 * u) 3)) (1 + 4 * t) 4 ((up z3 (1 + 4 * t) 3 (z3 (1 + 4 * u) 3)) (1 + 4 * u) 4)) (1 + 4 * u) 5)) m ht 6 (by decide) _) dX2_become_62 (fun H locs hw => ?_)
  refine lv_aload_n hx hb dX2_become_65 rfl (lv_at hl 0 rfl) ?_
  refine lv_aload_n hx hb dX2_become_66 rfl (lv_at hl 1 rfl) ?_
  refine w_get C hw (v := .int ((up (up (up (up z3 (1 + 4 * t) 3 (z3 (1 + 4 * u) 3)) (1 + 4 * t) 4 ((up z3 (1 + 4 * t) 3 (z3 (1 + 4 * u) 3)) (1 + 4 * u) 4)) (1 + 4 * t) 5 ((up (up z3 (1 + 4 * t) 3 (z3 (1 + 4 * u) 3)) (1 + 4 * t) 4 ((up z3 (1 + 4 * t) 3 (z3 (1 + 4 * u) 3)) (1 + 4 * u) 4)) (1 + 4 * u) 5)) (1 + 4 * t) 6 ((up (up (up z3 (1 + 4 * t) 3 (z3 (1 + 4 * u) 3)) (1 + 4 * t) 4 ((up z3 (1 + 4 * t) 3 (z3 (1 + 4 * u) 3)) (1 + 4 * u) 4)) (1 + 4 * t) 5 ((up (up z3 (1 + 4 * t) 3 (z3 (1 + 4 * u) 3)) (1 + 4 * t) 4 ((up z3 (1 + 4 * t) 3 (z3 (1 + 4 * u) 3)) (1 + 4 * u) 4)) (1 + 4 * u) 5)) (1 + 4 * u) 6)) (1 + 4 * u) 7)) (k := 7) (wk_town G (up (up (up (up z3 (1 + 4 * t) 3 (z3 (1 + 4 * u) 3)) (1 + 4 * t) 4 ((up z3 (1 + 4 * t) 3 (z3 (1 + 4 * u) 3)) (1 + 4 * u) 4)) (1 + 4 * t) 5 ((up (up z3 (1 + 4 * t) 3 (z3 (1 + 4 * u) 3)) (1 + 4 * t) 4 ((up z3 (1 + 4 * t) 3 (z3 (1 + 4 * u) 3)) (1 + 4 * u) 4)) (1 + 4 * u) 5)) (1 + 4 * t) 6 ((up (up (up z3 (1 + 4 * t) 3 (z3 (1 + 4 * u) 3)) (1 + 4 * t) 4 ((up z3 (1 + 4 * t) 3 (z3 (1 + 4 * u) 3)) (1 + 4 * u) 4)) (1 + 4 * t) 5 ((up (up z3 (1 + 4 * t) 3 (z3 (1 + 4 * u) 3)) (1 + 4 * t) 4 ((up z3 (1 + 4 * t) 3 (z3 (1 + 4 * u) 3)) (1 + 4 * u) 4)) (1 + 4 * u) 5)) (1 + 4 * u) 6)) m hu) rfl it_2 (by decide) fl_X2_21 rfl dX2_become_67 ?_
  refine w_put C hw (k := 7) tyX2 tyX2_ok nmX2 (wk_town G (up (up (up (up z3 (1 + 4 * t) 3 (z3 (1 + 4 * u) 3)) (1 + 4 * t) 4 ((up z3 (1 + 4 * t) 3 (z3 (1 + 4 * u) 3)) (1 + 4 * u) 4)) (1 + 4 * t) 5 ((up (up z3 (1 + 4 * t) 3 (z3 (1 + 4 * u) 3)) (1 + 4 * t) 4 ((up z3 (1 + 4 * t) 3 (z3 (1 + 4 * u) 3)) (1 + 4 * u) 4)) (1 + 4 * u) 5)) (1 + 4 * t) 6 ((up (up (up z3 (1 + 4 * t) 3 (z3 (1 + 4 * u) 3)) (1 + 4 * t) 4 ((up z3 (1 + 4 * t) 3 (z3 (1 + 4 * u) 3)) (1 + 4 * u) 4)) (1 + 4 * t) 5 ((up (up z3 (1 + 4 * t) 3 (z3 (1 + 4 * u) 3)) (1 + 4 * t) 4 ((up z3 (1 + 4 * t) 3 (z3 (1 + 4 * u) 3)) (1 + 4 * u) 4)) (1 + 4 * u) 5)) (1 + 4 * u) 6)) m ht) rfl it_2 (by decide) fl_X2_21 rfl (ty := .int) rfl rfl rfl (Nat.le_of_ble_eq_true rfl) (ws_town G (up (up (up (up z3 (1 + 4 * t) 3 (z3 (1 + 4 * u) 3)) (1 + 4 * t) 4 ((up z3 (1 + 4 * t) 3 (z3 (1 + 4 * u) 3)) (1 + 4 * u) 4)) (1 + 4 * t) 5 ((up (up z3 (1 + 4 * t) 3 (z3 (1 + 4 * u) 3)) (1 + 4 * t) 4 ((up z3 (1 + 4 * t) 3 (z3 (1 + 4 * u) 3)) (1 + 4 * u) 4)) (1 + 4 * u) 5)) (1 + 4 * t) 6 ((up (up (up z3 (1 + 4 * t) 3 (z3 (1 + 4 * u) 3)) (1 + 4 * t) 4 ((up z3 (1 + 4 * t) 3 (z3 (1 + 4 * u) 3)) (1 + 4 * u) 4)) (1 + 4 * t) 5 ((up (up z3 (1 + 4 * t) 3 (z3 (1 + 4 * u) 3)) (1 + 4 * t) 4 ((up z3 (1 + 4 * t) 3 (z3 (1 + 4 * u) 3)) (1 + 4 * u) 4)) (1 + 4 * u) 5)) (1 + 4 * u) 6)) m ht 7 (by decide) _) dX2_become_70 (fun H locs hw => ?_)
  replace h := Option.some.inj h
  subst h
  exact w_vret C hw rfl dX2_become_73

def f2_trait (t : Nat) (a1 : Int32) (a2 : Int32) (x : St) : Option (Int32) :=
  if (((5 : Int32) * a1) + a2) < 0 then
    some (0 : Int32)
  else
    if (80 : Int32) ≤ (((5 : Int32) * a1) + a2) then
      some (0 : Int32)
    else
      if (((5 : Int32) * a1) + a2) < 0 ∨ 80 ≤ (((5 : Int32) * a1) + a2).toNatClampNeg then none else
      some (x (2 + 4 * t) (((5 : Int32) * a1) + a2).toNatClampNeg)
set_option maxHeartbeats 4000000 in
set_option maxRecDepth 100000 in
theorem c2_trait (l : Launch) (G : GT) (t : Nat) (ht : t < 3) (x m : St) (a1 : Int32) (a2 : Int32) (r : Int32) (h : f2_trait t a1 a2 x = some r) : Mt l yX2_trait cX2_trait 4 (some .int) (rmF 0 0) G x m [.ref (gq G (1 + 4 * t)), .int a1, .int a2] (some (.int r)) x m := by
  refine Mt.of (by decide) (Nat.le_of_ble_eq_true rfl) ?_
  intro p e s mm args below meth c C ls hl hw
  have hx := C.1
  have hb := C.2.1
  have hown := C.2.2.2.2.1
  replace hl : lv_has ls 4 [(0, .ref (gq G (1 + 4 * t))), (1, .int a1), (2, .int a2)] := hl
  unfold f2_trait at h
  refine lv_iconst (v := (5 : Int32)) hx hb dX2_trait_0 (by decide) ?_
  refine lv_iload_n hx hb dX2_trait_1 rfl (lv_at hl 1 rfl) ?_
  refine lv_imul hx hb dX2_trait_2 ?_
  refine lv_iload_n hx hb dX2_trait_3 rfl (lv_at hl 2 rfl) ?_
  refine lv_iadd hx hb dX2_trait_4 ?_
  refine lv_istore_n (lv' := [(3, .int (((5 : Int32) * a1) + a2)), (0, .ref (gq G (1 + 4 * t))), (1, .int a1), (2, .int a2)]) hx hb dX2_trait_5 rfl hl (by decide) rfl (fun ls hl => ?_)
  refine lv_iload_n hx hb dX2_trait_6 rfl (lv_at hl 0 rfl) ?_
  refine lv_if_lt (tgt := 28) hx hb dX2_trait_7 (by decide) (fun hc => ?_) (fun hc => ?_)
  · replace h := p_t hc h
    refine lv_iconst (v := (0 : Int32)) hx hb dX2_trait_28 (by decide) ?_
    replace h := Option.some.inj h
    subst h
    exact w_iret C hw (v := (0 : Int32)) rfl rfl dX2_trait_29
  · replace h := p_f hc h
    refine lv_iload_n hx hb dX2_trait_10 rfl (lv_at hl 0 rfl) ?_
    refine lv_aload_n hx hb dX2_trait_11 rfl (lv_at hl 1 rfl) ?_
    refine w_get C hw (v := .ref (gq G (2 + 4 * t))) (k := 0) (wk_town G x m ht) rfl it_2 (by decide) fl_X2_9 rfl dX2_trait_12 ?_
    refine w_alen C hw (v := (80 : Int32)) ((ax_tr ht) G x m).1 rfl dX2_trait_15 ?_
    refine lv_icmp_ge (tgt := 28) hx hb dX2_trait_16 (by decide) (fun hc => ?_) (fun hc => ?_)
    · replace h := p_t hc h
      refine lv_iconst (v := (0 : Int32)) hx hb dX2_trait_28 (by decide) ?_
      replace h := Option.some.inj h
      subst h
      exact w_iret C hw (v := (0 : Int32)) rfl rfl dX2_trait_29
    · replace h := p_f hc h
      refine lv_aload_n hx hb dX2_trait_19 rfl (lv_at hl 1 rfl) ?_
      refine w_get C hw (v := .ref (gq G (2 + 4 * t))) (k := 0) (wk_town G x m ht) rfl it_2 (by decide) fl_X2_9 rfl dX2_trait_20 ?_
      refine lv_iload_n hx hb dX2_trait_23 rfl (lv_at hl 0 rfl) ?_
      obtain ⟨hq, h⟩ := p_if h
      refine w_ald C hw ((ax_tr ht) G x m).1 hq dX2_trait_24 ?_
      refine lv_goto (tgt := 29) hx hb dX2_trait_25 (by decide) ?_
      replace h := Option.some.inj h
      subst h
      exact w_iret C hw (v := (x (2 + 4 * t) (((5 : Int32) * a1) + a2).toNatClampNeg)) rfl rfl dX2_trait_29

def f2_quality (t : Nat) (a1 : Int32) (a2 : Int32) (x : St) : Option (Int32) :=
  if (((3 : Int32) * a1) + a2) < 0 then
    some (0 : Int32)
  else
    if (24 : Int32) ≤ (((3 : Int32) * a1) + a2) then
      some (0 : Int32)
    else
      if (((3 : Int32) * a1) + a2) < 0 ∨ 24 ≤ (((3 : Int32) * a1) + a2).toNatClampNeg then none else
      some (x (3 + 4 * t) (((3 : Int32) * a1) + a2).toNatClampNeg)
set_option maxHeartbeats 4000000 in
set_option maxRecDepth 100000 in
theorem c2_quality (l : Launch) (G : GT) (t : Nat) (ht : t < 3) (x m : St) (a1 : Int32) (a2 : Int32) (r : Int32) (h : f2_quality t a1 a2 x = some r) : Mt l yX2_quality cX2_quality 4 (some .int) (rmF 0 0) G x m [.ref (gq G (1 + 4 * t)), .int a1, .int a2] (some (.int r)) x m := by
  refine Mt.of (by decide) (Nat.le_of_ble_eq_true rfl) ?_
  intro p e s mm args below meth c C ls hl hw
  have hx := C.1
  have hb := C.2.1
  have hown := C.2.2.2.2.1
  replace hl : lv_has ls 4 [(0, .ref (gq G (1 + 4 * t))), (1, .int a1), (2, .int a2)] := hl
  unfold f2_quality at h
  refine lv_iconst (v := (3 : Int32)) hx hb dX2_quality_0 (by decide) ?_
  refine lv_iload_n hx hb dX2_quality_1 rfl (lv_at hl 1 rfl) ?_
  refine lv_imul hx hb dX2_quality_2 ?_
  refine lv_iload_n hx hb dX2_quality_3 rfl (lv_at hl 2 rfl) ?_
  refine lv_iadd hx hb dX2_quality_4 ?_
  refine lv_istore_n (lv' := [(3, .int (((3 : Int32) * a1) + a2)), (0, .ref (gq G (1 + 4 * t))), (1, .int a1), (2, .int a2)]) hx hb dX2_quality_5 rfl hl (by decide) rfl (fun ls hl => ?_)
  refine lv_iload_n hx hb dX2_quality_6 rfl (lv_at hl 0 rfl) ?_
  refine lv_if_lt (tgt := 28) hx hb dX2_quality_7 (by decide) (fun hc => ?_) (fun hc => ?_)
  · replace h := p_t hc h
    refine lv_iconst (v := (0 : Int32)) hx hb dX2_quality_28 (by decide) ?_
    replace h := Option.some.inj h
    subst h
    exact w_iret C hw (v := (0 : Int32)) rfl rfl dX2_quality_29
  · replace h := p_f hc h
    refine lv_iload_n hx hb dX2_quality_10 rfl (lv_at hl 0 rfl) ?_
    refine lv_aload_n hx hb dX2_quality_11 rfl (lv_at hl 1 rfl) ?_
    refine w_get C hw (v := .ref (gq G (3 + 4 * t))) (k := 1) (wk_town G x m ht) rfl it_2 (by decide) fl_X2_15 rfl dX2_quality_12 ?_
    refine w_alen C hw (v := (24 : Int32)) ((ax_qu ht) G x m).1 rfl dX2_quality_15 ?_
    refine lv_icmp_ge (tgt := 28) hx hb dX2_quality_16 (by decide) (fun hc => ?_) (fun hc => ?_)
    · replace h := p_t hc h
      refine lv_iconst (v := (0 : Int32)) hx hb dX2_quality_28 (by decide) ?_
      replace h := Option.some.inj h
      subst h
      exact w_iret C hw (v := (0 : Int32)) rfl rfl dX2_quality_29
    · replace h := p_f hc h
      refine lv_aload_n hx hb dX2_quality_19 rfl (lv_at hl 1 rfl) ?_
      refine w_get C hw (v := .ref (gq G (3 + 4 * t))) (k := 1) (wk_town G x m ht) rfl it_2 (by decide) fl_X2_15 rfl dX2_quality_20 ?_
      refine lv_iload_n hx hb dX2_quality_23 rfl (lv_at hl 0 rfl) ?_
      obtain ⟨hq, h⟩ := p_if h
      refine w_ald C hw ((ax_qu ht) G x m).1 hq dX2_quality_24 ?_
      refine lv_goto (tgt := 29) hx hb dX2_quality_25 (by decide) ?_
      replace h := Option.some.inj h
      subst h
      exact w_iret C hw (v := (x (3 + 4 * t) (((3 : Int32) * a1) + a2).toNatClampNeg)) rfl rfl dX2_quality_29

def f2_heldIn (t : Nat) (a1 : Int32) (x : St) : Option (Int32) :=
  if a1 < 0 then
    some (-1 : Int32)
  else
    if (10 : Int32) ≤ a1 then
      some (-1 : Int32)
    else
      if a1 < 0 ∨ 10 ≤ a1.toNatClampNeg then none else
      some (x (4 + 4 * t) a1.toNatClampNeg)
set_option maxHeartbeats 4000000 in
set_option maxRecDepth 100000 in
theorem c2_heldIn (l : Launch) (G : GT) (t : Nat) (ht : t < 3) (x m : St) (a1 : Int32) (r : Int32) (h : f2_heldIn t a1 x = some r) : Mt l yX2_heldIn cX2_heldIn 2 (some .int) (rmF 0 0) G x m [.ref (gq G (1 + 4 * t)), .int a1] (some (.int r)) x m := by
  refine Mt.of (by decide) (Nat.le_of_ble_eq_true rfl) ?_
  intro p e s mm args below meth c C ls hl hw
  have hx := C.1
  have hb := C.2.1
  have hown := C.2.2.2.2.1
  replace hl : lv_has ls 2 [(0, .ref (gq G (1 + 4 * t))), (1, .int a1)] := hl
  unfold f2_heldIn at h
  refine lv_iload_n hx hb dX2_heldIn_0 rfl (lv_at hl 1 rfl) ?_
  refine lv_if_lt (tgt := 22) hx hb dX2_heldIn_1 (by decide) (fun hc => ?_) (fun hc => ?_)
  · replace h := p_t hc h
    refine lv_iconst (v := (-1 : Int32)) hx hb dX2_heldIn_22 (by decide) ?_
    replace h := Option.some.inj h
    subst h
    exact w_iret C hw (v := (-1 : Int32)) rfl rfl dX2_heldIn_23
  · replace h := p_f hc h
    refine lv_iload_n hx hb dX2_heldIn_4 rfl (lv_at hl 1 rfl) ?_
    refine lv_aload_n hx hb dX2_heldIn_5 rfl (lv_at hl 0 rfl) ?_
    refine w_get C hw (v := .ref (gq G (4 + 4 * t))) (k := 2) (wk_town G x m ht) rfl it_2 (by decide) fl_X2_18 rfl dX2_heldIn_6 ?_
    refine w_alen C hw (v := (10 : Int32)) ((ax_sp ht) G x m).1 rfl dX2_heldIn_9 ?_
    refine lv_icmp_ge (tgt := 22) hx hb dX2_heldIn_10 (by decide) (fun hc => ?_) (fun hc => ?_)
    · replace h := p_t hc h
      refine lv_iconst (v := (-1 : Int32)) hx hb dX2_heldIn_22 (by decide) ?_
      replace h := Option.some.inj h
      subst h
      exact w_iret C hw (v := (-1 : Int32)) rfl rfl dX2_heldIn_23
    · replace h := p_f hc h
      refine lv_aload_n hx hb dX2_heldIn_13 rfl (lv_at hl 0 rfl) ?_
      refine w_get C hw (v := .ref (gq G (4 + 4 * t))) (k := 2) (wk_town G x m ht) rfl it_2 (by decide) fl_X2_18 rfl dX2_heldIn_14 ?_
      refine lv_iload_n hx hb dX2_heldIn_17 rfl (lv_at hl 1 rfl) ?_
      obtain ⟨hq, h⟩ := p_if h
      refine w_ald C hw ((ax_sp ht) G x m).1 hq dX2_heldIn_18 ?_
      refine lv_goto (tgt := 23) hx hb dX2_heldIn_19 (by decide) ?_
      replace h := Option.some.inj h
      subst h
      exact w_iret C hw (v := (x (4 + 4 * t) a1.toNatClampNeg)) rfl rfl dX2_heldIn_23

def f2_setSpot (t : Nat) (a1 : Int32) (a2 : Int32) (x : St) : Option (St) :=
  (f3_put (4 + 4 * t) 10 a1 a2 x).bind fun z1 =>
  some z1
set_option maxHeartbeats 4000000 in
set_option maxRecDepth 100000 in
theorem c2_setSpot (l : Launch) (G : GT) (t : Nat) (ht : t < 3) (x m : St) (a1 : Int32) (a2 : Int32) (r : St) (h : f2_setSpot t a1 a2 x = some r) : Mt l yX2_setSpot cX2_setSpot 3 none (rmF 1 22) G x m [.ref (gq G (1 + 4 * t)), .int a1, .int a2] none r m := by
  refine Mt.of (by decide) (Nat.le_of_ble_eq_true rfl) ?_
  intro p e s mm args below meth c C ls hl hw
  have hx := C.1
  have hb := C.2.1
  have hown := C.2.2.2.2.1
  replace hl : lv_has ls 3 [(0, .ref (gq G (1 + 4 * t))), (1, .int a1), (2, .int a2)] := hl
  unfold f2_setSpot at h
  refine lv_aload_n hx hb dX2_setSpot_0 rfl (lv_at hl 0 rfl) ?_
  refine w_get C hw (v := .ref (gq G (4 + 4 * t))) (k := 2) (wk_town G x m ht) rfl it_2 (by decide) fl_X2_18 rfl dX2_setSpot_1 ?_
  refine lv_iload_n hx hb dX2_setSpot_4 rfl (lv_at hl 1 rfl) ?_
  refine lv_iload_n hx hb dX2_setSpot_5 rfl (lv_at hl 2 rfl) ?_
  obtain ⟨z1, hq, h⟩ := p_bd h
  refine w_SNv C hw (As := [.ref (gq G (4 + 4 * t)), .int a1, .int a2]) (rest := []) (c3_put l G (4 + 4 * t) 10 (ax_sp ht) x m a1 a2 z1 hq) ks_X3_put (List.mem_of_getElem? (i := 0) rfl) ⟨rfl, rfl⟩ ⟨Nat.le_of_ble_eq_true rfl, Nat.le_of_ble_eq_true rfl⟩ ⟨Nat.zero_le _, Nat.zero_le _⟩ rfl rfl (Nat.le_of_ble_eq_true rfl) (lv_sub hl [] rfl) dX2_setSpot_6 (fun H locs hw => ?_)
  replace h := Option.some.inj h
  subst h
  exact w_vret C hw rfl dX2_setSpot_9

def f2_spotsInUse_b25 (t : Nat) (k4 : Int32 → Int32 → St → Option (Int32)) (b1 : Int32) (b2 : Int32) (x : St) : Option (Int32) :=
  k4 b1 (b2 + (1 : Int32)) x
def f2_spotsInUse_L4 (t : Nat)  : Nat → Int32 → Int32 → St → Option (Int32)
  | 0, _, _, _ => none
  | n + 1, b1, b2, x =>
    if (10 : Int32) ≤ b2 then
      some b1
    else
      if b2 < 0 ∨ 10 ≤ b2.toNatClampNeg then none else
      if (x (4 + 4 * t) b2.toNatClampNeg) < 0 then
        f2_spotsInUse_b25 t (f2_spotsInUse_L4 t n) b1 b2 x
      else
        f2_spotsInUse_b25 t (f2_spotsInUse_L4 t n) (b1 + (1 : Int32)) b2 x
theorem f2_spotsInUse_L4_0 (t : Nat)  (b1 : Int32) (b2 : Int32) (x : St) : f2_spotsInUse_L4 t 0 b1 b2 x = none := rfl
theorem f2_spotsInUse_L4_s (t : Nat)  (n : Nat) (b1 : Int32) (b2 : Int32) (x : St) : f2_spotsInUse_L4 t (n + 1) b1 b2 x =
    if (10 : Int32) ≤ b2 then
      some b1
    else
      if b2 < 0 ∨ 10 ≤ b2.toNatClampNeg then none else
      if (x (4 + 4 * t) b2.toNatClampNeg) < 0 then
        f2_spotsInUse_b25 t (f2_spotsInUse_L4 t n) b1 b2 x
      else
        f2_spotsInUse_b25 t (f2_spotsInUse_L4 t n) (b1 + (1 : Int32)) b2 x := rfl
def f2_spotsInUse (t : Nat)  (x : St) : Option (Int32) :=
  f2_spotsInUse_L4 t fu (0 : Int32) (0 : Int32) x
set_option maxHeartbeats 4000000 in
set_option maxRecDepth 100000 in
theorem c2_spotsInUse (l : Launch) (G : GT) (t : Nat) (ht : t < 3) (x m : St)  (r : Int32) (h : f2_spotsInUse t x = some r) : Mt l yX2_spotsInUse cX2_spotsInUse 3 (some .int) (rmF 0 0) G x m [.ref (gq G (1 + 4 * t))] (some (.int r)) x m := by
  refine Mt.of (by decide) (Nat.le_of_ble_eq_true rfl) ?_
  intro p e s mm args below meth c C ls hl hw
  have hx := C.1
  have hb := C.2.1
  have hown := C.2.2.2.2.1
  replace hl : lv_has ls 3 [(0, .ref (gq G (1 + 4 * t)))] := hl
  have L4 : ∀ (n4 : Nat) (b1 : Int32) (b2 : Int32) (H : Heap) (locs : List Loc) (ls : Array Slot), lv_has ls 3 [(0, .ref (gq G (1 + 4 * t))), (1, .int b1), (2, .int b2)] → Wd G s x m H locs → f2_spotsInUse_L4 t n4 b1 b2 x = some r → W p l e (rmF 0 0) s mm args below meth c H locs 0 0 (QE below G (some (.int r)) x m args s) (F0 mm 4 ls []) := by
    intro n4
    induction n4 with
    | zero =>
      intro b1 b2  H locs ls hl hw h
      rw [f2_spotsInUse_L4_0] at h
      exact absurd h.symm (Option.some_ne_none _)
    | succ n4 ih4 =>
      have B25 : ∀ (b1 : Int32) (b2 : Int32) (H : Heap) (locs : List Loc) (ls : Array Slot), lv_has ls 3 [(0, .ref (gq G (1 + 4 * t))), (1, .int b1), (2, .int b2)] → Wd G s x m H locs → f2_spotsInUse_b25 t (f2_spotsInUse_L4 t n4) b1 b2 x = some r → W p l e (rmF 0 0) s mm args below meth c H locs 0 0 (QE below G (some (.int r)) x m args s) (F0 mm 25 ls []) := by
        intro b1 b2  H locs ls hl hw h
        unfold f2_spotsInUse_b25 at h
        refine lv_iinc (v := (b2 + (1 : Int32))) (lv' := [(2, .int (b2 + (1 : Int32))), (0, .ref (gq G (1 + 4 * t))), (1, .int b1)]) hx hb dX2_spotsInUse_25 hl (k := 2) rfl rfl (by decide) rfl (fun ls hl => ?_)
        refine lv_goto (tgt := 4) hx hb dX2_spotsInUse_28 (by decide) ?_
        exact ih4 b1 (b2 + (1 : Int32)) _ _ _ (lv_sub hl [1, 2, 0] rfl) hw h
      intro b1 b2  H locs ls hl hw h
      rw [f2_spotsInUse_L4_s] at h
      refine lv_iload_n hx hb dX2_spotsInUse_4 rfl (lv_at hl 2 rfl) ?_
      refine lv_aload_n hx hb dX2_spotsInUse_5 rfl (lv_at hl 0 rfl) ?_
      refine w_get C hw (v := .ref (gq G (4 + 4 * t))) (k := 2) (wk_town G x m ht) rfl it_2 (by decide) fl_X2_18 rfl dX2_spotsInUse_6 ?_
      refine w_alen C hw (v := (10 : Int32)) ((ax_sp ht) G x m).1 rfl dX2_spotsInUse_9 ?_
      refine lv_icmp_ge (tgt := 31) hx hb dX2_spotsInUse_10 (by decide) (fun hc => ?_) (fun hc => ?_)
      · replace h := p_t hc h
        refine lv_iload_n hx hb dX2_spotsInUse_31 rfl (lv_at hl 1 rfl) ?_
        replace h := Option.some.inj h
        subst h
        exact w_iret C hw (v := b1) rfl rfl dX2_spotsInUse_32
      · replace h := p_f hc h
        refine lv_aload_n hx hb dX2_spotsInUse_13 rfl (lv_at hl 0 rfl) ?_
        refine w_get C hw (v := .ref (gq G (4 + 4 * t))) (k := 2) (wk_town G x m ht) rfl it_2 (by decide) fl_X2_18 rfl dX2_spotsInUse_14 ?_
        refine lv_iload_n hx hb dX2_spotsInUse_17 rfl (lv_at hl 2 rfl) ?_
        obtain ⟨hq, h⟩ := p_if h
        refine w_ald C hw ((ax_sp ht) G x m).1 hq dX2_spotsInUse_18 ?_
        refine lv_if_lt (tgt := 25) hx hb dX2_spotsInUse_19 (by decide) (fun hc => ?_) (fun hc => ?_)
        · replace h := p_t hc h
          exact B25 b1 b2 _ _ _ (lv_sub hl [0, 1, 2] rfl) hw h
        · replace h := p_f hc h
          refine lv_iinc (v := (b1 + (1 : Int32))) (lv' := [(1, .int (b1 + (1 : Int32))), (0, .ref (gq G (1 + 4 * t))), (2, .int b2)]) hx hb dX2_spotsInUse_22 hl (k := 1) rfl rfl (by decide) rfl (fun ls hl => ?_)
          exact B25 (b1 + (1 : Int32)) b2 _ _ _ (lv_sub hl [1, 0, 2] rfl) hw h
  unfold f2_spotsInUse at h
  refine lv_iconst (v := (0 : Int32)) hx hb dX2_spotsInUse_0 (by decide) ?_
  refine lv_istore_n (lv' := [(1, .int (0 : Int32)), (0, .ref (gq G (1 + 4 * t)))]) hx hb dX2_spotsInUse_1 rfl hl (by decide) rfl (fun ls hl => ?_)
  refine lv_iconst (v := (0 : Int32)) hx hb dX2_spotsInUse_2 (by decide) ?_
  refine lv_istore_n (lv' := [(2, .int (0 : Int32)), (1, .int (0 : Int32)), (0, .ref (gq G (1 + 4 * t)))]) hx hb dX2_spotsInUse_3 rfl hl (by decide) rfl (fun ls hl => ?_)
  exact L4 fu (0 : Int32) (0 : Int32) _ _ _ (lv_sub hl [2, 1, 0] rfl) hw h
