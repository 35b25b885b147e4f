def f4_finds  (a1 : Int32) (m : St) : Option (Int32 × St) :=
  if a1 < 0 ∨ 7 ≤ a1.toNatClampNeg then none else
  if a1 < 0 ∨ 7 ≤ a1.toNatClampNeg then none else
  some (((-1000001 : Int32) - a1), (up m 29 a1.toNatClampNeg ((m 29 a1.toNatClampNeg) + (1 : Int32))))
set_option maxHeartbeats 4000000 in
set_option maxRecDepth 100000 in
theorem c4_finds (l : Launch) (G : GT)  (x m : St) (a1 : Int32) (r : Int32 × St) (h : f4_finds a1 m = some r) : Mt l yX4_finds cX4_finds 2 (some .int) (rmF 0 0) G x m [.ref (gq G 25), .int a1] (some (.int r.1)) x r.2 := by
  refine Mt.of (by decide) (Nat.le_of_ble_eq_true rfl) ?_
  intro p e s mm args below meth c C ls hl hw
  have hx := C.1
  have hb := C.2.1
  have hown := C.2.2.2.2.1
  replace hl : lv_has ls 2 [(0, .ref (gq G 25)), (1, .int a1)] := hl
  unfold f4_finds at h
  refine lv_aload_n hx hb dX4_finds_0 rfl (lv_at hl 0 rfl) ?_
  refine w_get C hw (v := .ref (gq G 29)) (k := 4) (wk_model G x m) rfl it_4 (by decide) fl_X4_19 rfl dX4_finds_1 ?_
  refine lv_iload_n hx hb dX4_finds_4 rfl (lv_at hl 1 rfl) ?_
  refine lv_dup2_11 hx hb dX4_finds_5 rfl rfl ?_
  obtain ⟨hq, h⟩ := p_if h
  refine w_ald C hw (am_29 G x m).1 hq dX4_finds_6 ?_
  refine lv_iconst (v := (1 : Int32)) hx hb dX4_finds_7 (by decide) ?_
  refine lv_iadd hx hb dX4_finds_8 ?_
  obtain ⟨hq, h⟩ := p_if h
  refine w_astM C hw am_29 hq dX4_finds_9 (fun H locs hw => ?_)
  refine lv_ldc hx hb hown (C.w kc_X4_50) dX4_finds_10 ?_
  refine lv_iload_n hx hb dX4_finds_12 rfl (lv_at hl 1 rfl) ?_
  refine lv_isub hx hb dX4_finds_13 ?_
  replace h := Option.some.inj h
  subst h
  exact w_iret C hw (v := ((-1000001 : Int32) - a1)) rfl rfl dX4_finds_14

def f4_in  (a1 : Int64) (a2 : Int64) (a3 : Int64) : Int32 :=
  if (lg_cmp a1 a2) < 0 then
    (0 : Int32)
  else
    if 0 < (lg_cmp a1 a3) then
      (0 : Int32)
    else
      (1 : Int32)
theorem bz_X4_in  (a1 : Int64) (a2 : Int64) (a3 : Int64) : f4_in a1 a2 a3 = 0 ∨ f4_in a1 a2 a3 = 1 := by
  unfold f4_in
  repeat' split
  all_goals first | exact Or.inl rfl | exact Or.inr rfl
set_option maxHeartbeats 4000000 in
set_option maxRecDepth 100000 in
theorem c4_in (l : Launch) (G : GT)  (x m : St) (a1 : Int64) (a2 : Int64) (a3 : Int64) (r : Int32) (h : f4_in a1 a2 a3 = r) : Mt l yX4_in cX4_in 6 (some .boolean) (rmF 0 0) G x m [.long a1, .long a2, .long a3] (some (.int r)) x m := by
  refine Mt.of (by decide) (Nat.le_of_ble_eq_true rfl) ?_
  intro p e s mm args below meth c C ls hl hw
  have hx := C.1
  have hb := C.2.1
  have hown := C.2.2.2.2.1
  replace hl : lv_has ls 6 [(0, .long a1), (2, .long a2), (4, .long a3)] := hl
  unfold f4_in at h
  refine lv_lload_n hx hb dX4_in_0 rfl (lv_at hl 0 rfl) ?_
  refine lv_lload_n hx hb dX4_in_1 rfl (lv_at hl 1 rfl) ?_
  refine W.lcmp hx hb dX4_in_2 ?_
  refine lv_if_lt (tgt := 17) hx hb dX4_in_3 (by decide) (fun hc => ?_) (fun hc => ?_)
  · replace h := p_t hc h
    refine lv_iconst (v := (0 : Int32)) hx hb dX4_in_17 (by decide) ?_
    subst h
    exact w_iret C hw (v := (0 : Int32)) rfl rfl dX4_in_18
  · replace h := p_f hc h
    refine lv_lload_n hx hb dX4_in_6 rfl (lv_at hl 0 rfl) ?_
    refine lv_lload hx hb dX4_in_7 (lv_at hl 2 rfl) ?_
    refine W.lcmp hx hb dX4_in_9 ?_
    refine lv_if_gt (tgt := 17) hx hb dX4_in_10 (by decide) (fun hc => ?_) (fun hc => ?_)
    · replace h := p_t hc h
      refine lv_iconst (v := (0 : Int32)) hx hb dX4_in_17 (by decide) ?_
      subst h
      exact w_iret C hw (v := (0 : Int32)) rfl rfl dX4_in_18
    · replace h := p_f hc h
      refine lv_iconst (v := (1 : Int32)) hx hb dX4_in_13 (by decide) ?_
      refine lv_goto (tgt := 18) hx hb dX4_in_14 (by decide) ?_
      subst h
      exact w_iret C hw (v := (1 : Int32)) rfl rfl dX4_in_18

def f4_become_L2 (kc1 : Nat) (ln1 : Nat) (kc2 : Nat) (ln2 : Nat)  : Nat → Int32 → St → Option (St)
  | 0, _, _ => none
  | n + 1, b2, m =>
    if (119 : Int32) ≤ b2 then
      some m
    else
      if b2 < 0 ∨ ln1 ≤ b2.toNatClampNeg then none else
      if b2 < 0 ∨ ln2 ≤ b2.toNatClampNeg then none else
      (f4_become_L2 kc1 ln1 kc2 ln2 n) (b2 + (1 : Int32)) (up m kc2 b2.toNatClampNeg (m kc1 b2.toNatClampNeg))
theorem f4_become_L2_0 (kc1 : Nat) (ln1 : Nat) (kc2 : Nat) (ln2 : Nat)  (b2 : Int32) (m : St) : f4_become_L2 kc1 ln1 kc2 ln2 0 b2 m = none := rfl
theorem f4_become_L2_s (kc1 : Nat) (ln1 : Nat) (kc2 : Nat) (ln2 : Nat)  (n : Nat) (b2 : Int32) (m : St) : f4_become_L2 kc1 ln1 kc2 ln2 (n + 1) b2 m =
    if (119 : Int32) ≤ b2 then
      some m
    else
      if b2 < 0 ∨ ln1 ≤ b2.toNatClampNeg then none else
      if b2 < 0 ∨ ln2 ≤ b2.toNatClampNeg then none else
      (f4_become_L2 kc1 ln1 kc2 ln2 n) (b2 + (1 : Int32)) (up m kc2 b2.toNatClampNeg (m kc1 b2.toNatClampNeg)) := rfl
def f4_become (kc1 : Nat) (ln1 : Nat) (kc2 : Nat) (ln2 : Nat)  (m : St) : Option (St) :=
  f4_become_L2 kc1 ln1 kc2 ln2 fu (0 : Int32) m
set_option maxHeartbeats 4000000 in
set_option maxRecDepth 100000 in
theorem c4_become (l : Launch) (G : GT) (kc1 : Nat) (ln1 : Nat) (hkc1 : AM kc1 ln1) (kc2 : Nat) (ln2 : Nat) (hkc2 : AM kc2 ln2) (x m : St)  (r : St) (h : f4_become kc1 ln1 kc2 ln2 m = some r) : Mt l yX4_become cX4_become 3 none (rmF 0 0) G x m [.ref (gq G kc1), .ref (gq G kc2)] none x r := by
  refine Mt.of (by decide) (Nat.le_of_ble_eq_true rfl) ?_
  intro p e s mm args below meth c C ls hl hw
  have hx := C.1
  have hb := C.2.1
  have hown := C.2.2.2.2.1
  replace hl : lv_has ls 3 [(0, .ref (gq G kc1)), (1, .ref (gq G kc2))] := hl
  have L2 : ∀ (n2 : Nat) (b2 : Int32) (m : St) (H : Heap) (locs : List Loc) (ls : Array Slot), lv_has ls 3 [(0, .ref (gq G kc1)), (1, .ref (gq G kc2)), (2, .int b2)] → Wd G s x m H locs → f4_become_L2 kc1 ln1 kc2 ln2 n2 b2 m = some r → W p l e (rmF 0 0) s mm args below meth c H locs 0 0 (QE below G none x r args s) (F0 mm 2 ls []) := by
    intro n2
    induction n2 with
    | zero =>
      intro b2 m H locs ls hl hw h
      rw [f4_become_L2_0] at h
      exact absurd h.symm (Option.some_ne_none _)
    | succ n2 ih2 =>
      intro b2 m H locs ls hl hw h
      rw [f4_become_L2_s] at h
      refine lv_iload_n hx hb dX4_become_2 rfl (lv_at hl 2 rfl) ?_
      refine lv_bipush (v := (119 : Int32)) hx hb dX4_become_3 (by decide) ?_
      refine lv_icmp_ge (tgt := 20) hx hb dX4_become_5 (by decide) (fun hc => ?_) (fun hc => ?_)
      · replace h := p_t hc h
        replace h := Option.some.inj h
        subst h
        exact w_vret C hw rfl dX4_become_20
      · replace h := p_f hc h
        refine lv_aload_n hx hb dX4_become_8 rfl (lv_at hl 1 rfl) ?_
        refine lv_iload_n hx hb dX4_become_9 rfl (lv_at hl 2 rfl) ?_
        refine lv_aload_n hx hb dX4_become_10 rfl (lv_at hl 0 rfl) ?_
        refine lv_iload_n hx hb dX4_become_11 rfl (lv_at hl 2 rfl) ?_
        obtain ⟨hq, h⟩ := p_if h
        refine w_ald C hw (hkc1 G x m).1 hq dX4_become_12 ?_
        obtain ⟨hq, h⟩ := p_if h
        refine w_astM C hw hkc2 hq dX4_become_13 (fun H locs hw => ?_)
        refine lv_iinc (v := (b2 + (1 : Int32))) (lv' := [(2, .int (b2 + (1 : Int32))), (0, .ref (gq G kc1)), (1, .ref (gq G kc2))]) hx hb dX4_become_14 hl (k := 2) rfl rfl (by decide) rfl (fun ls hl => ?_)
        refine lv_goto (tgt := 2) hx hb dX4_become_17 (by decide) ?_
        exact ih2 (b2 + (1 : Int32)) (up m kc2 b2.toNatClampNeg (m kc1 b2.toNatClampNeg)) _ _ _ (lv_sub hl [1, 2, 0] rfl) hw h
  unfold f4_become at h
  refine lv_iconst (v := (0 : Int32)) hx hb dX4_become_0 (by decide) ?_
  refine lv_istore_n (lv' := [(2, .int (0 : Int32)), (0, .ref (gq G kc1)), (1, .ref (gq G kc2))]) hx hb dX4_become_1 rfl hl (by decide) rfl (fun ls hl => ?_)
  exact L2 fu (0 : Int32) m _ _ _ (lv_sub hl [1, 2, 0] rfl) hw h

def f4_lends   (m : St) : Option (St) :=
  (f4_become 26 119 28 119 m).bind fun z1 =>
  some z1
set_option maxHeartbeats 4000000 in
set_option maxRecDepth 100000 in
theorem c4_lends (l : Launch) (G : GT)  (x m : St)  (r : St) (h : f4_lends m = some r) : Mt l yX4_lends cX4_lends 1 none (rmF 1 22) G x m [.ref (gq G 25)] none x r := by
  refine Mt.of (by decide) (Nat.le_of_ble_eq_true rfl) ?_
  intro p e s mm args below meth c C ls hl hw
  have hx := C.1
  have hb := C.2.1
  have hown := C.2.2.2.2.1
  replace hl : lv_has ls 1 [(0, .ref (gq G 25))] := hl
  unfold f4_lends at h
  refine lv_aload_n hx hb dX4_lends_0 rfl (lv_at hl 0 rfl) ?_
  refine w_get C hw (v := .ref (gq G 26)) (k := 0) (wk_model G x m) rfl it_4 (by decide) fl_X4_9 rfl dX4_lends_1 ?_
  refine lv_aload_n hx hb dX4_lends_4 rfl (lv_at hl 0 rfl) ?_
  refine w_get C hw (v := .ref (gq G 28)) (k := 2) (wk_model G x m) rfl it_4 (by decide) fl_X4_16 rfl dX4_lends_5 ?_
  obtain ⟨z1, hq, h⟩ := p_bd h
  refine w_Sv C hw (As := [.ref (gq G 26), .ref (gq G 28)]) (rest := []) (c4_become l G 26 119 am_26 28 119 am_28 x m z1 hq) ks_X4_become ml_X4_51 ⟨rfl, rfl⟩ ⟨Nat.le_of_ble_eq_true rfl, Nat.le_of_ble_eq_true rfl⟩ ⟨Nat.zero_le _, Nat.zero_le _⟩ rfl rfl (Nat.le_of_ble_eq_true rfl) (lv_sub hl [] rfl) dX4_lends_8 (fun H locs hw => ?_)
  replace h := Option.some.inj h
  subst h
  exact w_vret C hw rfl dX4_lends_11

def f4_laysBack   (m : St) : Option (St) :=
  (f4_become 28 119 26 119 m).bind fun z1 =>
  some z1
set_option maxHeartbeats 4000000 in
set_option maxRecDepth 100000 in
theorem c4_laysBack (l : Launch) (G : GT)  (x m : St)  (r : St) (h : f4_laysBack m = some r) : Mt l yX4_laysBack cX4_laysBack 1 none (rmF 1 22) G x m [.ref (gq G 25)] none x r := by
  refine Mt.of (by decide) (Nat.le_of_ble_eq_true rfl) ?_
  intro p e s mm args below meth c C ls hl hw
  have hx := C.1
  have hb := C.2.1
  have hown := C.2.2.2.2.1
  replace hl : lv_has ls 1 [(0, .ref (gq G 25))] := hl
  unfold f4_laysBack at h
  refine lv_aload_n hx hb dX4_laysBack_0 rfl (lv_at hl 0 rfl) ?_
  refine w_get C hw (v := .ref (gq G 28)) (k := 2) (wk_model G x m) rfl it_4 (by decide) fl_X4_16 rfl dX4_laysBack_1 ?_
  refine lv_aload_n hx hb dX4_laysBack_4 rfl (lv_at hl 0 rfl) ?_
  refine w_get C hw (v := .ref (gq G 26)) (k := 0) (wk_model G x m) rfl it_4 (by decide) fl_X4_9 rfl dX4_laysBack_5 ?_
  obtain ⟨z1, hq, h⟩ := p_bd h
  refine w_Sv C hw (As := [.ref (gq G 28), .ref (gq G 26)]) (rest := []) (c4_become l G 28 119 am_28 26 119 am_26 x m z1 hq) ks_X4_become ml_X4_51 ⟨rfl, rfl⟩ ⟨Nat.le_of_ble_eq_true rfl, Nat.le_of_ble_eq_true rfl⟩ ⟨Nat.zero_le _, Nat.zero_le _⟩ rfl rfl (Nat.le_of_ble_eq_true rfl) (lv_sub hl [] rfl) dX4_laysBack_8 (fun H locs hw => ?_)
  replace h := Option.some.inj h
  subst h
  exact w_vret C hw rfl dX4_laysBack_11

def f4_isCorner  (a1 : Int32) : Int32 :=
  (f4_in (a1.toInt64) (0 : Int64) (15 : Int64))
theorem bz_X4_isCorner  (a1 : Int32) : f4_isCorner a1 = 0 ∨ f4_isCorner a1 = 1 := by
  unfold f4_isCorner
  repeat' split
  all_goals first | exact Or.inl rfl | exact Or.inr rfl | exact bz_X4_in _ _ _ 
set_option maxHeartbeats 4000000 in
set_option maxRecDepth 100000 in
theorem c4_isCorner (l : Launch) (G : GT)  (x m : St) (a1 : Int32) (r : Int32) (h : f4_isCorner a1 = r) : Mt l yX4_isCorner cX4_isCorner 1 (some .boolean) (rmF 1 25) G x m [.int a1] (some (.int r)) x m := by
  refine Mt.of (by decide) (Nat.le_of_ble_eq_true rfl) ?_
  intro p e s mm args below meth c C ls hl hw
  have hx := C.1
  have hb := C.2.1
  have hown := C.2.2.2.2.1
  replace hl : lv_has ls 1 [(0, .int a1)] := hl
  unfold f4_isCorner at h
  refine lv_iload_n hx hb dX4_isCorner_0 rfl (lv_at hl 0 rfl) ?_
  refine lv_i2l hx hb dX4_isCorner_1 rfl ?_
  refine lv_lconst (v := (0 : Int64)) hx hb dX4_isCorner_2 (by decide) ?_
  refine lv_ldc2 hx hb hown (C.w kl_X4_55) dX4_isCorner_3 ?_
  refine w_Si C hw (As := [.long (a1.toInt64), .long (0 : Int64), .long (15 : Int64)]) (rest := []) (c4_in l G x m (a1.toInt64) (0 : Int64) (15 : Int64) _ rfl) ks_X4_in ml_X4_57 ⟨rfl, rfl⟩ ⟨Nat.le_of_ble_eq_true rfl, Nat.le_of_ble_eq_true rfl⟩ ⟨Nat.zero_le _, Nat.zero_le _⟩ rfl rfl (Nat.le_of_ble_eq_true rfl) (lv_sub hl [] rfl) dX4_isCorner_6 (fun H locs hw => ?_)
  subst h
  exact w_iret C hw (v := (f4_in (a1.toInt64) (0 : Int64) (15 : Int64))) rfl (nz_b (bz_X4_in (a1.toInt64) (0 : Int64) (15 : Int64))) dX4_isCorner_9

def f4_isWhisper  (a1 : Int32) (m : St) : Option (Int32) :=
  if (1 : Int32) < 0 ∨ 119 ≤ (1 : Int32).toNatClampNeg then none else
  some (f4_in (a1.toInt64) (0 : Int64) (((m 26 (1 : Int32).toNatClampNeg) - (1 : Int32)).toInt64))
set_option maxHeartbeats 4000000 in
set_option maxRecDepth 100000 in
theorem c4_isWhisper (l : Launch) (G : GT)  (x m : St) (a1 : Int32) (r : Int32) (h : f4_isWhisper a1 m = some r) : Mt l yX4_isWhisper cX4_isWhisper 2 (some .boolean) (rmF 1 25) G x m [.ref (gq G 25), .int a1] (some (.int r)) x m := by
  refine Mt.of (by decide) (Nat.le_of_ble_eq_true rfl) ?_
  intro p e s mm args below meth c C ls hl hw
  have hx := C.1
  have hb := C.2.1
  have hown := C.2.2.2.2.1
  replace hl : lv_has ls 2 [(0, .ref (gq G 25)), (1, .int a1)] := hl
  unfold f4_isWhisper at h
  refine lv_iload_n hx hb dX4_isWhisper_0 rfl (lv_at hl 1 rfl) ?_
  refine lv_i2l hx hb dX4_isWhisper_1 rfl ?_
  refine lv_lconst (v := (0 : Int64)) hx hb dX4_isWhisper_2 (by decide) ?_
  refine lv_aload_n hx hb dX4_isWhisper_3 rfl (lv_at hl 0 rfl) ?_
  refine w_get C hw (v := .ref (gq G 26)) (k := 0) (wk_model G x m) rfl it_4 (by decide) fl_X4_9 rfl dX4_isWhisper_4 ?_
  refine lv_iconst (v := (1 : Int32)) hx hb dX4_isWhisper_7 (by decide) ?_
  obtain ⟨hq, h⟩ := p_if h
  refine w_ald C hw (am_26 G x m).1 hq dX4_isWhisper_8 ?_
  refine lv_iconst (v := (1 : Int32)) hx hb dX4_isWhisper_9 (by decide) ?_
  refine lv_isub hx hb dX4_isWhisper_10 ?_
  refine lv_i2l hx hb dX4_isWhisper_11 rfl ?_
  refine w_Si C hw (As := [.long (a1.toInt64), .long (0 : Int64), .long (((m 26 (1 : Int32).toNatClampNeg) - (1 : Int32)).toInt64)]) (rest := []) (c4_in l G x m (a1.toInt64) (0 : Int64) (((m 26 (1 : Int32).toNatClampNeg) - (1 : Int32)).toInt64) _ rfl) ks_X4_in ml_X4_57 ⟨rfl, rfl⟩ ⟨Nat.le_of_ble_eq_true rfl, Nat.le_of_ble_eq_true rfl⟩ ⟨Nat.zero_le _, Nat.zero_le _⟩ rfl rfl (Nat.le_of_ble_eq_true rfl) (lv_sub hl [] rfl) dX4_isWhisper_12 (fun H locs hw => ?_)
  replace h := Option.some.inj h
  subst h
  exact w_iret C hw (v := (f4_in (a1.toInt64) (0 : Int64) (((m 26 (1 : Int32).toNatClampNeg) - (1 : Int32)).toInt64))) rfl (nz_b (bz_X4_in (a1.toInt64) (0 : Int64) (((m 26 (1 : Int32).toNatClampNeg) - (1 : Int32)).toInt64))) dX4_isWhisper_15

def f4_isSet  (a1 : Int32) : Int32 :=
  (f4_in (a1.toInt64) (0 : Int64) (65535 : Int64))
theorem bz_X4_isSet  (a1 : Int32) : f4_isSet a1 = 0 ∨ f4_isSet a1 = 1 := by
  unfold f4_isSet
  repeat' split
  all_goals first | exact Or.inl rfl | exact Or.inr rfl | exact bz_X4_in _ _ _ 
set_option maxHeartbeats 4000000 in
set_option maxRecDepth 100000 in
theorem c4_isSet (l : Launch) (G : GT)  (x m : St) (a1 : Int32) (r : Int32) (h : f4_isSet a1 = r) : Mt l yX4_isSet cX4_isSet 1 (some .boolean) (rmF 1 25) G x m [.int a1] (some (.int r)) x m := by
  refine Mt.of (by decide) (Nat.le_of_ble_eq_true rfl) ?_
  intro p e s mm args below meth c C ls hl hw
  have hx := C.1
  have hb := C.2.1
  have hown := C.2.2.2.2.1
  replace hl : lv_has ls 1 [(0, .int a1)] := hl
  unfold f4_isSet at h
  refine lv_iload_n hx hb dX4_isSet_0 rfl (lv_at hl 0 rfl) ?_
  refine lv_i2l hx hb dX4_isSet_1 rfl ?_
  refine lv_lconst (v := (0 : Int64)) hx hb dX4_isSet_2 (by decide) ?_
  refine lv_ldc2 hx hb hown (C.w kl_X4_61) dX4_isSet_3 ?_
  refine w_Si C hw (As := [.long (a1.toInt64), .long (0 : Int64), .long (65535 : Int64)]) (rest := []) (c4_in l G x m (a1.toInt64) (0 : Int64) (65535 : Int64) _ rfl) ks_X4_in ml_X4_57 ⟨rfl, rfl⟩ ⟨Nat.le_of_ble_eq_true rfl, Nat.le_of_ble_eq_true rfl⟩ ⟨Nat.zero_le _, Nat.zero_le _⟩ rfl rfl (Nat.le_of_ble_eq_true rfl) (lv_sub hl [] rfl) dX4_isSet_6 (fun H locs hw => ?_)
  subst h
  exact w_iret C hw (v := (f4_in (a1.toInt64) (0 : Int64) (65535 : Int64))) rfl (nz_b (bz_X4_in (a1.toInt64) (0 : Int64) (65535 : Int64))) dX4_isSet_9

def f4_part  (a1 : Int32) (a2 : Int32) (m : St) : Option (Int32) :=
  if (((5 : Int32) + ((5 : Int32) * a1)) + a2) < 0 ∨ 119 ≤ (((5 : Int32) + ((5 : Int32) * a1)) + a2).toNatClampNeg then none else
  some (m 26 (((5 : Int32) + ((5 : Int32) * a1)) + a2).toNatClampNeg)
set_option maxHeartbeats 4000000 in
set_option maxRecDepth 100000 in
theorem c4_part (l : Launch) (G : GT)  (x m : St) (a1 : Int32) (a2 : Int32) (r : Int32) (h : f4_part a1 a2 m = some r) : Mt l yX4_part cX4_part 3 (some .int) (rmF 0 0) G x m [.ref (gq G 25), .int a1, .int a2] (some (.int r)) x m := by
  refine Mt.of (by decide) (Nat.le_of_ble_eq_true rfl) ?_
  intro p e s mm args below meth c C ls hl hw
  have hx := C.1
  have hb := C.2.1
  have hown := C.2.2.2.2.1
  replace hl : lv_has ls 3 [(0, .ref (gq G 25)), (1, .int a1), (2, .int a2)] := hl
  unfold f4_part at h
  refine lv_aload_n hx hb dX4_part_0 rfl (lv_at hl 0 rfl) ?_
  refine w_get C hw (v := .ref (gq G 26)) (k := 0) (wk_model G x m) rfl it_4 (by decide) fl_X4_9 rfl dX4_part_1 ?_
  refine lv_iconst (v := (5 : Int32)) hx hb dX4_part_4 (by decide) ?_
  refine lv_iconst (v := (5 : Int32)) hx hb dX4_part_5 (by decide) ?_
  refine lv_iload_n hx hb dX4_part_6 rfl (lv_at hl 1 rfl) ?_
  refine lv_imul hx hb dX4_part_7 ?_
  refine lv_iadd hx hb dX4_part_8 ?_
  refine lv_iload_n hx hb dX4_part_9 rfl (lv_at hl 2 rfl) ?_
  refine lv_iadd hx hb dX4_part_10 ?_
  obtain ⟨hq, h⟩ := p_if h
  refine w_ald C hw (am_26 G x m).1 hq dX4_part_11 ?_
  replace h := Option.some.inj h
  subst h
  exact w_iret C hw (v := (m 26 (((5 : Int32) + ((5 : Int32) * a1)) + a2).toNatClampNeg)) rfl rfl dX4_part_12

def f4_builds  (a1 : Int32) (a2 : Int32) (a3 : Int32) (m : St) : Option (St) :=
  if (((5 : Int32) + ((5 : Int32) * a1)) + a2) < 0 ∨ 119 ≤ (((5 : Int32) + ((5 : Int32) * a1)) + a2).toNatClampNeg then none else
  some (up m 26 (((5 : Int32) + ((5 : Int32) * a1)) + a2).toNatClampNeg a3)
set_option maxHeartbeats 4000000 in
set_option maxRecDepth 100000 in
theorem c4_builds (l : Launch) (G : GT)  (x m : St) (a1 : Int32) (a2 : Int32) (a3 : Int32) (r : St) (h : f4_builds a1 a2 a3 m = some r) : Mt l yX4_builds cX4_builds 4 none (rmF 0 0) G x m [.ref (gq G 25), .int a1, .int a2, .int a3] none x r := by
  refine Mt.of (by decide) (Nat.le_of_ble_eq_true rfl) ?_
  intro p e s mm args below meth c C ls hl hw
  have hx := C.1
  have hb := C.2.1
  have hown := C.2.2.2.2.1
  replace hl : lv_has ls 4 [(0, .ref (gq G 25)), (1, .int a1), (2, .int a2), (3, .int a3)] := hl
  unfold f4_builds at h
  refine lv_aload_n hx hb dX4_builds_0 rfl (lv_at hl 0 rfl) ?_
  refine w_get C hw (v := .ref (gq G 26)) (k := 0) (wk_model G x m) rfl it_4 (by decide) fl_X4_9 rfl dX4_builds_1 ?_
  refine lv_iconst (v := (5 : Int32)) hx hb dX4_builds_4 (by decide) ?_
  refine lv_iconst (v := (5 : Int32)) hx hb dX4_builds_5 (by decide) ?_
  refine lv_iload_n hx hb dX4_builds_6 rfl (lv_at hl 1 rfl) ?_
  refine lv_imul hx hb dX4_builds_7 ?_
  refine lv_iadd hx hb dX4_builds_8 ?_
  refine lv_iload_n hx hb dX4_builds_9 rfl (lv_at hl 2 rfl) ?_
  refine lv_iadd hx hb dX4_builds_10 ?_
  refine lv_iload_n hx hb dX4_builds_11 rfl (lv_at hl 3 rfl) ?_
  obtain ⟨hq, h⟩ := p_if h
  refine w_astM C hw am_26 hq dX4_builds_12 (fun H locs hw => ?_)
  replace h := Option.some.inj h
  subst h
  exact w_vret C hw rfl dX4_builds_13

def f4_its  (a1 : Int32) (a2 : Int32) (m : St) : Option (Int32) :=
  if (((85 : Int32) + ((3 : Int32) * a1)) + a2) < 0 ∨ 119 ≤ (((85 : Int32) + ((3 : Int32) * a1)) + a2).toNatClampNeg then none else
  some (m 26 (((85 : Int32) + ((3 : Int32) * a1)) + a2).toNatClampNeg)
set_option maxHeartbeats 4000000 in
set_option maxRecDepth 100000 in
theorem c4_its (l : Launch) (G : GT)  (x m : St) (a1 : Int32) (a2 : Int32) (r : Int32) (h : f4_its a1 a2 m = some r) : Mt l yX4_its cX4_its 3 (some .int) (rmF 0 0) G x m [.ref (gq G 25), .int a1, .int a2] (some (.int r)) x m := by
  refine Mt.of (by decide) (Nat.le_of_ble_eq_true rfl) ?_
  intro p e s mm args below meth c C ls hl hw
  have hx := C.1
  have hb := C.2.1
  have hown := C.2.2.2.2.1
  replace hl : lv_has ls 3 [(0, .ref (gq G 25)), (1, .int a1), (2, .int a2)] := hl
  unfold f4_its at h
  refine lv_aload_n hx hb dX4_its_0 rfl (lv_at hl 0 rfl) ?_
  refine w_get C hw (v := .ref (gq G 26)) (k := 0) (wk_model G x m) rfl it_4 (by decide) fl_X4_9 rfl dX4_its_1 ?_
  refine lv_bipush (v := (85 : Int32)) hx hb dX4_its_4 (by decide) ?_
  refine lv_iconst (v := (3 : Int32)) hx hb dX4_its_6 (by decide) ?_
  refine lv_iload_n hx hb dX4_its_7 rfl (lv_at hl 1 rfl) ?_
  refine lv_imul hx hb dX4_its_8 ?_
  refine lv_iadd hx hb dX4_its_9 ?_
  refine lv_iload_n hx hb dX4_its_10 rfl (lv_at hl 2 rfl) ?_
  refine lv_iadd hx hb dX4_its_11 ?_
  obtain ⟨hq, h⟩ := p_if h
  refine w_ald C hw (am_26 G x m).1 hq dX4_its_12 ?_
  replace h := Option.some.inj h
  subst h
  exact w_iret C hw (v := (m 26 (((85 : Int32) + ((3 : Int32) * a1)) + a2).toNatClampNeg)) rfl rfl dX4_its_13

def f4_sets  (a1 : Int32) (a2 : Int32) (a3 : Int32) (m : St) : Option (St) :=
  if (((85 : Int32) + ((3 : Int32) * a1)) + a2) < 0 ∨ 119 ≤ (((85 : Int32) + ((3 : Int32) * a1)) + a2).toNatClampNeg then none else
  some (up m 26 (((85 : Int32) + ((3 : Int32) * a1)) + a2).toNatClampNeg a3)
set_option maxHeartbeats 4000000 in
set_option maxRecDepth 100000 in
theorem c4_sets (l : Launch) (G : GT)  (x m : St) (a1 : Int32) (a2 : Int32) (a3 : Int32) (r : St) (h : f4_sets a1 a2 a3 m = some r) : Mt l yX4_sets cX4_sets 4 none (rmF 0 0) G x m [.ref (gq G 25), .int a1, .int a2, .int a3] none x r := by
  refine Mt.of (by decide) (Nat.le_of_ble_eq_true rfl) ?_
  intro p e s mm args below meth c C ls hl hw
  have hx := C.1
  have hb := C.2.1
  have hown := C.2.2.2.2.1
  replace hl : lv_has ls 4 [(0, .ref (gq G 25)), (1, .int a1), (2, .int a2), (3, .int a3)] := hl
  unfold f4_sets at h
  refine lv_aload_n hx hb dX4_sets_0 rfl (lv_at hl 0 rfl) ?_
  refine w_get C hw (v := .ref (gq G 26)) (k := 0) (wk_model G x m) rfl it_4 (by decide) fl_X4_9 rfl dX4_sets_1 ?_
  refine lv_bipush (v := (85 : Int32)) hx hb dX4_sets_4 (by decide) ?_
  refine lv_iconst (v := (3 : Int32)) hx hb dX4_sets_6 (by decide) ?_
  refine lv_iload_n hx hb dX4_sets_7 rfl (lv_at hl 1 rfl) ?_
  refine lv_imul hx hb dX4_sets_8 ?_
  refine lv_iadd hx hb dX4_sets_9 ?_
  refine lv_iload_n hx hb dX4_sets_10 rfl (lv_at hl 2 rfl) ?_
  refine lv_iadd hx hb dX4_sets_11 ?_
  refine lv_iload_n hx hb dX4_sets_12 rfl (lv_at hl 3 rfl) ?_
  obtain ⟨hq, h⟩ := p_if h
  refine w_astM C hw am_26 hq dX4_sets_13 (fun H locs hw => ?_)
  replace h := Option.some.inj h
  subst h
  exact w_vret C hw rfl dX4_sets_14

def f4_becomes  (a1 : Int32) (a2 : Int32) (m : St) : Option (Int32 × St) :=
  if a1 < 0 ∨ 119 ≤ a1.toNatClampNeg then none else
  if a1 < 0 ∨ 119 ≤ a1.toNatClampNeg then none else
  some ((m 26 a1.toNatClampNeg), (up m 26 a1.toNatClampNeg a2))
set_option maxHeartbeats 4000000 in
set_option maxRecDepth 100000 in
theorem c4_becomes (l : Launch) (G : GT)  (x m : St) (a1 : Int32) (a2 : Int32) (r : Int32 × St) (h : f4_becomes a1 a2 m = some r) : Mt l yX4_becomes cX4_becomes 4 (some .int) (rmF 0 0) G x m [.ref (gq G 25), .int a1, .int a2] (some (.int r.1)) x r.2 := by
  refine Mt.of (by decide) (Nat.le_of_ble_eq_true rfl) ?_
  intro p e s mm args below meth c C ls hl hw
  have hx := C.1
  have hb := C.2.1
  have hown := C.2.2.2.2.1
  replace hl : lv_has ls 4 [(0, .ref (gq G 25)), (1, .int a1), (2, .int a2)] := hl
  unfold f4_becomes at h
  refine lv_aload_n hx hb dX4_becomes_0 rfl (lv_at hl 0 rfl) ?_
  refine w_get C hw (v := .ref (gq G 26)) (k := 0) (wk_model G x m) rfl it_4 (by decide) fl_X4_9 rfl dX4_becomes_1 ?_
  refine lv_iload_n hx hb dX4_becomes_4 rfl (lv_at hl 1 rfl) ?_
  obtain ⟨hq, h⟩ := p_if h
  refine w_ald C hw (am_26 G x m).1 hq dX4_becomes_5 ?_
  refine lv_istore_n (lv' := [(3, .int (m 26 a1.toNatClampNeg)), (0, .ref (gq G 25)), (1, .int a1), (2, .int a2)]) hx hb dX4_becomes_6 rfl hl (by decide) rfl (fun ls hl => ?_)
  refine lv_aload_n hx hb dX4_becomes_7 rfl (lv_at hl 1 rfl) ?_
  refine w_get C hw (v := .ref (gq G 26)) (k := 0) (wk_model G x m) rfl it_4 (by decide) fl_X4_9 rfl dX4_becomes_8 ?_
  refine lv_iload_n hx hb dX4_becomes_11 rfl (lv_at hl 2 rfl) ?_
  refine lv_iload_n hx hb dX4_becomes_12 rfl (lv_at hl 3 rfl) ?_
  obtain ⟨hq, h⟩ := p_if h
  refine w_astM C hw am_26 hq dX4_becomes_13 (fun H locs hw => ?_)
  refine lv_iload_n hx hb dX4_becomes_14 rfl (lv_at hl 0 rfl) ?_
  replace h := Option.some.inj h
  subst h
  exact w_iret C hw (v := (m 26 a1.toNatClampNeg)) rfl rfl dX4_becomes_15

def f4_steep  (a1 : Int32) (m : St) : Option (Int32) :=
  (f4_part a1 (0 : Int32) m).bind fun v1 =>
  (f4_part a1 (1 : Int32) m).bind fun v2 =>
  (f4_part v2 (0 : Int32) m).bind fun v3 =>
  some (if (0 : Int32) < (v1 - v3) then (v1 - v3) else (0 : Int32))
set_option maxHeartbeats 4000000 in
set_option maxRecDepth 100000 in
theorem c4_steep (l : Launch) (G : GT)  (x m : St) (a1 : Int32) (r : Int32) (h : f4_steep a1 m = some r) : Mt l yX4_steep cX4_steep 2 (some .int) (rmF 1 22) G x m [.ref (gq G 25), .int a1] (some (.int r)) x m := by
  refine Mt.of (by decide) (Nat.le_of_ble_eq_true rfl) ?_
  intro p e s mm args below meth c C ls hl hw
  have hx := C.1
  have hb := C.2.1
  have hown := C.2.2.2.2.1
  replace hl : lv_has ls 2 [(0, .ref (gq G 25)), (1, .int a1)] := hl
  unfold f4_steep at h
  refine lv_iconst (v := (0 : Int32)) hx hb dX4_steep_0 (by decide) ?_
  refine lv_aload_n hx hb dX4_steep_1 rfl (lv_at hl 0 rfl) ?_
  refine lv_iload_n hx hb dX4_steep_2 rfl (lv_at hl 1 rfl) ?_
  refine lv_iconst (v := (0 : Int32)) hx hb dX4_steep_3 (by decide) ?_
  obtain ⟨v1, hq, h⟩ := p_bd h
  refine w_Vi C hw (As := [.int a1, .int (0 : Int32)]) (rest := [.int (0 : Int32)]) (c4_part l G x m a1 (0 : Int32) v1 hq) kv_X4_part ml_X4_63 ⟨rfl, rfl⟩ ⟨Nat.le_of_ble_eq_true rfl, Nat.le_of_ble_eq_true rfl⟩ ⟨Nat.zero_le _, Nat.zero_le _⟩ (w_recv C hw (wk_model G x m) rfl) rfl rfl (Nat.le_of_ble_eq_true rfl) (lv_sub hl [] rfl) dX4_steep_4 (fun H locs hw => ?_)
  refine lv_aload_n hx hb dX4_steep_7 rfl (lv_at hl 0 rfl) ?_
  refine lv_aload_n hx hb dX4_steep_8 rfl (lv_at hl 0 rfl) ?_
  refine lv_iload_n hx hb dX4_steep_9 rfl (lv_at hl 1 rfl) ?_
  refine lv_iconst (v := (1 : Int32)) hx hb dX4_steep_10 (by decide) ?_
  obtain ⟨v2, hq, h⟩ := p_bd h
  refine w_Vi C hw (As := [.int a1, .int (1 : Int32)]) (rest := [.ref (gq G 25), .int v1, .int (0 : Int32)]) (c4_part l G x m a1 (1 : Int32) v2 hq) kv_X4_part ml_X4_63 ⟨rfl, rfl⟩ ⟨Nat.le_of_ble_eq_true rfl, Nat.le_of_ble_eq_true rfl⟩ ⟨Nat.zero_le _, Nat.zero_le _⟩ (w_recv C hw (wk_model G x m) rfl) rfl rfl (Nat.le_of_ble_eq_true rfl) (lv_sub hl [] rfl) dX4_steep_11 (fun H locs hw => ?_)
  refine lv_iconst (v := (0 : Int32)) hx hb dX4_steep_14 (by decide) ?_
  obtain ⟨v3, hq, h⟩ := p_bd h
  refine w_Vi C hw (As := [.int v2, .int (0 : Int32)]) (rest := [.int v1, .int (0 : Int32)]) (c4_part l G x m v2 (0 : Int32) v3 hq) kv_X4_part ml_X4_63 ⟨rfl, rfl⟩ ⟨Nat.le_of_ble_eq_true rfl, Nat.le_of_ble_eq_true rfl⟩ ⟨Nat.zero_le _, Nat.zero_le _⟩ (w_recv C hw (wk_model G x m) rfl) rfl rfl (Nat.le_of_ble_eq_true rfl) (lv_sub hl [] rfl) dX4_steep_15 (fun H locs hw => ?_)
  refine lv_isub hx hb dX4_steep_18 ?_
  refine w_max C (lv_sub hl [] rfl) ml_X4_66 k_max ⟨Nat.le_of_ble_eq_true rfl, Nat.le_of_ble_eq_true rfl⟩ ⟨Nat.zero_le _, Nat.zero_le _⟩ (Nat.le_of_ble_eq_true rfl) dX4_steep_19 ?_
  replace h := Option.some.inj h
  subst h
  exact w_iret C hw (v := (if (0 : Int32) < (v1 - v3) then (v1 - v3) else (0 : Int32))) rfl rfl dX4_steep_22

def f4_loudAt_b35  (k4 : Int32 → Int32 → Int32 → St → Option (Int32)) (b1 : Int32) (b3 : Int32) (w0 : Int32) (w1 : Int32) (m : St) : Option (Int32) :=
  k4 b1 (w0 + w1) (b3 + (1 : Int32)) m
def f4_loudAt_L4   : Nat → Int32 → Int32 → Int32 → St → Option (Int32)
  | 0, _, _, _, _ => none
  | n + 1, b1, b2, b3, m =>
    if (1 : Int32) < 0 ∨ 119 ≤ (1 : Int32).toNatClampNeg then none else
    if (m 26 (1 : Int32).toNatClampNeg) ≤ b3 then
      some b2
    else
      (f4_its b3 (1 : Int32) m).bind fun v1 =>
      if v1 = b1 then
        (f4_its b3 (2 : Int32) m).bind fun v2 =>
        f4_loudAt_b35 (f4_loudAt_L4 n) b1 b3 b2 v2 m
      else
        f4_loudAt_b35 (f4_loudAt_L4 n) b1 b3 b2 (0 : Int32) m
theorem f4_loudAt_L4_0   (b1 : Int32) (b2 : Int32) (b3 : Int32) (m : St) : f4_loudAt_L4  0 b1 b2 b3 m = none := rfl
theorem f4_loudAt_L4_s   (n : Nat) (b1 : Int32) (b2 : Int32) (b3 : Int32) (m : St) : f4_loudAt_L4  (n + 1) b1 b2 b3 m =
    if (1 : Int32) < 0 ∨ 119 ≤ (1 : Int32).toNatClampNeg then none else
    if (m 26 (1 : Int32).toNatClampNeg) ≤ b3 then
      some b2
    else
      (f4_its b3 (1 : Int32) m).bind fun v1 =>
      if v1 = b1 then
        (f4_its b3 (2 : Int32) m).bind fun v2 =>
        f4_loudAt_b35 (f4_loudAt_L4 n) b1 b3 b2 v2 m
      else
        f4_loudAt_b35 (f4_loudAt_L4 n) b1 b3 b2 (0 : Int32) m := rfl
def f4_loudAt  (a1 : Int32) (m : St) : Option (Int32) :=
  f4_loudAt_L4 fu a1 (0 : Int32) (0 : Int32) m
set_option maxHeartbeats 4000000 in
set_option maxRecDepth 100000 in
theorem c4_loudAt (l : Launch) (G : GT)  (x m : St) (a1 : Int32) (r : Int32) (h : f4_loudAt a1 m = some r) : Mt l yX4_loudAt cX4_loudAt 4 (some .int) (rmF 1 22) G x m [.ref (gq G 25), .int a1] (some (.int r)) x m := by
  refine Mt.of (by decide) (Nat.le_of_ble_eq_true rfl) ?_
  intro p e s mm args below meth c C ls hl hw
  have hx := C.1
  have hb := C.2.1
  have hown := C.2.2.2.2.1
  replace hl : lv_has ls 4 [(0, .ref (gq G 25)), (1, .int a1)] := hl
  have L4 : ∀ (n4 : Nat) (b1 : Int32) (b2 : Int32) (b3 : Int32) (H : Heap) (locs : List Loc) (ls : Array Slot), lv_has ls 4 [(0, .ref (gq G 25)), (1, .int b1), (2, .int b2), (3, .int b3)] → Wd G s x m H locs → f4_loudAt_L4 n4 b1 b2 b3 m = some r → W p l e (rmF 1 22) s mm args below meth c H locs 0 0 (QE below G (some (.int r)) x m args s) (F0 mm 4 ls []) := by
    intro n4
    induction n4 with
    | zero =>
      intro b1 b2 b3  H locs ls hl hw h
      rw [f4_loudAt_L4_0] at h
      exact absurd h.symm (Option.some_ne_none _)
    | succ n4 ih4 =>
      have B35 : ∀ (b1 : Int32) (b3 : Int32) (w0 : Int32) (w1 : Int32) (H : Heap) (locs : List Loc) (ls : Array Slot), lv_has ls 4 [(0, .ref (gq G 25)), (1, .int b1), (3, .int b3)] → Wd G s x m H locs → f4_loudAt_b35 (f4_loudAt_L4 n4) b1 b3 w0 w1 m = some r → W p l e (rmF 1 22) s mm args below meth c H locs 0 0 (QE below G (some (.int r)) x m args s) (F0 mm 35 ls [.int w1, .int w0]) := by
        intro b1 b3 w0 w1  H locs ls hl hw h
        unfold f4_loudAt_b35 at h
        refine lv_iadd hx hb dX4_loudAt_35 ?_
        refine lv_istore_n (lv' := [(2, .int (w0 + w1)), (0, .ref (gq G 25)), (1, .int b1), (3, .int b3)]) hx hb dX4_loudAt_36 rfl hl (by decide) rfl (fun ls hl => ?_)
        refine lv_iinc (v := (b3 + (1 : Int32))) (lv' := [(3, .int (b3 + (1 : Int32))), (2, .int (w0 + w1)), (0, .ref (gq G 25)), (1, .int b1)]) hx hb dX4_loudAt_37 hl (k := 3) rfl rfl (by decide) rfl (fun ls hl => ?_)
        refine lv_goto (tgt := 4) hx hb dX4_loudAt_40 (by decide) ?_
        exact ih4 b1 (w0 + w1) (b3 + (1 : Int32)) _ _ _ (lv_sub hl [2, 3, 1, 0] rfl) hw h
      intro b1 b2 b3  H locs ls hl hw h
      rw [f4_loudAt_L4_s] at h
      refine lv_iload_n hx hb dX4_loudAt_4 rfl (lv_at hl 3 rfl) ?_
      refine lv_aload_n hx hb dX4_loudAt_5 rfl (lv_at hl 0 rfl) ?_
      refine w_get C hw (v := .ref (gq G 26)) (k := 0) (wk_model G x m) rfl it_4 (by decide) fl_X4_9 rfl dX4_loudAt_6 ?_
      refine lv_iconst (v := (1 : Int32)) hx hb dX4_loudAt_9 (by decide) ?_
      obtain ⟨hq, h⟩ := p_if h
      refine w_ald C hw (am_26 G x m).1 hq dX4_loudAt_10 ?_
      refine lv_icmp_ge (tgt := 43) hx hb dX4_loudAt_11 (by decide) (fun hc => ?_) (fun hc => ?_)
      · replace h := p_t hc h
        refine lv_iload_n hx hb dX4_loudAt_43 rfl (lv_at hl 2 rfl) ?_
        replace h := Option.some.inj h
        subst h
        exact w_iret C hw (v := b2) rfl rfl dX4_loudAt_44
      · replace h := p_f hc h
        refine lv_iload_n hx hb dX4_loudAt_14 rfl (lv_at hl 2 rfl) ?_
        refine lv_aload_n hx hb dX4_loudAt_15 rfl (lv_at hl 0 rfl) ?_
        refine lv_iload_n hx hb dX4_loudAt_16 rfl (lv_at hl 3 rfl) ?_
        refine lv_iconst (v := (1 : Int32)) hx hb dX4_loudAt_17 (by decide) ?_
        obtain ⟨v1, hq, h⟩ := p_bd h
        refine w_Vi C hw (As := [.int b3, .int (1 : Int32)]) (rest := [.int b2]) (c4_its l G x m b3 (1 : Int32) v1 hq) kv_X4_its ml_X4_69 ⟨rfl, rfl⟩ ⟨Nat.le_of_ble_eq_true rfl, Nat.le_of_ble_eq_true rfl⟩ ⟨Nat.zero_le _, Nat.zero_le _⟩ (w_recv C hw (wk_model G x m) rfl) rfl rfl (Nat.le_of_ble_eq_true rfl) (lv_sub hl [] rfl) dX4_loudAt_18 (fun H locs hw => ?_)
        refine lv_iload_n hx hb dX4_loudAt_21 rfl (lv_at hl 1 rfl) ?_
        refine lv_icmp_ne (tgt := 34) hx hb dX4_loudAt_22 (by decide) (fun hc => ?_) (fun hc => ?_)
        · replace h := p_f hc h
          refine lv_iconst (v := (0 : Int32)) hx hb dX4_loudAt_34 (by decide) ?_
          exact B35 b1 b3 b2 (0 : Int32) _ _ _ (lv_sub hl [0, 1, 3] rfl) hw h
        · replace h := p_t hc h
          refine lv_aload_n hx hb dX4_loudAt_25 rfl (lv_at hl 0 rfl) ?_
          refine lv_iload_n hx hb dX4_loudAt_26 rfl (lv_at hl 3 rfl) ?_
          refine lv_iconst (v := (2 : Int32)) hx hb dX4_loudAt_27 (by decide) ?_
          obtain ⟨v2, hq, h⟩ := p_bd h
          refine w_Vi C hw (As := [.int b3, .int (2 : Int32)]) (rest := [.int b2]) (c4_its l G x m b3 (2 : Int32) v2 hq) kv_X4_its ml_X4_69 ⟨rfl, rfl⟩ ⟨Nat.le_of_ble_eq_true rfl, Nat.le_of_ble_eq_true rfl⟩ ⟨Nat.zero_le _, Nat.zero_le _⟩ (w_recv C hw (wk_model G x m) rfl) rfl rfl (Nat.le_of_ble_eq_true rfl) (lv_sub hl [] rfl) dX4_loudAt_28 (fun H locs hw => ?_)
          refine lv_goto (tgt := 35) hx hb dX4_loudAt_31 (by decide) ?_
          exact B35 b1 b3 b2 v2 _ _ _ (lv_sub hl [0, 1, 3] rfl) hw h
  unfold f4_loudAt at h
  refine lv_iconst (v := (0 : Int32)) hx hb dX4_loudAt_0 (by decide) ?_
  refine lv_istore_n (lv' := [(2, .int (0 : Int32)), (0, .ref (gq G 25)), (1, .int a1)]) hx hb dX4_loudAt_1 rfl hl (by decide) rfl (fun ls hl => ?_)
  refine lv_iconst (v := (0 : Int32)) hx hb dX4_loudAt_2 (by decide) ?_
  refine lv_istore_n (lv' := [(3, .int (0 : Int32)), (2, .int (0 : Int32)), (0, .ref (gq G 25)), (1, .int a1)]) hx hb dX4_loudAt_3 rfl hl (by decide) rfl (fun ls hl => ?_)
  exact L4 fu a1 (0 : Int32) (0 : Int32) _ _ _ (lv_sub hl [2, 3, 1, 0] rfl) hw h

def f4_isHeard  (a1 : Int32) (m : St) : Option (Int32) :=
  (f4_loudAt a1 m).bind fun v1 =>
  (f4_part a1 (4 : Int32) m).bind fun v2 =>
  if v1 < v2 then
    some (0 : Int32)
  else
    some (1 : Int32)
set_option maxHeartbeats 4000000 in
set_option maxRecDepth 100000 in
theorem c4_isHeard (l : Launch) (G : GT)  (x m : St) (a1 : Int32) (r : Int32) (h : f4_isHeard a1 m = some r) : Mt l yX4_isHeard cX4_isHeard 2 (some .boolean) (rmF 2 45) G x m [.ref (gq G 25), .int a1] (some (.int r)) x m := by
  refine Mt.of (by decide) (Nat.le_of_ble_eq_true rfl) ?_
  intro p e s mm args below meth c C ls hl hw
  have hx := C.1
  have hb := C.2.1
  have hown := C.2.2.2.2.1
  replace hl : lv_has ls 2 [(0, .ref (gq G 25)), (1, .int a1)] := hl
  unfold f4_isHeard at h
  refine lv_aload_n hx hb dX4_isHeard_0 rfl (lv_at hl 0 rfl) ?_
  refine lv_iload_n hx hb dX4_isHeard_1 rfl (lv_at hl 1 rfl) ?_
  obtain ⟨v1, hq, h⟩ := p_bd h
  refine w_Vi C hw (As := [.int a1]) (rest := []) (c4_loudAt l G x m a1 v1 hq) kv_X4_loudAt ml_X4_72 ⟨rfl, rfl⟩ ⟨Nat.le_of_ble_eq_true rfl, Nat.le_of_ble_eq_true rfl⟩ ⟨Nat.zero_le _, Nat.zero_le _⟩ (w_recv C hw (wk_model G x m) rfl) rfl rfl (Nat.le_of_ble_eq_true rfl) (lv_sub hl [] rfl) dX4_isHeard_2 (fun H locs hw => ?_)
  refine lv_aload_n hx hb dX4_isHeard_5 rfl (lv_at hl 0 rfl) ?_
  refine lv_iload_n hx hb dX4_isHeard_6 rfl (lv_at hl 1 rfl) ?_
  refine lv_iconst (v := (4 : Int32)) hx hb dX4_isHeard_7 (by decide) ?_
  obtain ⟨v2, hq, h⟩ := p_bd h
  refine w_Vi C hw (As := [.int a1, .int (4 : Int32)]) (rest := [.int v1]) (c4_part l G x m a1 (4 : Int32) v2 hq) kv_X4_part ml_X4_63 ⟨rfl, rfl⟩ ⟨Nat.le_of_ble_eq_true rfl, Nat.le_of_ble_eq_true rfl⟩ ⟨Nat.zero_le _, Nat.zero_le _⟩ (w_recv C hw (wk_model G x m) rfl) rfl rfl (Nat.le_of_ble_eq_true rfl) (lv_sub hl [] rfl) dX4_isHeard_8 (fun H locs hw => ?_)
  refine lv_icmp_lt (tgt := 18) hx hb dX4_isHeard_11 (by decide) (fun hc => ?_) (fun hc => ?_)
  · replace h := p_t hc h
    refine lv_iconst (v := (0 : Int32)) hx hb dX4_isHeard_18 (by decide) ?_
    replace h := Option.some.inj h
    subst h
    exact w_iret C hw (v := (0 : Int32)) rfl rfl dX4_isHeard_19
  · replace h := p_f hc h
    refine lv_iconst (v := (1 : Int32)) hx hb dX4_isHeard_14 (by decide) ?_
    refine lv_goto (tgt := 19) hx hb dX4_isHeard_15 (by decide) ?_
    replace h := Option.some.inj h
    subst h
    exact w_iret C hw (v := (1 : Int32)) rfl rfl dX4_isHeard_19

def f4_rent  (a1 : Int32) (m : St) : Option (Int32) :=
  (f4_part a1 (0 : Int32) m).bind fun v1 =>
  (f4_loudAt a1 m).bind fun v2 =>
  some (v1 + (if (0 : Int32) < ((50 : Int32) - v2) then ((50 : Int32) - v2) else (0 : Int32)))
set_option maxHeartbeats 4000000 in
set_option maxRecDepth 100000 in
theorem c4_rent (l : Launch) (G : GT)  (x m : St) (a1 : Int32) (r : Int32) (h : f4_rent a1 m = some r) : Mt l yX4_rent cX4_rent 2 (some .int) (rmF 2 45) G x m [.ref (gq G 25), .int a1] (some (.int r)) x m := by
  refine Mt.of (by decide) (Nat.le_of_ble_eq_true rfl) ?_
  intro p e s mm args below meth c C ls hl hw
  have hx := C.1
  have hb := C.2.1
  have hown := C.2.2.2.2.1
  replace hl : lv_has ls 2 [(0, .ref (gq G 25)), (1, .int a1)] := hl
  unfold f4_rent at h
  refine lv_aload_n hx hb dX4_rent_0 rfl (lv_at hl 0 rfl) ?_
  refine lv_iload_n hx hb dX4_rent_1 rfl (lv_at hl 1 rfl) ?_
  refine lv_iconst (v := (0 : Int32)) hx hb dX4_rent_2 (by decide) ?_
  obtain ⟨v1, hq, h⟩ := p_bd h
  refine w_Vi C hw (As := [.int a1, .int (0 : Int32)]) (rest := []) (c4_part l G x m a1 (0 : Int32) v1 hq) kv_X4_part ml_X4_63 ⟨rfl, rfl⟩ ⟨Nat.le_of_ble_eq_true rfl, Nat.le_of_ble_eq_true rfl⟩ ⟨Nat.zero_le _, Nat.zero_le _⟩ (w_recv C hw (wk_model G x m) rfl) rfl rfl (Nat.le_of_ble_eq_true rfl) (lv_sub hl [] rfl) dX4_rent_3 (fun H locs hw => ?_)
  refine lv_iconst (v := (0 : Int32)) hx hb dX4_rent_6 (by decide) ?_
  refine lv_bipush (v := (50 : Int32)) hx hb dX4_rent_7 (by decide) ?_
  refine lv_aload_n hx hb dX4_rent_9 rfl (lv_at hl 0 rfl) ?_
  refine lv_iload_n hx hb dX4_rent_10 rfl (lv_at hl 1 rfl) ?_
  obtain ⟨v2, hq, h⟩ := p_bd h
  refine w_Vi C hw (As := [.int a1]) (rest := [.int (50 : Int32), .int (0 : Int32), .int v1]) (c4_loudAt l G x m a1 v2 hq) kv_X4_loudAt ml_X4_72 ⟨rfl, rfl⟩ ⟨Nat.le_of_ble_eq_true rfl, Nat.le_of_ble_eq_true rfl⟩ ⟨Nat.zero_le _, Nat.zero_le _⟩ (w_recv C hw (wk_model G x m) rfl) rfl rfl (Nat.le_of_ble_eq_true rfl) (lv_sub hl [] rfl) dX4_rent_11 (fun H locs hw => ?_)
  refine lv_isub hx hb dX4_rent_14 ?_
  refine w_max C (lv_sub hl [] rfl) ml_X4_66 k_max ⟨Nat.le_of_ble_eq_true rfl, Nat.le_of_ble_eq_true rfl⟩ ⟨Nat.zero_le _, Nat.zero_le _⟩ (Nat.le_of_ble_eq_true rfl) dX4_rent_15 ?_
  refine lv_iadd hx hb dX4_rent_18 ?_
  replace h := Option.some.inj h
  subst h
  exact w_iret C hw (v := (v1 + (if (0 : Int32) < ((50 : Int32) - v2) then ((50 : Int32) - v2) else (0 : Int32)))) rfl rfl dX4_rent_19

def f4_corner_b19    (m : St) : Option (Int32 × St) :=
  (f4_finds (0 : Int32) m).bind fun q => match q with
  | (v7, z6) =>
    some (v7, z6)
def f4_corner  (a1 : Int32) (a2 : Int32) (m : St) : Option (Int32 × St) :=
  if (f4_isCorner a1) = 0 then
    f4_corner_b19 m
  else
    if (f4_in (a2.toInt64) (0 : Int64) (8 : Int64)) = 0 then
      f4_corner_b19 m
    else
      if a2 = (5 : Int32) then
        (f4_steep a1 m).bind fun v1 =>
        some (v1, m)
      else
      if a2 = (6 : Int32) then
        (f4_loudAt a1 m).bind fun v2 =>
        some (v2, m)
      else
      if a2 = (7 : Int32) then
        (f4_isHeard a1 m).bind fun v3 =>
        if v3 = 0 then
          some ((0 : Int32), m)
        else
          some ((1 : Int32), m)
      else
      if a2 = (8 : Int32) then
        (f4_rent a1 m).bind fun v4 =>
        some (v4, m)
      else
        (f4_part a1 a2 m).bind fun v5 =>
        some (v5, m)
set_option maxHeartbeats 4000000 in
set_option maxRecDepth 100000 in
theorem c4_corner (l : Launch) (G : GT)  (x m : St) (a1 : Int32) (a2 : Int32) (r : Int32 × St) (h : f4_corner a1 a2 m = some r) : Mt l yX4_corner cX4_corner 3 (some .int) (rmF 3 66) G x m [.ref (gq G 25), .int a1, .int a2] (some (.int r.1)) x r.2 := by
  refine Mt.of (by decide) (Nat.le_of_ble_eq_true rfl) ?_
  intro p e s mm args below meth c C ls hl hw
  have hx := C.1
  have hb := C.2.1
  have hown := C.2.2.2.2.1
  replace hl : lv_has ls 3 [(0, .ref (gq G 25)), (1, .int a1), (2, .int a2)] := hl
  have B19 : ∀  (m : St) (H : Heap) (locs : List Loc) (ls : Array Slot), lv_has ls 3 [(0, .ref (gq G 25))] → Wd G s x m H locs → f4_corner_b19 m = some r → W p l e (rmF 3 66) s mm args below meth c H locs 0 0 (QE below G (some (.int r.1)) x r.2 args s) (F0 mm 19 ls []) := by
    intro  m H locs ls hl hw h
    unfold f4_corner_b19 at h
    refine lv_aload_n hx hb dX4_corner_19 rfl (lv_at hl 0 rfl) ?_
    refine lv_iconst (v := (0 : Int32)) hx hb dX4_corner_20 (by decide) ?_
    obtain ⟨⟨v7, z6⟩, hq, h⟩ := p_bd h
    dsimp only at h
    refine w_Vi C hw (As := [.int (0 : Int32)]) (rest := []) (c4_finds l G x m (0 : Int32) (v7, z6) hq) kv_X4_finds ml_X4_82 ⟨rfl, rfl⟩ ⟨Nat.le_of_ble_eq_true rfl, Nat.le_of_ble_eq_true rfl⟩ ⟨Nat.zero_le _, Nat.zero_le _⟩ (w_recv C hw (wk_model G x m) rfl) rfl rfl (Nat.le_of_ble_eq_true rfl) (lv_sub hl [] rfl) dX4_corner_21 (fun H locs hw => ?_)
    replace h := Option.some.inj h
    subst h
    exact w_iret C hw (v := v7) rfl rfl dX4_corner_24
  unfold f4_corner at h
  refine lv_iload_n hx hb dX4_corner_0 rfl (lv_at hl 1 rfl) ?_
  refine w_Si C hw (As := [.int a1]) (rest := []) (c4_isCorner l G x m a1 _ rfl) ks_X4_isCorner ml_X4_76 ⟨rfl, rfl⟩ ⟨Nat.le_of_ble_eq_true rfl, Nat.le_of_ble_eq_true rfl⟩ ⟨Nat.zero_le _, Nat.zero_le _⟩ rfl rfl (Nat.le_of_ble_eq_true rfl) (lv_sub hl [] rfl) dX4_corner_1 (fun H locs hw => ?_)
  refine lv_if_eq (tgt := 19) hx hb dX4_corner_4 (by decide) (fun hc => ?_) (fun hc => ?_)
  · replace h := p_t hc h
    exact B19 m _ _ _ (lv_sub hl [0] rfl) hw h
  · replace h := p_f hc h
    refine lv_iload_n hx hb dX4_corner_7 rfl (lv_at hl 2 rfl) ?_
    refine lv_i2l hx hb dX4_corner_8 rfl ?_
    refine lv_lconst (v := (0 : Int64)) hx hb dX4_corner_9 (by decide) ?_
    refine lv_ldc2 hx hb hown (C.w kl_X4_80) dX4_corner_10 ?_
    refine w_Si C hw (As := [.long (a2.toInt64), .long (0 : Int64), .long (8 : Int64)]) (rest := []) (c4_in l G x m (a2.toInt64) (0 : Int64) (8 : Int64) _ rfl) ks_X4_in ml_X4_57 ⟨rfl, rfl⟩ ⟨Nat.le_of_ble_eq_true rfl, Nat.le_of_ble_eq_true rfl⟩ ⟨Nat.zero_le _, Nat.zero_le _⟩ rfl rfl (Nat.le_of_ble_eq_true rfl) (lv_sub hl [] rfl) dX4_corner_13 (fun H locs hw => ?_)
    refine lv_if_ne (tgt := 25) hx hb dX4_corner_16 (by decide) (fun hc => ?_) (fun hc => ?_)
    · replace h := p_f hc h
      refine lv_iload_n hx hb dX4_corner_25 rfl (lv_at hl 2 rfl) ?_
      by_cases hc0 : a2 = (5 : Int32)
      · replace h := p_t hc0 h
        refine lv_tableIn (tgt := 56) hx hb dX4_corner_26 (by rw [hc0]; decide) (by rw [hc0]; decide) (by rw [hc0]; rfl) (by decide) ?_
        refine lv_aload_n hx hb dX4_corner_56 rfl (lv_at hl 0 rfl) ?_
        refine lv_iload_n hx hb dX4_corner_57 rfl (lv_at hl 1 rfl) ?_
        obtain ⟨v1, hq, h⟩ := p_bd h
        refine w_Vi C hw (As := [.int a1]) (rest := []) (c4_steep l G x m a1 v1 hq) kv_X4_steep ml_X4_85 ⟨rfl, rfl⟩ ⟨Nat.le_of_ble_eq_true rfl, Nat.le_of_ble_eq_true rfl⟩ ⟨Nat.zero_le _, Nat.zero_le _⟩ (w_recv C hw (wk_model G x m) rfl) rfl rfl (Nat.le_of_ble_eq_true rfl) (lv_sub hl [] rfl) dX4_corner_58 (fun H locs hw => ?_)
        replace h := Option.some.inj h
        subst h
        exact w_iret C hw (v := v1) rfl rfl dX4_corner_61
      · replace h := p_f hc0 h
        by_cases hc1 : a2 = (6 : Int32)
        · replace h := p_t hc1 h
          refine lv_tableIn (tgt := 62) hx hb dX4_corner_26 (by rw [hc1]; decide) (by rw [hc1]; decide) (by rw [hc1]; rfl) (by decide) ?_
          refine lv_aload_n hx hb dX4_corner_62 rfl (lv_at hl 0 rfl) ?_
          refine lv_iload_n hx hb dX4_corner_63 rfl (lv_at hl 1 rfl) ?_
          obtain ⟨v2, hq, h⟩ := p_bd h
          refine w_Vi C hw (As := [.int a1]) (rest := []) (c4_loudAt l G x m a1 v2 hq) kv_X4_loudAt ml_X4_72 ⟨rfl, rfl⟩ ⟨Nat.le_of_ble_eq_true rfl, Nat.le_of_ble_eq_true rfl⟩ ⟨Nat.zero_le _, Nat.zero_le _⟩ (w_recv C hw (wk_model G x m) rfl) rfl rfl (Nat.le_of_ble_eq_true rfl) (lv_sub hl [] rfl) dX4_corner_64 (fun H locs hw => ?_)
          replace h := Option.some.inj h
          subst h
          exact w_iret C hw (v := v2) rfl rfl dX4_corner_67
        · replace h := p_f hc1 h
          by_cases hc2 : a2 = (7 : Int32)
          · replace h := p_t hc2 h
            refine lv_tableIn (tgt := 68) hx hb dX4_corner_26 (by rw [hc2]; decide) (by rw [hc2]; decide) (by rw [hc2]; rfl) (by decide) ?_
            refine lv_aload_n hx hb dX4_corner_68 rfl (lv_at hl 0 rfl) ?_
            refine lv_iload_n hx hb dX4_corner_69 rfl (lv_at hl 1 rfl) ?_
            obtain ⟨v3, hq, h⟩ := p_bd h
            refine w_Vi C hw (As := [.int a1]) (rest := []) (c4_isHeard l G x m a1 v3 hq) kv_X4_isHeard ml_X4_88 ⟨rfl, rfl⟩ ⟨Nat.le_of_ble_eq_true rfl, Nat.le_of_ble_eq_true rfl⟩ ⟨Nat.zero_le _, Nat.zero_le _⟩ (w_recv C hw (wk_model G x m) rfl) rfl rfl (Nat.le_of_ble_eq_true rfl) (lv_sub hl [] rfl) dX4_corner_70 (fun H locs hw => ?_)
            refine lv_if_eq (tgt := 80) hx hb dX4_corner_73 (by decide) (fun hc => ?_) (fun hc => ?_)
            · replace h := p_t hc h
              refine lv_iconst (v := (0 : Int32)) hx hb dX4_corner_80 (by decide) ?_
              replace h := Option.some.inj h
              subst h
              exact w_iret C hw (v := (0 : Int32)) rfl rfl dX4_corner_81
            · replace h := p_f hc h
              refine lv_iconst (v := (1 : Int32)) hx hb dX4_corner_76 (by decide) ?_
              refine lv_goto (tgt := 81) hx hb dX4_corner_77 (by decide) ?_
              replace h := Option.some.inj h
              subst h
              exact w_iret C hw (v := (1 : Int32)) rfl rfl dX4_corner_81
          · replace h := p_f hc2 h
            by_cases hc3 : a2 = (8 : Int32)
            · replace h := p_t hc3 h
              refine lv_tableIn (tgt := 82) hx hb dX4_corner_26 (by rw [hc3]; decide) (by rw [hc3]; decide) (by rw [hc3]; rfl) (by decide) ?_
              refine lv_aload_n hx hb dX4_corner_82 rfl (lv_at hl 0 rfl) ?_
              refine lv_iload_n hx hb dX4_corner_83 rfl (lv_at hl 1 rfl) ?_
              obtain ⟨v4, hq, h⟩ := p_bd h
              refine w_Vi C hw (As := [.int a1]) (rest := []) (c4_rent l G x m a1 v4 hq) kv_X4_rent ml_X4_91 ⟨rfl, rfl⟩ ⟨Nat.le_of_ble_eq_true rfl, Nat.le_of_ble_eq_true rfl⟩ ⟨Nat.zero_le _, Nat.zero_le _⟩ (w_recv C hw (wk_model G x m) rfl) rfl rfl (Nat.le_of_ble_eq_true rfl) (lv_sub hl [] rfl) dX4_corner_84 (fun H locs hw => ?_)
              replace h := Option.some.inj h
              subst h
              exact w_iret C hw (v := v4) rfl rfl dX4_corner_87
            · replace h := p_f hc3 h
              refine lv_tableOut (tgt := 88) hx hb dX4_corner_26 (by have q0 : ¬ a2.toInt = 5 := lv_neT hc0 rfl; have q1 : ¬ a2.toInt = 6 := lv_neT hc1 rfl; have q2 : ¬ a2.toInt = 7 := lv_neT hc2 rfl; have q3 : ¬ a2.toInt = 8 := lv_neT hc3 rfl; omega) (by decide) ?_
              refine lv_aload_n hx hb dX4_corner_88 rfl (lv_at hl 0 rfl) ?_
              refine lv_iload_n hx hb dX4_corner_89 rfl (lv_at hl 1 rfl) ?_
              refine lv_iload_n hx hb dX4_corner_90 rfl (lv_at hl 2 rfl) ?_
              obtain ⟨v5, hq, h⟩ := p_bd h
              refine w_Vi C hw (As := [.int a1, .int a2]) (rest := []) (c4_part l G x m a1 a2 v5 hq) kv_X4_part ml_X4_63 ⟨rfl, rfl⟩ ⟨Nat.le_of_ble_eq_true rfl, Nat.le_of_ble_eq_true rfl⟩ ⟨Nat.zero_le _, Nat.zero_le _⟩ (w_recv C hw (wk_model G x m) rfl) rfl rfl (Nat.le_of_ble_eq_true rfl) (lv_sub hl [] rfl) dX4_corner_91 (fun H locs hw => ?_)
              replace h := Option.some.inj h
              subst h
              exact w_iret C hw (v := v5) rfl rfl dX4_corner_94
    · replace h := p_t hc h
      exact B19 m _ _ _ (lv_sub hl [0] rfl) hw h

def f4_mostOf  (a1 : Int32) : Int32 :=
  if a1 = (1 : Int32) then
    (15 : Int32)
  else
    if a1 = (2 : Int32) then
      (9 : Int32)
    else
      (99 : Int32)
set_option maxHeartbeats 4000000 in
set_option maxRecDepth 100000 in
theorem c4_mostOf (l : Launch) (G : GT)  (x m : St) (a1 : Int32) (r : Int32) (h : f4_mostOf a1 = r) : Mt l yX4_mostOf cX4_mostOf 1 (some .int) (rmF 0 0) G x m [.int a1] (some (.int r)) x m := by
  refine Mt.of (by decide) (Nat.le_of_ble_eq_true rfl) ?_
  intro p e s mm args below meth c C ls hl hw
  have hx := C.1
  have hb := C.2.1
  have hown := C.2.2.2.2.1
  replace hl : lv_has ls 1 [(0, .int a1)] := hl
  unfold f4_mostOf at h
  refine lv_iload_n hx hb dX4_mostOf_0 rfl (lv_at hl 0 rfl) ?_
  refine lv_iconst (v := (1 : Int32)) hx hb dX4_mostOf_1 (by decide) ?_
  refine lv_icmp_ne (tgt := 10) hx hb dX4_mostOf_2 (by decide) (fun hc => ?_) (fun hc => ?_)
  · replace h := p_f hc h
    refine lv_iload_n hx hb dX4_mostOf_10 rfl (lv_at hl 0 rfl) ?_
    refine lv_iconst (v := (2 : Int32)) hx hb dX4_mostOf_11 (by decide) ?_
    refine lv_icmp_ne (tgt := 20) hx hb dX4_mostOf_12 (by decide) (fun hc => ?_) (fun hc => ?_)
    · replace h := p_f hc h
      refine lv_bipush (v := (99 : Int32)) hx hb dX4_mostOf_20 (by decide) ?_
      subst h
      exact w_iret C hw (v := (99 : Int32)) rfl rfl dX4_mostOf_22
    · replace h := p_t hc h
      refine lv_bipush (v := (9 : Int32)) hx hb dX4_mostOf_15 (by decide) ?_
      refine lv_goto (tgt := 22) hx hb dX4_mostOf_17 (by decide) ?_
      subst h
      exact w_iret C hw (v := (9 : Int32)) rfl rfl dX4_mostOf_22
  · replace h := p_t hc h
    refine lv_bipush (v := (15 : Int32)) hx hb dX4_mostOf_5 (by decide) ?_
    refine lv_goto (tgt := 22) hx hb dX4_mostOf_7 (by decide) ?_
    subst h
    exact w_iret C hw (v := (15 : Int32)) rfl rfl dX4_mostOf_22

def f4_build_b38   (b1 : Int32) (b2 : Int32) (b3 : Int32) (w0 : Int32) (m : St) : Option (Int32 × St) :=
  if w0 = 0 then
    (f4_finds (0 : Int32) m).bind fun q => match q with
    | (v2, z1) =>
      some (v2, z1)
  else
    (f4_becomes (((5 : Int32) + ((5 : Int32) * b1)) + b2) b3 m).bind fun q => match q with
    | (v4, z3) =>
      some (v4, z3)
def f4_build_b37   (b1 : Int32) (b2 : Int32) (b3 : Int32) (m : St) : Option (Int32 × St) :=
  f4_build_b38 b1 b2 b3 (0 : Int32) m
def f4_build  (a1 : Int32) (a2 : Int32) (a3 : Int32) (m : St) : Option (Int32 × St) :=
  if (f4_isCorner a1) = 0 then
    f4_build_b37 a1 a2 a3 m
  else
    if (f4_in (a2.toInt64) (0 : Int64) (4 : Int64)) = 0 then
      f4_build_b37 a1 a2 a3 m
    else
      if (f4_in (a3.toInt64) (0 : Int64) ((f4_mostOf a2).toInt64)) = 0 then
        f4_build_b37 a1 a2 a3 m
      else
        f4_build_b38 a1 a2 a3 (1 : Int32) m
set_option maxHeartbeats 4000000 in
set_option maxRecDepth 100000 in
theorem c4_build (l : Launch) (G : GT)  (x m : St) (a1 : Int32) (a2 : Int32) (a3 : Int32) (r : Int32 × St) (h : f4_build a1 a2 a3 m = some r) : Mt l yX4_build cX4_build 5 (some .int) (rmF 2 45) G x m [.ref (gq G 25), .int a1, .int a2, .int a3] (some (.int r.1)) x r.2 := by
  refine Mt.of (by decide) (Nat.le_of_ble_eq_true rfl) ?_
  intro p e s mm args below meth c C ls hl hw
  have hx := C.1
  have hb := C.2.1
  have hown := C.2.2.2.2.1
  replace hl : lv_has ls 5 [(0, .ref (gq G 25)), (1, .int a1), (2, .int a2), (3, .int a3)] := hl
  have B38 : ∀ (b1 : Int32) (b2 : Int32) (b3 : Int32) (w0 : Int32) (m : St) (H : Heap) (locs : List Loc) (ls : Array Slot), lv_has ls 5 [(0, .ref (gq G 25)), (1, .int b1), (2, .int b2), (3, .int b3)] → Wd G s x m H locs → f4_build_b38 b1 b2 b3 w0 m = some r → W p l e (rmF 2 45) s mm args below meth c H locs 0 0 (QE below G (some (.int r.1)) x r.2 args s) (F0 mm 38 ls [.int w0]) := by
    intro b1 b2 b3 w0 m H locs ls hl hw h
    unfold f4_build_b38 at h
    refine lv_istore (lv' := [(4, .int w0), (0, .ref (gq G 25)), (1, .int b1), (2, .int b2), (3, .int b3)]) hx hb dX4_build_38 hl (by decide) rfl (fun ls hl => ?_)
    refine lv_iload hx hb dX4_build_40 (lv_at hl 0 rfl) ?_
    refine lv_if_eq (tgt := 60) hx hb dX4_build_42 (by decide) (fun hc => ?_) (fun hc => ?_)
    · replace h := p_t hc h
      refine lv_aload_n hx hb dX4_build_60 rfl (lv_at hl 1 rfl) ?_
      refine lv_iconst (v := (0 : Int32)) hx hb dX4_build_61 (by decide) ?_
      obtain ⟨⟨v2, z1⟩, hq, h⟩ := p_bd h
      dsimp only at h
      refine w_Vi C hw (As := [.int (0 : Int32)]) (rest := []) (c4_finds l G x m (0 : Int32) (v2, z1) hq) kv_X4_finds ml_X4_82 ⟨rfl, rfl⟩ ⟨Nat.le_of_ble_eq_true rfl, Nat.le_of_ble_eq_true rfl⟩ ⟨Nat.zero_le _, Nat.zero_le _⟩ (w_recv C hw (wk_model G x m) rfl) rfl rfl (Nat.le_of_ble_eq_true rfl) (lv_sub hl [] rfl) dX4_build_62 (fun H locs hw => ?_)
      replace h := Option.some.inj h
      subst h
      exact w_iret C hw (v := v2) rfl rfl dX4_build_65
    · replace h := p_f hc h
      refine lv_aload_n hx hb dX4_build_45 rfl (lv_at hl 1 rfl) ?_
      refine lv_iconst (v := (5 : Int32)) hx hb dX4_build_46 (by decide) ?_
      refine lv_iconst (v := (5 : Int32)) hx hb dX4_build_47 (by decide) ?_
      refine lv_iload_n hx hb dX4_build_48 rfl (lv_at hl 2 rfl) ?_
      refine lv_imul hx hb dX4_build_49 ?_
      refine lv_iadd hx hb dX4_build_50 ?_
      refine lv_iload_n hx hb dX4_build_51 rfl (lv_at hl 3 rfl) ?_
      refine lv_iadd hx hb dX4_build_52 ?_
      refine lv_iload_n hx hb dX4_build_53 rfl (lv_at hl 4 rfl) ?_
      obtain ⟨⟨v4, z3⟩, hq, h⟩ := p_bd h
      dsimp only at h
      refine w_Vi C hw (As := [.int (((5 : Int32) + ((5 : Int32) * b1)) + b2), .int b3]) (rest := []) (c4_becomes l G x m (((5 : Int32) + ((5 : Int32) * b1)) + b2) b3 (v4, z3) hq) kv_X4_becomes ml_X4_99 ⟨rfl, rfl⟩ ⟨Nat.le_of_ble_eq_true rfl, Nat.le_of_ble_eq_true rfl⟩ ⟨Nat.zero_le _, Nat.zero_le _⟩ (w_recv C hw (wk_model G x m) rfl) rfl rfl (Nat.le_of_ble_eq_true rfl) (lv_sub hl [] rfl) dX4_build_54 (fun H locs hw => ?_)
      refine lv_goto (tgt := 65) hx hb dX4_build_57 (by decide) ?_
      replace h := Option.some.inj h
      subst h
      exact w_iret C hw (v := v4) rfl rfl dX4_build_65
  have B37 : ∀ (b1 : Int32) (b2 : Int32) (b3 : Int32) (m : St) (H : Heap) (locs : List Loc) (ls : Array Slot), lv_has ls 5 [(0, .ref (gq G 25)), (1, .int b1), (2, .int b2), (3, .int b3)] → Wd G s x m H locs → f4_build_b37 b1 b2 b3 m = some r → W p l e (rmF 2 45) s mm args below meth c H locs 0 0 (QE below G (some (.int r.1)) x r.2 args s) (F0 mm 37 ls []) := by
    intro b1 b2 b3 m H locs ls hl hw h
    unfold f4_build_b37 at h
    refine lv_iconst (v := (0 : Int32)) hx hb dX4_build_37 (by decide) ?_
    exact B38 b1 b2 b3 (0 : Int32) m _ _ _ (lv_sub hl [0, 1, 2, 3] rfl) hw h
  unfold f4_build at h
  refine lv_iload_n hx hb dX4_build_0 rfl (lv_at hl 1 rfl) ?_
  refine w_Si C hw (As := [.int a1]) (rest := []) (c4_isCorner l G x m a1 _ rfl) ks_X4_isCorner ml_X4_76 ⟨rfl, rfl⟩ ⟨Nat.le_of_ble_eq_true rfl, Nat.le_of_ble_eq_true rfl⟩ ⟨Nat.zero_le _, Nat.zero_le _⟩ rfl rfl (Nat.le_of_ble_eq_true rfl) (lv_sub hl [] rfl) dX4_build_1 (fun H locs hw => ?_)
  refine lv_if_eq (tgt := 37) hx hb dX4_build_4 (by decide) (fun hc => ?_) (fun hc => ?_)
  · replace h := p_t hc h
    exact B37 a1 a2 a3 m _ _ _ (lv_sub hl [0, 1, 2, 3] rfl) hw h
  · replace h := p_f hc h
    refine lv_iload_n hx hb dX4_build_7 rfl (lv_at hl 2 rfl) ?_
    refine lv_i2l hx hb dX4_build_8 rfl ?_
    refine lv_lconst (v := (0 : Int64)) hx hb dX4_build_9 (by decide) ?_
    refine lv_ldc2 hx hb hown (C.w kl_X4_94) dX4_build_10 ?_
    refine w_Si C hw (As := [.long (a2.toInt64), .long (0 : Int64), .long (4 : Int64)]) (rest := []) (c4_in l G x m (a2.toInt64) (0 : Int64) (4 : Int64) _ rfl) ks_X4_in ml_X4_57 ⟨rfl, rfl⟩ ⟨Nat.le_of_ble_eq_true rfl, Nat.le_of_ble_eq_true rfl⟩ ⟨Nat.zero_le _, Nat.zero_le _⟩ rfl rfl (Nat.le_of_ble_eq_true rfl) (lv_sub hl [] rfl) dX4_build_13 (fun H locs hw => ?_)
    refine lv_if_eq (tgt := 37) hx hb dX4_build_16 (by decide) (fun hc => ?_) (fun hc => ?_)
    · replace h := p_t hc h
      exact B37 a1 a2 a3 m _ _ _ (lv_sub hl [0, 1, 2, 3] rfl) hw h
    · replace h := p_f hc h
      refine lv_iload_n hx hb dX4_build_19 rfl (lv_at hl 3 rfl) ?_
      refine lv_i2l hx hb dX4_build_20 rfl ?_
      refine lv_lconst (v := (0 : Int64)) hx hb dX4_build_21 (by decide) ?_
      refine lv_iload_n hx hb dX4_build_22 rfl (lv_at hl 2 rfl) ?_
      refine w_Si C hw (As := [.int a2]) (rest := [.long (0 : Int64), .long (a3.toInt64)]) (c4_mostOf l G x m a2 _ rfl) ks_X4_mostOf ml_X4_96 ⟨rfl, rfl⟩ ⟨Nat.le_of_ble_eq_true rfl, Nat.le_of_ble_eq_true rfl⟩ ⟨Nat.zero_le _, Nat.zero_le _⟩ rfl rfl (Nat.le_of_ble_eq_true rfl) (lv_sub hl [] rfl) dX4_build_23 (fun H locs hw => ?_)
      refine lv_i2l hx hb dX4_build_26 rfl ?_
      refine w_Si C hw (As := [.long (a3.toInt64), .long (0 : Int64), .long ((f4_mostOf a2).toInt64)]) (rest := []) (c4_in l G x m (a3.toInt64) (0 : Int64) ((f4_mostOf a2).toInt64) _ rfl) ks_X4_in ml_X4_57 ⟨rfl, rfl⟩ ⟨Nat.le_of_ble_eq_true rfl, Nat.le_of_ble_eq_true rfl⟩ ⟨Nat.zero_le _, Nat.zero_le _⟩ rfl rfl (Nat.le_of_ble_eq_true rfl) (lv_sub hl [] rfl) dX4_build_27 (fun H locs hw => ?_)
      refine lv_if_eq (tgt := 37) hx hb dX4_build_30 (by decide) (fun hc => ?_) (fun hc => ?_)
      · replace h := p_t hc h
        exact B37 a1 a2 a3 m _ _ _ (lv_sub hl [0, 1, 2, 3] rfl) hw h
      · replace h := p_f hc h
        refine lv_iconst (v := (1 : Int32)) hx hb dX4_build_33 (by decide) ?_
        refine lv_goto (tgt := 38) hx hb dX4_build_34 (by decide) ?_
        exact B38 a1 a2 a3 (1 : Int32) m _ _ _ (lv_sub hl [0, 1, 2, 3] rfl) hw h

def f4_aboveOf  (a1 : Int32) : Int32 :=
  if a1 = (3 : Int32) then
    (2 : Int32)
  else
    if a1 = (4 : Int32) then
      (3 : Int32)
    else
      if a1 = (6 : Int32) then
        (1 : Int32)
      else
        (0 : Int32)
set_option maxHeartbeats 4000000 in
set_option maxRecDepth 100000 in
theorem c4_aboveOf (l : Launch) (G : GT)  (x m : St) (a1 : Int32) (r : Int32) (h : f4_aboveOf a1 = r) : Mt l yX4_aboveOf cX4_aboveOf 1 (some .int) (rmF 0 0) G x m [.int a1] (some (.int r)) x m := by
  refine Mt.of (by decide) (Nat.le_of_ble_eq_true rfl) ?_
  intro p e s mm args below meth c C ls hl hw
  have hx := C.1
  have hb := C.2.1
  have hown := C.2.2.2.2.1
  replace hl : lv_has ls 1 [(0, .int a1)] := hl
  unfold f4_aboveOf at h
  refine lv_iload_n hx hb dX4_aboveOf_0 rfl (lv_at hl 0 rfl) ?_
  refine lv_iconst (v := (3 : Int32)) hx hb dX4_aboveOf_1 (by decide) ?_
  refine lv_icmp_ne (tgt := 9) hx hb dX4_aboveOf_2 (by decide) (fun hc => ?_) (fun hc => ?_)
  · replace h := p_f hc h
    refine lv_iload_n hx hb dX4_aboveOf_9 rfl (lv_at hl 0 rfl) ?_
    refine lv_iconst (v := (4 : Int32)) hx hb dX4_aboveOf_10 (by decide) ?_
    refine lv_icmp_ne (tgt := 18) hx hb dX4_aboveOf_11 (by decide) (fun hc => ?_) (fun hc => ?_)
    · replace h := p_f hc h
      refine lv_iload_n hx hb dX4_aboveOf_18 rfl (lv_at hl 0 rfl) ?_
      refine lv_bipush (v := (6 : Int32)) hx hb dX4_aboveOf_19 (by decide) ?_
      refine lv_icmp_ne (tgt := 28) hx hb dX4_aboveOf_21 (by decide) (fun hc => ?_) (fun hc => ?_)
      · replace h := p_f hc h
        refine lv_iconst (v := (0 : Int32)) hx hb dX4_aboveOf_28 (by decide) ?_
        subst h
        exact w_iret C hw (v := (0 : Int32)) rfl rfl dX4_aboveOf_29
      · replace h := p_t hc h
        refine lv_iconst (v := (1 : Int32)) hx hb dX4_aboveOf_24 (by decide) ?_
        refine lv_goto (tgt := 29) hx hb dX4_aboveOf_25 (by decide) ?_
        subst h
        exact w_iret C hw (v := (1 : Int32)) rfl rfl dX4_aboveOf_29
    · replace h := p_t hc h
      refine lv_iconst (v := (3 : Int32)) hx hb dX4_aboveOf_14 (by decide) ?_
      refine lv_goto (tgt := 29) hx hb dX4_aboveOf_15 (by decide) ?_
      subst h
      exact w_iret C hw (v := (3 : Int32)) rfl rfl dX4_aboveOf_29
  · replace h := p_t hc h
    refine lv_iconst (v := (2 : Int32)) hx hb dX4_aboveOf_5 (by decide) ?_
    refine lv_goto (tgt := 29) hx hb dX4_aboveOf_6 (by decide) ?_
    subst h
    exact w_iret C hw (v := (2 : Int32)) rfl rfl dX4_aboveOf_29

def f4_isUnder_b19   (b1 : Int32) (b2 : Int32) : Option (Int32) :=
  if b2 = b1 then
    some (1 : Int32)
  else
    some (0 : Int32)
def f4_isUnder_L2   : Nat → Int32 → Int32 → Option (Int32)
  | 0, _, _ => none
  | n + 1, b1, b2 =>
    if b2 = 0 then
      f4_isUnder_b19 b1 b2
    else
      if b2 = b1 then
        f4_isUnder_b19 b1 b2
      else
        (f4_isUnder_L2 n) b1 (f4_aboveOf b2)
theorem f4_isUnder_L2_0   (b1 : Int32) (b2 : Int32) : f4_isUnder_L2  0 b1 b2 = none := rfl
theorem f4_isUnder_L2_s   (n : Nat) (b1 : Int32) (b2 : Int32) : f4_isUnder_L2  (n + 1) b1 b2 =
    if b2 = 0 then
      f4_isUnder_b19 b1 b2
    else
      if b2 = b1 then
        f4_isUnder_b19 b1 b2
      else
        (f4_isUnder_L2 n) b1 (f4_aboveOf b2) := rfl
def f4_isUnder  (a1 : Int32) (a2 : Int32) : Option (Int32) :=
  f4_isUnder_L2 fu a2 a1
set_option maxHeartbeats 4000000 in
set_option maxRecDepth 100000 in
theorem c4_isUnder (l : Launch) (G : GT)  (x m : St) (a1 : Int32) (a2 : Int32) (r : Int32) (h : f4_isUnder a1 a2 = some r) : Mt l yX4_isUnder cX4_isUnder 3 (some .boolean) (rmF 1 20) G x m [.int a1, .int a2] (some (.int r)) x m := by
  refine Mt.of (by decide) (Nat.le_of_ble_eq_true rfl) ?_
  intro p e s mm args below meth c C ls hl hw
  have hx := C.1
  have hb := C.2.1
  have hown := C.2.2.2.2.1
  replace hl : lv_has ls 3 [(0, .int a1), (1, .int a2)] := hl
  have B19 : ∀ (b1 : Int32) (b2 : Int32) (H : Heap) (locs : List Loc) (ls : Array Slot), lv_has ls 3 [(1, .int b1), (2, .int b2)] → Wd G s x m H locs → f4_isUnder_b19 b1 b2 = some r → W p l e (rmF 1 20) s mm args below meth c H locs 0 0 (QE below G (some (.int r)) x m args s) (F0 mm 19 ls []) := by
    intro b1 b2  H locs ls hl hw h
    unfold f4_isUnder_b19 at h
    refine lv_iload_n hx hb dX4_isUnder_19 rfl (lv_at hl 1 rfl) ?_
    refine lv_iload_n hx hb dX4_isUnder_20 rfl (lv_at hl 0 rfl) ?_
    refine lv_icmp_ne (tgt := 28) hx hb dX4_isUnder_21 (by decide) (fun hc => ?_) (fun hc => ?_)
    · replace h := p_f hc h
      refine lv_iconst (v := (0 : Int32)) hx hb dX4_isUnder_28 (by decide) ?_
      replace h := Option.some.inj h
      subst h
      exact w_iret C hw (v := (0 : Int32)) rfl rfl dX4_isUnder_29
    · replace h := p_t hc h
      refine lv_iconst (v := (1 : Int32)) hx hb dX4_isUnder_24 (by decide) ?_
      refine lv_goto (tgt := 29) hx hb dX4_isUnder_25 (by decide) ?_
      replace h := Option.some.inj h
      subst h
      exact w_iret C hw (v := (1 : Int32)) rfl rfl dX4_isUnder_29
  have L2 : ∀ (n2 : Nat) (b1 : Int32) (b2 : Int32) (H : Heap) (locs : List Loc) (ls : Array Slot), lv_has ls 3 [(1, .int b1), (2, .int b2)] → Wd G s x m H locs → f4_isUnder_L2 n2 b1 b2 = some r → W p l e (rmF 1 20) s mm args below meth c H locs 0 0 (QE below G (some (.int r)) x m args s) (F0 mm 2 ls []) := by
    intro n2
    induction n2 with
    | zero =>
      intro b1 b2  H locs ls hl hw h
      rw [f4_isUnder_L2_0] at h
      exact absurd h.symm (Option.some_ne_none _)
    | succ n2 ih2 =>
      intro b1 b2  H locs ls hl hw h
      rw [f4_isUnder_L2_s] at h
      refine lv_iload_n hx hb dX4_isUnder_2 rfl (lv_at hl 1 rfl) ?_
      refine lv_if_eq (tgt := 19) hx hb dX4_isUnder_3 (by decide) (fun hc => ?_) (fun hc => ?_)
      · replace h := p_t hc h
        exact B19 b1 b2 _ _ _ (lv_sub hl [0, 1] rfl) hw h
      · replace h := p_f hc h
        refine lv_iload_n hx hb dX4_isUnder_6 rfl (lv_at hl 1 rfl) ?_
        refine lv_iload_n hx hb dX4_isUnder_7 rfl (lv_at hl 0 rfl) ?_
        refine lv_icmp_eq (tgt := 19) hx hb dX4_isUnder_8 (by decide) (fun hc => ?_) (fun hc => ?_)
        · replace h := p_t hc h
          exact B19 b1 b2 _ _ _ (lv_sub hl [0, 1] rfl) hw h
        · replace h := p_f hc h
          refine lv_iload_n hx hb dX4_isUnder_11 rfl (lv_at hl 1 rfl) ?_
          refine w_Si C hw (As := [.int b2]) (rest := []) (c4_aboveOf l G x m b2 _ rfl) ks_X4_aboveOf ml_X4_102 ⟨rfl, rfl⟩ ⟨Nat.le_of_ble_eq_true rfl, Nat.le_of_ble_eq_true rfl⟩ ⟨Nat.zero_le _, Nat.zero_le _⟩ rfl rfl (Nat.le_of_ble_eq_true rfl) (lv_sub hl [] rfl) dX4_isUnder_12 (fun H locs hw => ?_)
          refine lv_istore_n (lv' := [(2, .int (f4_aboveOf b2)), (1, .int b1)]) hx hb dX4_isUnder_15 rfl hl (by decide) rfl (fun ls hl => ?_)
          refine lv_goto (tgt := 2) hx hb dX4_isUnder_16 (by decide) ?_
          exact ih2 b1 (f4_aboveOf b2) _ _ _ (lv_sub hl [1, 0] rfl) hw h
  unfold f4_isUnder at h
  refine lv_iload_n hx hb dX4_isUnder_0 rfl (lv_at hl 0 rfl) ?_
  refine lv_istore_n (lv' := [(2, .int a1), (0, .int a1), (1, .int a2)]) hx hb dX4_isUnder_1 rfl hl (by decide) rfl (fun ls hl => ?_)
  exact L2 fu a2 a1 _ _ _ (lv_sub hl [2, 0] rfl) hw h

def f4_speed_b159   (b6 : Int32) (m : St) : Option (Int32) :=
  if (2 : Int32) < 0 ∨ 119 ≤ (2 : Int32).toNatClampNeg then none else
  if (m 26 (2 : Int32).toNatClampNeg) = (1 : Int32) then
    some ((2 : Int32) * b6)
  else
    some b6
def f4_speed_b141   (w0 : Int32) (m : St) : Option (Int32) :=
  f4_speed_b159 w0 m
def f4_speed  (a1 : Int32) (m : St) : Option (Int32) :=
  (f4_its a1 (1 : Int32) m).bind fun v1 =>
  (f4_steep v1 m).bind fun v2 =>
  (f4_part v1 (2 : Int32) m).bind fun v3 =>
  (f4_its a1 (2 : Int32) m).bind fun v4 =>
  (f4_its a1 (0 : Int32) m).bind fun v5 =>
  if v5 = (1 : Int32) then
    f4_speed_b159 (((if (v2 / (10 : Int32)) < (3 : Int32) then (v2 / (10 : Int32)) else (3 : Int32)) + (1 : Int32)) + (1 : Int32)) m
  else
  if v5 = (2 : Int32) then
    f4_speed_b159 (if (0 : Int32) < (((if (v2 / (10 : Int32)) < (3 : Int32) then (v2 / (10 : Int32)) else (3 : Int32)) + (1 : Int32)) - v3) then (((if (v2 / (10 : Int32)) < (3 : Int32) then (v2 / (10 : Int32)) else (3 : Int32)) + (1 : Int32)) - v3) else (0 : Int32)) m
  else
  if v5 = (3 : Int32) then
    f4_speed_b159 ((if (0 : Int32) < (((if (v2 / (10 : Int32)) < (3 : Int32) then (v2 / (10 : Int32)) else (3 : Int32)) + (1 : Int32)) - v3) then (((if (v2 / (10 : Int32)) < (3 : Int32) then (v2 / (10 : Int32)) else (3 : Int32)) + (1 : Int32)) - v3) else (0 : Int32)) + (v4 / (100 : Int32))) m
  else
  if v5 = (4 : Int32) then
    f4_speed_b159 (((if (0 : Int32) < (((if (v2 / (10 : Int32)) < (3 : Int32) then (v2 / (10 : Int32)) else (3 : Int32)) + (1 : Int32)) - v3) then (((if (v2 / (10 : Int32)) < (3 : Int32) then (v2 / (10 : Int32)) else (3 : Int32)) + (1 : Int32)) - v3) else (0 : Int32)) + (v4 / (100 : Int32))) + (2 : Int32)) m
  else
  if v5 = (5 : Int32) then
    (f4_part v1 (2 : Int32) m).bind fun v6 =>
    if v6 ≤ 0 then
      f4_speed_b141 ((if (v2 / (10 : Int32)) < (3 : Int32) then (v2 / (10 : Int32)) else (3 : Int32)) + (1 : Int32)) m
    else
      f4_speed_b141 (0 : Int32) m
  else
  if v5 = (6 : Int32) then
    f4_speed_b159 ((2 : Int32) * (((if (v2 / (10 : Int32)) < (3 : Int32) then (v2 / (10 : Int32)) else (3 : Int32)) + (1 : Int32)) + (1 : Int32))) m
  else
    f4_speed_b159 ((if (v2 / (10 : Int32)) < (3 : Int32) then (v2 / (10 : Int32)) else (3 : Int32)) + (1 : Int32)) m
set_option maxHeartbeats 4000000 in
set_option maxRecDepth 100000 in
theorem c4_speed (l : Launch) (G : GT)  (x m : St) (a1 : Int32) (r : Int32) (h : f4_speed a1 m = some r) : Mt l yX4_speed cX4_speed 7 (some .int) (rmF 2 43) G x m [.ref (gq G 25), .int a1] (some (.int r)) x m := by
  refine Mt.of (by decide) (Nat.le_of_ble_eq_true rfl) ?_
  intro p e s mm args below meth c C ls hl hw
  have hx := C.1
  have hb := C.2.1
  have hown := C.2.2.2.2.1
  replace hl : lv_has ls 7 [(0, .ref (gq G 25)), (1, .int a1)] := hl
  have B159 : ∀ (b6 : Int32) (H : Heap) (locs : List Loc) (ls : Array Slot), lv_has ls 7 [(0, .ref (gq G 25)), (6, .int b6)] → Wd G s x m H locs → f4_speed_b159 b6 m = some r → W p l e (rmF 2 43) s mm args below meth c H locs 0 0 (QE below G (some (.int r)) x m args s) (F0 mm 159 ls []) := by
    intro b6  H locs ls hl hw h
    unfold f4_speed_b159 at h
    refine lv_aload_n hx hb dX4_speed_159 rfl (lv_at hl 0 rfl) ?_
    refine w_get C hw (v := .ref (gq G 26)) (k := 0) (wk_model G x m) rfl it_4 (by decide) fl_X4_9 rfl dX4_speed_160 ?_
    refine lv_iconst (v := (2 : Int32)) hx hb dX4_speed_163 (by decide) ?_
    obtain ⟨hq, h⟩ := p_if h
    refine w_ald C hw (am_26 G x m).1 hq dX4_speed_164 ?_
    refine lv_iconst (v := (1 : Int32)) hx hb dX4_speed_165 (by decide) ?_
    refine lv_icmp_ne (tgt := 176) hx hb dX4_speed_166 (by decide) (fun hc => ?_) (fun hc => ?_)
    · replace h := p_f hc h
      refine lv_iload hx hb dX4_speed_176 (lv_at hl 1 rfl) ?_
      replace h := Option.some.inj h
      subst h
      exact w_iret C hw (v := b6) rfl rfl dX4_speed_178
    · replace h := p_t hc h
      refine lv_iconst (v := (2 : Int32)) hx hb dX4_speed_169 (by decide) ?_
      refine lv_iload hx hb dX4_speed_170 (lv_at hl 1 rfl) ?_
      refine lv_imul hx hb dX4_speed_172 ?_
      refine lv_goto (tgt := 178) hx hb dX4_speed_173 (by decide) ?_
      replace h := Option.some.inj h
      subst h
      exact w_iret C hw (v := ((2 : Int32) * b6)) rfl rfl dX4_speed_178
  have B141 : ∀ (w0 : Int32) (H : Heap) (locs : List Loc) (ls : Array Slot), lv_has ls 7 [(0, .ref (gq G 25))] → Wd G s x m H locs → f4_speed_b141 w0 m = some r → W p l e (rmF 2 43) s mm args below meth c H locs 0 0 (QE below G (some (.int r)) x m args s) (F0 mm 141 ls [.int w0]) := by
    intro w0  H locs ls hl hw h
    unfold f4_speed_b141 at h
    refine lv_istore (lv' := [(6, .int w0), (0, .ref (gq G 25))]) hx hb dX4_speed_141 hl (by decide) rfl (fun ls hl => ?_)
    refine lv_goto (tgt := 159) hx hb dX4_speed_143 (by decide) ?_
    exact B159 w0 _ _ _ (lv_sub hl [1, 0] rfl) hw h
  unfold f4_speed at h
  refine lv_aload_n hx hb dX4_speed_0 rfl (lv_at hl 0 rfl) ?_
  refine lv_iload_n hx hb dX4_speed_1 rfl (lv_at hl 1 rfl) ?_
  refine lv_iconst (v := (1 : Int32)) hx hb dX4_speed_2 (by decide) ?_
  obtain ⟨v1, hq, h⟩ := p_bd h
  refine w_Vi C hw (As := [.int a1, .int (1 : Int32)]) (rest := []) (c4_its l G x m a1 (1 : Int32) v1 hq) kv_X4_its ml_X4_69 ⟨rfl, rfl⟩ ⟨Nat.le_of_ble_eq_true rfl, Nat.le_of_ble_eq_true rfl⟩ ⟨Nat.zero_le _, Nat.zero_le _⟩ (w_recv C hw (wk_model G x m) rfl) rfl rfl (Nat.le_of_ble_eq_true rfl) (lv_sub hl [] rfl) dX4_speed_3 (fun H locs hw => ?_)
  refine lv_istore_n (lv' := [(2, .int v1), (0, .ref (gq G 25)), (1, .int a1)]) hx hb dX4_speed_6 rfl hl (by decide) rfl (fun ls hl => ?_)
  refine lv_iconst (v := (3 : Int32)) hx hb dX4_speed_7 (by decide) ?_
  refine lv_aload_n hx hb dX4_speed_8 rfl (lv_at hl 1 rfl) ?_
  refine lv_iload_n hx hb dX4_speed_9 rfl (lv_at hl 0 rfl) ?_
  obtain ⟨v2, hq, h⟩ := p_bd h
  refine w_Vi C hw (As := [.int v1]) (rest := [.int (3 : Int32)]) (c4_steep l G x m v1 v2 hq) kv_X4_steep ml_X4_85 ⟨rfl, rfl⟩ ⟨Nat.le_of_ble_eq_true rfl, Nat.le_of_ble_eq_true rfl⟩ ⟨Nat.zero_le _, Nat.zero_le _⟩ (w_recv C hw (wk_model G x m) rfl) rfl rfl (Nat.le_of_ble_eq_true rfl) (lv_sub hl [] rfl) dX4_speed_10 (fun H locs hw => ?_)
  refine lv_bipush (v := (10 : Int32)) hx hb dX4_speed_13 (by decide) ?_
  refine lv_idiv hx hb dX4_speed_15 (by decide) ?_
  refine w_min C (lv_sub hl [] rfl) ml_X4_44 k_min ⟨Nat.le_of_ble_eq_true rfl, Nat.le_of_ble_eq_true rfl⟩ ⟨Nat.zero_le _, Nat.zero_le _⟩ (Nat.le_of_ble_eq_true rfl) dX4_speed_16 ?_
  refine lv_iconst (v := (1 : Int32)) hx hb dX4_speed_19 (by decide) ?_
  refine lv_iadd hx hb dX4_speed_20 ?_
  refine lv_istore_n (lv' := [(3, .int ((if (v2 / (10 : Int32)) < (3 : Int32) then (v2 / (10 : Int32)) else (3 : Int32)) + (1 : Int32))), (2, .int v1), (0, .ref (gq G 25)), (1, .int a1)]) hx hb dX4_speed_21 rfl hl (by decide) rfl (fun ls hl => ?_)
  refine lv_iconst (v := (0 : Int32)) hx hb dX4_speed_22 (by decide) ?_
  refine lv_iload_n hx hb dX4_speed_23 rfl (lv_at hl 0 rfl) ?_
  refine lv_aload_n hx hb dX4_speed_24 rfl (lv_at hl 2 rfl) ?_
  refine lv_iload_n hx hb dX4_speed_25 rfl (lv_at hl 1 rfl) ?_
  refine lv_iconst (v := (2 : Int32)) hx hb dX4_speed_26 (by decide) ?_
  obtain ⟨v3, hq, h⟩ := p_bd h
  refine w_Vi C hw (As := [.int v1, .int (2 : Int32)]) (rest := [.int ((if (v2 / (10 : Int32)) < (3 : Int32) then (v2 / (10 : Int32)) else (3 : Int32)) + (1 : Int32)), .int (0 : Int32)]) (c4_part l G x m v1 (2 : Int32) v3 hq) kv_X4_part ml_X4_63 ⟨rfl, rfl⟩ ⟨Nat.le_of_ble_eq_true rfl, Nat.le_of_ble_eq_true rfl⟩ ⟨Nat.zero_le _, Nat.zero_le _⟩ (w_recv C hw (wk_model G x m) rfl) rfl rfl (Nat.le_of_ble_eq_true rfl) (lv_sub hl [] rfl) dX4_speed_27 (fun H locs hw => ?_)
  refine lv_isub hx hb dX4_speed_30 ?_
  refine w_max C (lv_sub hl [] rfl) ml_X4_66 k_max ⟨Nat.le_of_ble_eq_true rfl, Nat.le_of_ble_eq_true rfl⟩ ⟨Nat.zero_le _, Nat.zero_le _⟩ (Nat.le_of_ble_eq_true rfl) dX4_speed_31 ?_
  refine lv_istore (lv' := [(4, .int (if (0 : Int32) < (((if (v2 / (10 : Int32)) < (3 : Int32) then (v2 / (10 : Int32)) else (3 : Int32)) + (1 : Int32)) - v3) then (((if (v2 / (10 : Int32)) < (3 : Int32) then (v2 / (10 : Int32)) else (3 : Int32)) + (1 : Int32)) - v3) else (0 : Int32))), (3, .int ((if (v2 / (10 : Int32)) < (3 : Int32) then (v2 / (10 : Int32)) else (3 : Int32)) + (1 : Int32))), (2, .int v1), (0, .ref (gq G 25)), (1, .int a1)]) hx hb dX4_speed_34 hl (by decide) rfl (fun ls hl => ?_)
  refine lv_iload hx hb dX4_speed_36 (lv_at hl 0 rfl) ?_
  refine lv_aload_n hx hb dX4_speed_38 rfl (lv_at hl 3 rfl) ?_
  refine lv_iload_n hx hb dX4_speed_39 rfl (lv_at hl 4 rfl) ?_
  refine lv_iconst (v := (2 : Int32)) hx hb dX4_speed_40 (by decide) ?_
  obtain ⟨v4, hq, h⟩ := p_bd h
  refine w_Vi C hw (As := [.int a1, .int (2 : Int32)]) (rest := [.int (if (0 : Int32) < (((if (v2 / (10 : Int32)) < (3 : Int32) then (v2 / (10 : Int32)) else (3 : Int32)) + (1 : Int32)) - v3) then (((if (v2 / (10 : Int32)) < (3 : Int32) then (v2 / (10 : Int32)) else (3 : Int32)) + (1 : Int32)) - v3) else (0 : Int32))]) (c4_its l G x m a1 (2 : Int32) v4 hq) kv_X4_its ml_X4_69 ⟨rfl, rfl⟩ ⟨Nat.le_of_ble_eq_true rfl, Nat.le_of_ble_eq_true rfl⟩ ⟨Nat.zero_le _, Nat.zero_le _⟩ (w_recv C hw (wk_model G x m) rfl) rfl rfl (Nat.le_of_ble_eq_true rfl) (lv_sub hl [] rfl) dX4_speed_41 (fun H locs hw => ?_)
  refine lv_bipush (v := (100 : Int32)) hx hb dX4_speed_44 (by decide) ?_
  refine lv_idiv hx hb dX4_speed_46 (by decide) ?_
  refine lv_iadd hx hb dX4_speed_47 ?_
  refine lv_istore (lv' := [(5, .int ((if (0 : Int32) < (((if (v2 / (10 : Int32)) < (3 : Int32) then (v2 / (10 : Int32)) else (3 : Int32)) + (1 : Int32)) - v3) then (((if (v2 / (10 : Int32)) < (3 : Int32) then (v2 / (10 : Int32)) else (3 : Int32)) + (1 : Int32)) - v3) else (0 : Int32)) + (v4 / (100 : Int32)))), (4, .int (if (0 : Int32) < (((if (v2 / (10 : Int32)) < (3 : Int32) then (v2 / (10 : Int32)) else (3 : Int32)) + (1 : Int32)) - v3) then (((if (v2 / (10 : Int32)) < (3 : Int32) then (v2 / (10 : Int32)) else (3 : Int32)) + (1 : Int32)) - v3) else (0 : Int32))), (3, .int ((if (v2 / (10 : Int32)) < (3 : Int32) then (v2 / (10 : Int32)) else (3 : Int32)) + (1 : Int32))), (2, .int v1), (0, .ref (gq G 25)), (1, .int a1)]) hx hb dX4_speed_48 hl (by decide) rfl (fun ls hl => ?_)
  refine lv_aload_n hx hb dX4_speed_50 rfl (lv_at hl 4 rfl) ?_
  refine lv_iload_n hx hb dX4_speed_51 rfl (lv_at hl 5 rfl) ?_
  refine lv_iconst (v := (0 : Int32)) hx hb dX4_speed_52 (by decide) ?_
  obtain ⟨v5, hq, h⟩ := p_bd h
  refine w_Vi C hw (As := [.int a1, .int (0 : Int32)]) (rest := []) (c4_its l G x m a1 (0 : Int32) v5 hq) kv_X4_its ml_X4_69 ⟨rfl, rfl⟩ ⟨Nat.le_of_ble_eq_true rfl, Nat.le_of_ble_eq_true rfl⟩ ⟨Nat.zero_le _, Nat.zero_le _⟩ (w_recv C hw (wk_model G x m) rfl) rfl rfl (Nat.le_of_ble_eq_true rfl) (lv_sub hl [] rfl) dX4_speed_53 (fun H locs hw => ?_)
  by_cases hc0 : v5 = (1 : Int32)
  · replace h := p_t hc0 h
    refine lv_tableIn (tgt := 96) hx hb dX4_speed_56 (by rw [hc0]; decide) (by rw [hc0]; decide) (by rw [hc0]; rfl) (by decide) ?_
    refine lv_iload_n hx hb dX4_speed_96 rfl (lv_at hl 2 rfl) ?_
    refine lv_iconst (v := (1 : Int32)) hx hb dX4_speed_97 (by decide) ?_
    refine lv_iadd hx hb dX4_speed_98 ?_
    refine lv_istore (lv' := [(6, .int (((if (v2 / (10 : Int32)) < (3 : Int32) then (v2 / (10 : Int32)) else (3 : Int32)) + (1 : Int32)) + (1 : Int32))), (5, .int ((if (0 : Int32) < (((if (v2 / (10 : Int32)) < (3 : Int32) then (v2 / (10 : Int32)) else (3 : Int32)) + (1 : Int32)) - v3) then (((if (v2 / (10 : Int32)) < (3 : Int32) then (v2 / (10 : Int32)) else (3 : Int32)) + (1 : Int32)) - v3) else (0 : Int32)) + (v4 / (100 : Int32)))), (4, .int (if (0 : Int32) < (((if (v2 / (10 : Int32)) < (3 : Int32) then (v2 / (10 : Int32)) else (3 : Int32)) + (1 : Int32)) - v3) then (((if (v2 / (10 : Int32)) < (3 : Int32) then (v2 / (10 : Int32)) else (3 : Int32)) + (1 : Int32)) - v3) else (0 : Int32))), (3, .int ((if (v2 / (10 : Int32)) < (3 : Int32) then (v2 / (10 : Int32)) else (3 : Int32)) + (1 : Int32))), (2, .int v1), (0, .ref (gq G 25)), (1, .int a1)]) hx hb dX4_speed_99 hl (by decide) rfl (fun ls hl => ?_)
    refine lv_goto (tgt := 159) hx hb dX4_speed_101 (by decide) ?_
    exact B159 (((if (v2 / (10 : Int32)) < (3 : Int32) then (v2 / (10 : Int32)) else (3 : Int32)) + (1 : Int32)) + (1 : Int32)) _ _ _ (lv_sub hl [5, 0] rfl) hw h
  · replace h := p_f hc0 h
    by_cases hc1 : v5 = (2 : Int32)
    · replace h := p_t hc1 h
      refine lv_tableIn (tgt := 104) hx hb dX4_speed_56 (by rw [hc1]; decide) (by rw [hc1]; decide) (by rw [hc1]; rfl) (by decide) ?_
      refine lv_iload hx hb dX4_speed_104 (lv_at hl 1 rfl) ?_
      refine lv_istore (lv' := [(6, .int (if (0 : Int32) < (((if (v2 / (10 : Int32)) < (3 : Int32) then (v2 / (10 : Int32)) else (3 : Int32)) + (1 : Int32)) - v3) then (((if (v2 / (10 : Int32)) < (3 : Int32) then (v2 / (10 : Int32)) else (3 : Int32)) + (1 : Int32)) - v3) else (0 : Int32))), (5, .int ((if (0 : Int32) < (((if (v2 / (10 : Int32)) < (3 : Int32) then (v2 / (10 : Int32)) else (3 : Int32)) + (1 : Int32)) - v3) then (((if (v2 / (10 : Int32)) < (3 : Int32) then (v2 / (10 : Int32)) else (3 : Int32)) + (1 : Int32)) - v3) else (0 : Int32)) + (v4 / (100 : Int32)))), (4, .int (if (0 : Int32) < (((if (v2 / (10 : Int32)) < (3 : Int32) then (v2 / (10 : Int32)) else (3 : Int32)) + (1 : Int32)) - v3) then (((if (v2 / (10 : Int32)) < (3 : Int32) then (v2 / (10 : Int32)) else (3 : Int32)) + (1 : Int32)) - v3) else (0 : Int32))), (3, .int ((if (v2 / (10 : Int32)) < (3 : Int32) then (v2 / (10 : Int32)) else (3 : Int32)) + (1 : Int32))), (2, .int v1), (0, .ref (gq G 25)), (1, .int a1)]) hx hb dX4_speed_106 hl (by decide) rfl (fun ls hl => ?_)
      refine lv_goto (tgt := 159) hx hb dX4_speed_108 (by decide) ?_
      exact B159 (if (0 : Int32) < (((if (v2 / (10 : Int32)) < (3 : Int32) then (v2 / (10 : Int32)) else (3 : Int32)) + (1 : Int32)) - v3) then (((if (v2 / (10 : Int32)) < (3 : Int32) then (v2 / (10 : Int32)) else (3 : Int32)) + (1 : Int32)) - v3) else (0 : Int32)) _ _ _ (lv_sub hl [5, 0] rfl) hw h
    · replace h := p_f hc1 h
      by_cases hc2 : v5 = (3 : Int32)
      · replace h := p_t hc2 h
        refine lv_tableIn (tgt := 111) hx hb dX4_speed_56 (by rw [hc2]; decide) (by rw [hc2]; decide) (by rw [hc2]; rfl) (by decide) ?_
        refine lv_iload hx hb dX4_speed_111 (lv_at hl 0 rfl) ?_
        refine lv_istore (lv' := [(6, .int ((if (0 : Int32) < (((if (v2 / (10 : Int32)) < (3 : Int32) then (v2 / (10 : Int32)) else (3 : Int32)) + (1 : Int32)) - v3) then (((if (v2 / (10 : Int32)) < (3 : Int32) then (v2 / (10 : Int32)) else (3 : Int32)) + (1 : Int32)) - v3) else (0 : Int32)) + (v4 / (100 : Int32)))), (5, .int ((if (0 : Int32) < (((if (v2 / (10 : Int32)) < (3 : Int32) then (v2 / (10 : Int32)) else (3 : Int32)) + (1 : Int32)) - v3) then (((if (v2 / (10 : Int32)) < (3 : Int32) then (v2 / (10 : Int32)) else (3 : Int32)) + (1 : Int32)) - v3) else (0 : Int32)) + (v4 / (100 : Int32)))), (4, .int (if (0 : Int32) < (((if (v2 / (10 : Int32)) < (3 : Int32) then (v2 / (10 : Int32)) else (3 : Int32)) + (1 : Int32)) - v3) then (((if (v2 / (10 : Int32)) < (3 : Int32) then (v2 / (10 : Int32)) else (3 : Int32)) + (1 : Int32)) - v3) else (0 : Int32))), (3, .int ((if (v2 / (10 : Int32)) < (3 : Int32) then (v2 / (10 : Int32)) else (3 : Int32)) + (1 : Int32))), (2, .int v1), (0, .ref (gq G 25)), (1, .int a1)]) hx hb dX4_speed_113 hl (by decide) rfl (fun ls hl => ?_)
        refine lv_goto (tgt := 159) hx hb dX4_speed_115 (by decide) ?_
        exact B159 ((if (0 : Int32) < (((if (v2 / (10 : Int32)) < (3 : Int32) then (v2 / (10 : Int32)) else (3 : Int32)) + (1 : Int32)) - v3) then (((if (v2 / (10 : Int32)) < (3 : Int32) then (v2 / (10 : Int32)) else (3 : Int32)) + (1 : Int32)) - v3) else (0 : Int32)) + (v4 / (100 : Int32))) _ _ _ (lv_sub hl [5, 0] rfl) hw h
      · replace h := p_f hc2 h
        by_cases hc3 : v5 = (4 : Int32)
        · replace h := p_t hc3 h
          refine lv_tableIn (tgt := 118) hx hb dX4_speed_56 (by rw [hc3]; decide) (by rw [hc3]; decide) (by rw [hc3]; rfl) (by decide) ?_
          refine lv_iload hx hb dX4_speed_118 (lv_at hl 0 rfl) ?_
          refine lv_iconst (v := (2 : Int32)) hx hb dX4_speed_120 (by decide) ?_
          refine lv_iadd hx hb dX4_speed_121 ?_
          refine lv_istore (lv' := [(6, .int (((if (0 : Int32) < (((if (v2 / (10 : Int32)) < (3 : Int32) then (v2 / (10 : Int32)) else (3 : Int32)) + (1 : Int32)) - v3) then (((if (v2 / (10 : Int32)) < (3 : Int32) then (v2 / (10 : Int32)) else (3 : Int32)) + (1 : Int32)) - v3) else (0 : Int32)) + (v4 / (100 : Int32))) + (2 : Int32))), (5, .int ((if (0 : Int32) < (((if (v2 / (10 : Int32)) < (3 : Int32) then (v2 / (10 : Int32)) else (3 : Int32)) + (1 : Int32)) - v3) then (((if (v2 / (10 : Int32)) < (3 : Int32) then (v2 / (10 : Int32)) else (3 : Int32)) + (1 : Int32)) - v3) else (0 : Int32)) + (v4 / (100 : Int32)))), (4, .int (if (0 : Int32) < (((if (v2 / (10 : Int32)) < (3 : Int32) then (v2 / (10 : Int32)) else (3 : Int32)) + (1 : Int32)) - v3) then (((if (v2 / (10 : Int32)) < (3 : Int32) then (v2 / (10 : Int32)) else (3 : Int32)) + (1 : Int32)) - v3) else (0 : Int32))), (3, .int ((if (v2 / (10 : Int32)) < (3 : Int32) then (v2 / (10 : Int32)) else (3 : Int32)) + (1 : Int32))), (2, .int v1), (0, .ref (gq G 25)), (1, .int a1)]) hx hb dX4_speed_122 hl (by decide) rfl (fun ls hl => ?_)
          refine lv_goto (tgt := 159) hx hb dX4_speed_124 (by decide) ?_
          exact B159 (((if (0 : Int32) < (((if (v2 / (10 : Int32)) < (3 : Int32) then (v2 / (10 : Int32)) else (3 : Int32)) + (1 : Int32)) - v3) then (((if (v2 / (10 : Int32)) < (3 : Int32) then (v2 / (10 : Int32)) else (3 : Int32)) + (1 : Int32)) - v3) else (0 : Int32)) + (v4 / (100 : Int32))) + (2 : Int32)) _ _ _ (lv_sub hl [5, 0] rfl) hw h
        · replace h := p_f hc3 h
          by_cases hc4 : v5 = (5 : Int32)
          · replace h := p_t hc4 h
            refine lv_tableIn (tgt := 127) hx hb dX4_speed_56 (by rw [hc4]; decide) (by rw [hc4]; decide) (by rw [hc4]; rfl) (by decide) ?_
            refine lv_aload_n hx hb dX4_speed_127 rfl (lv_at hl 4 rfl) ?_
            refine lv_iload_n hx hb dX4_speed_128 rfl (lv_at hl 3 rfl) ?_
            refine lv_iconst (v := (2 : Int32)) hx hb dX4_speed_129 (by decide) ?_
            obtain ⟨v6, hq, h⟩ := p_bd h
            refine w_Vi C hw (As := [.int v1, .int (2 : Int32)]) (rest := []) (c4_part l G x m v1 (2 : Int32) v6 hq) kv_X4_part ml_X4_63 ⟨rfl, rfl⟩ ⟨Nat.le_of_ble_eq_true rfl, Nat.le_of_ble_eq_true rfl⟩ ⟨Nat.zero_le _, Nat.zero_le _⟩ (w_recv C hw (wk_model G x m) rfl) rfl rfl (Nat.le_of_ble_eq_true rfl) (lv_sub hl [] rfl) dX4_speed_130 (fun H locs hw => ?_)
            refine lv_if_le (tgt := 140) hx hb dX4_speed_133 (by decide) (fun hc => ?_) (fun hc => ?_)
            · replace h := p_t hc h
              refine lv_iload_n hx hb dX4_speed_140 rfl (lv_at hl 2 rfl) ?_
              exact B141 ((if (v2 / (10 : Int32)) < (3 : Int32) then (v2 / (10 : Int32)) else (3 : Int32)) + (1 : Int32)) _ _ _ (lv_sub hl [4] rfl) hw h
            · replace h := p_f hc h
              refine lv_iconst (v := (0 : Int32)) hx hb dX4_speed_136 (by decide) ?_
              refine lv_goto (tgt := 141) hx hb dX4_speed_137 (by decide) ?_
              exact B141 (0 : Int32) _ _ _ (lv_sub hl [4] rfl) hw h
          · replace h := p_f hc4 h
            by_cases hc5 : v5 = (6 : Int32)
            · replace h := p_t hc5 h
              refine lv_tableIn (tgt := 146) hx hb dX4_speed_56 (by rw [hc5]; decide) (by rw [hc5]; decide) (by rw [hc5]; rfl) (by decide) ?_
              refine lv_iconst (v := (2 : Int32)) hx hb dX4_speed_146 (by decide) ?_
              refine lv_iload_n hx hb dX4_speed_147 rfl (lv_at hl 2 rfl) ?_
              refine lv_iconst (v := (1 : Int32)) hx hb dX4_speed_148 (by decide) ?_
              refine lv_iadd hx hb dX4_speed_149 ?_
              refine lv_imul hx hb dX4_speed_150 ?_
              refine lv_istore (lv' := [(6, .int ((2 : Int32) * (((if (v2 / (10 : Int32)) < (3 : Int32) then (v2 / (10 : Int32)) else (3 : Int32)) + (1 : Int32)) + (1 : Int32)))), (5, .int ((if (0 : Int32) < (((if (v2 / (10 : Int32)) < (3 : Int32) then (v2 / (10 : Int32)) else (3 : Int32)) + (1 : Int32)) - v3) then (((if (v2 / (10 : Int32)) < (3 : Int32) then (v2 / (10 : Int32)) else (3 : Int32)) + (1 : Int32)) - v3) else (0 : Int32)) + (v4 / (100 : Int32)))), (4, .int (if (0 : Int32) < (((if (v2 / (10 : Int32)) < (3 : Int32) then (v2 / (10 : Int32)) else (3 : Int32)) + (1 : Int32)) - v3) then (((if (v2 / (10 : Int32)) < (3 : Int32) then (v2 / (10 : Int32)) else (3 : Int32)) + (1 : Int32)) - v3) else (0 : Int32))), (3, .int ((if (v2 / (10 : Int32)) < (3 : Int32) then (v2 / (10 : Int32)) else (3 : Int32)) + (1 : Int32))), (2, .int v1), (0, .ref (gq G 25)), (1, .int a1)]) hx hb dX4_speed_151 hl (by decide) rfl (fun ls hl => ?_)
              refine lv_goto (tgt := 159) hx hb dX4_speed_153 (by decide) ?_
              exact B159 ((2 : Int32) * (((if (v2 / (10 : Int32)) < (3 : Int32) then (v2 / (10 : Int32)) else (3 : Int32)) + (1 : Int32)) + (1 : Int32))) _ _ _ (lv_sub hl [5, 0] rfl) hw h
            · replace h := p_f hc5 h
              refine lv_tableOut (tgt := 156) hx hb dX4_speed_56 (by have q0 : ¬ v5.toInt = 1 := lv_neT hc0 rfl; have q1 : ¬ v5.toInt = 2 := lv_neT hc1 rfl; have q2 : ¬ v5.toInt = 3 := lv_neT hc2 rfl; have q3 : ¬ v5.toInt = 4 := lv_neT hc3 rfl; have q4 : ¬ v5.toInt = 5 := lv_neT hc4 rfl; have q5 : ¬ v5.toInt = 6 := lv_neT hc5 rfl; omega) (by decide) ?_
              refine lv_iload_n hx hb dX4_speed_156 rfl (lv_at hl 2 rfl) ?_
              refine lv_istore (lv' := [(6, .int ((if (v2 / (10 : Int32)) < (3 : Int32) then (v2 / (10 : Int32)) else (3 : Int32)) + (1 : Int32))), (5, .int ((if (0 : Int32) < (((if (v2 / (10 : Int32)) < (3 : Int32) then (v2 / (10 : Int32)) else (3 : Int32)) + (1 : Int32)) - v3) then (((if (v2 / (10 : Int32)) < (3 : Int32) then (v2 / (10 : Int32)) else (3 : Int32)) + (1 : Int32)) - v3) else (0 : Int32)) + (v4 / (100 : Int32)))), (4, .int (if (0 : Int32) < (((if (v2 / (10 : Int32)) < (3 : Int32) then (v2 / (10 : Int32)) else (3 : Int32)) + (1 : Int32)) - v3) then (((if (v2 / (10 : Int32)) < (3 : Int32) then (v2 / (10 : Int32)) else (3 : Int32)) + (1 : Int32)) - v3) else (0 : Int32))), (3, .int ((if (v2 / (10 : Int32)) < (3 : Int32) then (v2 / (10 : Int32)) else (3 : Int32)) + (1 : Int32))), (2, .int v1), (0, .ref (gq G 25)), (1, .int a1)]) hx hb dX4_speed_157 hl (by decide) rfl (fun ls hl => ?_)
              exact B159 ((if (v2 / (10 : Int32)) < (3 : Int32) then (v2 / (10 : Int32)) else (3 : Int32)) + (1 : Int32)) _ _ _ (lv_sub hl [5, 0] rfl) hw h

def f4_gathers  (a1 : Int32) (m : St) : Option (Int32) :=
  (f4_its a1 (0 : Int32) m).bind fun v1 =>
  if v1 = (1 : Int32) then
    some (0 : Int32)
  else
  if v1 = (2 : Int32) then
    some (2 : Int32)
  else
  if v1 = (3 : Int32) then
    some (4 : Int32)
  else
  if v1 = (4 : Int32) then
    (f4_its a1 (1 : Int32) m).bind fun v2 =>
    (f4_steep v2 m).bind fun v3 =>
    some ((4 : Int32) + (v3 / (5 : Int32)))
  else
  if v1 = (5 : Int32) then
    some (0 : Int32)
  else
  if v1 = (6 : Int32) then
    some (0 : Int32)
  else
    some (1 : Int32)
set_option maxHeartbeats 4000000 in
set_option maxRecDepth 100000 in
theorem c4_gathers (l : Launch) (G : GT)  (x m : St) (a1 : Int32) (r : Int32) (h : f4_gathers a1 m = some r) : Mt l yX4_gathers cX4_gathers 2 (some .int) (rmF 2 43) G x m [.ref (gq G 25), .int a1] (some (.int r)) x m := by
  refine Mt.of (by decide) (Nat.le_of_ble_eq_true rfl) ?_
  intro p e s mm args below meth c C ls hl hw
  have hx := C.1
  have hb := C.2.1
  have hown := C.2.2.2.2.1
  replace hl : lv_has ls 2 [(0, .ref (gq G 25)), (1, .int a1)] := hl
  unfold f4_gathers at h
  refine lv_aload_n hx hb dX4_gathers_0 rfl (lv_at hl 0 rfl) ?_
  refine lv_iload_n hx hb dX4_gathers_1 rfl (lv_at hl 1 rfl) ?_
  refine lv_iconst (v := (0 : Int32)) hx hb dX4_gathers_2 (by decide) ?_
  obtain ⟨v1, hq, h⟩ := p_bd h
  refine w_Vi C hw (As := [.int a1, .int (0 : Int32)]) (rest := []) (c4_its l G x m a1 (0 : Int32) v1 hq) kv_X4_its ml_X4_69 ⟨rfl, rfl⟩ ⟨Nat.le_of_ble_eq_true rfl, Nat.le_of_ble_eq_true rfl⟩ ⟨Nat.zero_le _, Nat.zero_le _⟩ (w_recv C hw (wk_model G x m) rfl) rfl rfl (Nat.le_of_ble_eq_true rfl) (lv_sub hl [] rfl) dX4_gathers_3 (fun H locs hw => ?_)
  by_cases hc0 : v1 = (1 : Int32)
  · replace h := p_t hc0 h
    refine lv_tableIn (tgt := 63) hx hb dX4_gathers_6 (by rw [hc0]; decide) (by rw [hc0]; decide) (by rw [hc0]; rfl) (by decide) ?_
    refine lv_iconst (v := (0 : Int32)) hx hb dX4_gathers_63 (by decide) ?_
    replace h := Option.some.inj h
    subst h
    exact w_iret C hw (v := (0 : Int32)) rfl rfl dX4_gathers_64
  · replace h := p_f hc0 h
    by_cases hc1 : v1 = (2 : Int32)
    · replace h := p_t hc1 h
      refine lv_tableIn (tgt := 44) hx hb dX4_gathers_6 (by rw [hc1]; decide) (by rw [hc1]; decide) (by rw [hc1]; rfl) (by decide) ?_
      refine lv_iconst (v := (2 : Int32)) hx hb dX4_gathers_44 (by decide) ?_
      replace h := Option.some.inj h
      subst h
      exact w_iret C hw (v := (2 : Int32)) rfl rfl dX4_gathers_45
    · replace h := p_f hc1 h
      by_cases hc2 : v1 = (3 : Int32)
      · replace h := p_t hc2 h
        refine lv_tableIn (tgt := 46) hx hb dX4_gathers_6 (by rw [hc2]; decide) (by rw [hc2]; decide) (by rw [hc2]; rfl) (by decide) ?_
        refine lv_iconst (v := (4 : Int32)) hx hb dX4_gathers_46 (by decide) ?_
        replace h := Option.some.inj h
        subst h
        exact w_iret C hw (v := (4 : Int32)) rfl rfl dX4_gathers_47
      · replace h := p_f hc2 h
        by_cases hc3 : v1 = (4 : Int32)
        · replace h := p_t hc3 h
          refine lv_tableIn (tgt := 48) hx hb dX4_gathers_6 (by rw [hc3]; decide) (by rw [hc3]; decide) (by rw [hc3]; rfl) (by decide) ?_
          refine lv_iconst (v := (4 : Int32)) hx hb dX4_gathers_48 (by decide) ?_
          refine lv_aload_n hx hb dX4_gathers_49 rfl (lv_at hl 0 rfl) ?_
          refine lv_aload_n hx hb dX4_gathers_50 rfl (lv_at hl 0 rfl) ?_
          refine lv_iload_n hx hb dX4_gathers_51 rfl (lv_at hl 1 rfl) ?_
          refine lv_iconst (v := (1 : Int32)) hx hb dX4_gathers_52 (by decide) ?_
          obtain ⟨v2, hq, h⟩ := p_bd h
          refine w_Vi C hw (As := [.int a1, .int (1 : Int32)]) (rest := [.ref (gq G 25), .int (4 : Int32)]) (c4_its l G x m a1 (1 : Int32) v2 hq) kv_X4_its ml_X4_69 ⟨rfl, rfl⟩ ⟨Nat.le_of_ble_eq_true rfl, Nat.le_of_ble_eq_true rfl⟩ ⟨Nat.zero_le _, Nat.zero_le _⟩ (w_recv C hw (wk_model G x m) rfl) rfl rfl (Nat.le_of_ble_eq_true rfl) (lv_sub hl [] rfl) dX4_gathers_53 (fun H locs hw => ?_)
          obtain ⟨v3, hq, h⟩ := p_bd h
          refine w_Vi C hw (As := [.int v2]) (rest := [.int (4 : Int32)]) (c4_steep l G x m v2 v3 hq) kv_X4_steep ml_X4_85 ⟨rfl, rfl⟩ ⟨Nat.le_of_ble_eq_true rfl, Nat.le_of_ble_eq_true rfl⟩ ⟨Nat.zero_le _, Nat.zero_le _⟩ (w_recv C hw (wk_model G x m) rfl) rfl rfl (Nat.le_of_ble_eq_true rfl) (lv_sub hl [] rfl) dX4_gathers_56 (fun H locs hw => ?_)
          refine lv_iconst (v := (5 : Int32)) hx hb dX4_gathers_59 (by decide) ?_
          refine lv_idiv hx hb dX4_gathers_60 (by decide) ?_
          refine lv_iadd hx hb dX4_gathers_61 ?_
          replace h := Option.some.inj h
          subst h
          exact w_iret C hw (v := ((4 : Int32) + (v3 / (5 : Int32)))) rfl rfl dX4_gathers_62
        · replace h := p_f hc3 h
          by_cases hc4 : v1 = (5 : Int32)
          · replace h := p_t hc4 h
            refine lv_tableIn (tgt := 63) hx hb dX4_gathers_6 (by rw [hc4]; decide) (by rw [hc4]; decide) (by rw [hc4]; rfl) (by decide) ?_
            refine lv_iconst (v := (0 : Int32)) hx hb dX4_gathers_63 (by decide) ?_
            replace h := Option.some.inj h
            subst h
            exact w_iret C hw (v := (0 : Int32)) rfl rfl dX4_gathers_64
          · replace h := p_f hc4 h
            by_cases hc5 : v1 = (6 : Int32)
            · replace h := p_t hc5 h
              refine lv_tableIn (tgt := 63) hx hb dX4_gathers_6 (by rw [hc5]; decide) (by rw [hc5]; decide) (by rw [hc5]; rfl) (by decide) ?_
              refine lv_iconst (v := (0 : Int32)) hx hb dX4_gathers_63 (by decide) ?_
              replace h := Option.some.inj h
              subst h
              exact w_iret C hw (v := (0 : Int32)) rfl rfl dX4_gathers_64
            · replace h := p_f hc5 h
              refine lv_tableOut (tgt := 65) hx hb dX4_gathers_6 (by have q0 : ¬ v1.toInt = 1 := lv_neT hc0 rfl; have q1 : ¬ v1.toInt = 2 := lv_neT hc1 rfl; have q2 : ¬ v1.toInt = 3 := lv_neT hc2 rfl; have q3 : ¬ v1.toInt = 4 := lv_neT hc3 rfl; have q4 : ¬ v1.toInt = 5 := lv_neT hc4 rfl; have q5 : ¬ v1.toInt = 6 := lv_neT hc5 rfl; omega) (by decide) ?_
              refine lv_iconst (v := (1 : Int32)) hx hb dX4_gathers_65 (by decide) ?_
              replace h := Option.some.inj h
              subst h
              exact w_iret C hw (v := (1 : Int32)) rfl rfl dX4_gathers_66

def f4_isKind  (a1 : Int32) : Int32 :=
  (f4_in (a1.toInt64) (0 : Int64) (6 : Int64))
theorem bz_X4_isKind  (a1 : Int32) : f4_isKind a1 = 0 ∨ f4_isKind a1 = 1 := by
  unfold f4_isKind
  repeat' split
  all_goals first | exact Or.inl rfl | exact Or.inr rfl | exact bz_X4_in _ _ _ 
set_option maxHeartbeats 4000000 in
set_option maxRecDepth 100000 in
theorem c4_isKind (l : Launch) (G : GT)  (x m : St) (a1 : Int32) (r : Int32) (h : f4_isKind a1 = r) : Mt l yX4_isKind cX4_isKind 1 (some .boolean) (rmF 1 25) G x m [.int a1] (some (.int r)) x m := by
  refine Mt.of (by decide) (Nat.le_of_ble_eq_true rfl) ?_
  intro p e s mm args below meth c C ls hl hw
  have hx := C.1
  have hb := C.2.1
  have hown := C.2.2.2.2.1
  replace hl : lv_has ls 1 [(0, .int a1)] := hl
  unfold f4_isKind at h
  refine lv_iload_n hx hb dX4_isKind_0 rfl (lv_at hl 0 rfl) ?_
  refine lv_i2l hx hb dX4_isKind_1 rfl ?_
  refine lv_lconst (v := (0 : Int64)) hx hb dX4_isKind_2 (by decide) ?_
  refine lv_ldc2 hx hb hown (C.w kl_X4_105) dX4_isKind_3 ?_
  refine w_Si C hw (As := [.long (a1.toInt64), .long (0 : Int64), .long (6 : Int64)]) (rest := []) (c4_in l G x m (a1.toInt64) (0 : Int64) (6 : Int64) _ rfl) ks_X4_in ml_X4_57 ⟨rfl, rfl⟩ ⟨Nat.le_of_ble_eq_true rfl, Nat.le_of_ble_eq_true rfl⟩ ⟨Nat.zero_le _, Nat.zero_le _⟩ rfl rfl (Nat.le_of_ble_eq_true rfl) (lv_sub hl [] rfl) dX4_isKind_6 (fun H locs hw => ?_)
  subst h
  exact w_iret C hw (v := (f4_in (a1.toInt64) (0 : Int64) (6 : Int64))) rfl (nz_b (bz_X4_in (a1.toInt64) (0 : Int64) (6 : Int64))) dX4_isKind_9

def f4_adds  (a1 : Int32) (a2 : Int32) (a3 : Int32) (m : St) : Option (Int32 × St) :=
  if (1 : Int32) < 0 ∨ 119 ≤ (1 : Int32).toNatClampNeg then none else
  if (1 : Int32) < 0 ∨ 119 ≤ (1 : Int32).toNatClampNeg then none else
  if (1 : Int32) < 0 ∨ 119 ≤ (1 : Int32).toNatClampNeg then none else
  (f4_sets (m 26 (1 : Int32).toNatClampNeg) (0 : Int32) a1 (up m 26 (1 : Int32).toNatClampNeg ((m 26 (1 : Int32).toNatClampNeg) + (1 : Int32)))).bind fun z1 =>
  (f4_sets (m 26 (1 : Int32).toNatClampNeg) (1 : Int32) a2 z1).bind fun z2 =>
  (f4_sets (m 26 (1 : Int32).toNatClampNeg) (2 : Int32) a3 z2).bind fun z3 =>
  some ((m 26 (1 : Int32).toNatClampNeg), z3)
set_option maxHeartbeats 4000000 in
set_option maxRecDepth 100000 in
theorem c4_adds (l : Launch) (G : GT)  (x m : St) (a1 : Int32) (a2 : Int32) (a3 : Int32) (r : Int32 × St) (h : f4_adds a1 a2 a3 m = some r) : Mt l yX4_adds cX4_adds 5 (some .int) (rmF 1 23) G x m [.ref (gq G 25), .int a1, .int a2, .int a3] (some (.int r.1)) x r.2 := by
  refine Mt.of (by decide) (Nat.le_of_ble_eq_true rfl) ?_
  intro p e s mm args below meth c C ls hl hw
  have hx := C.1
  have hb := C.2.1
  have hown := C.2.2.2.2.1
  replace hl : lv_has ls 5 [(0, .ref (gq G 25)), (1, .int a1), (2, .int a2), (3, .int a3)] := hl
  unfold f4_adds at h
  refine lv_aload_n hx hb dX4_adds_0 rfl (lv_at hl 0 rfl) ?_
  refine w_get C hw (v := .ref (gq G 26)) (k := 0) (wk_model G x m) rfl it_4 (by decide) fl_X4_9 rfl dX4_adds_1 ?_
  refine lv_iconst (v := (1 : Int32)) hx hb dX4_adds_4 (by decide) ?_
  obtain ⟨hq, h⟩ := p_if h
  refine w_ald C hw (am_26 G x m).1 hq dX4_adds_5 ?_
  refine lv_istore (lv' := [(4, .int (m 26 (1 : Int32).toNatClampNeg)), (0, .ref (gq G 25)), (1, .int a1), (2, .int a2), (3, .int a3)]) hx hb dX4_adds_6 hl (by decide) rfl (fun ls hl => ?_)
  refine lv_aload_n hx hb dX4_adds_8 rfl (lv_at hl 1 rfl) ?_
  refine w_get C hw (v := .ref (gq G 26)) (k := 0) (wk_model G x m) rfl it_4 (by decide) fl_X4_9 rfl dX4_adds_9 ?_
  refine lv_iconst (v := (1 : Int32)) hx hb dX4_adds_12 (by decide) ?_
  refine lv_dup2_11 hx hb dX4_adds_13 rfl rfl ?_
  obtain ⟨hq, h⟩ := p_if h
  refine w_ald C hw (am_26 G x m).1 hq dX4_adds_14 ?_
  refine lv_iconst (v := (1 : Int32)) hx hb dX4_adds_15 (by decide) ?_
  refine lv_iadd hx hb dX4_adds_16 ?_
  obtain ⟨hq, h⟩ := p_if h
  refine w_astM C hw am_26 hq dX4_adds_17 (fun H locs hw => ?_)
  refine lv_aload_n hx hb dX4_adds_18 rfl (lv_at hl 1 rfl) ?_
  refine lv_iload hx hb dX4_adds_19 (lv_at hl 0 rfl) ?_
  refine lv_iconst (v := (0 : Int32)) hx hb dX4_adds_21 (by decide) ?_
  refine lv_iload_n hx hb dX4_adds_22 rfl (lv_at hl 2 rfl) ?_
  obtain ⟨z1, hq, h⟩ := p_bd h
  refine w_Vv C hw (As := [.int (m 26 (1 : Int32).toNatClampNeg), .int (0 : Int32), .int a1]) (rest := []) (c4_sets l G x (up m 26 (1 : Int32).toNatClampNeg ((m 26 (1 : Int32).toNatClampNeg) + (1 : Int32))) (m 26 (1 : Int32).toNatClampNeg) (0 : Int32) a1 z1 hq) kv_X4_sets ml_X4_107 ⟨rfl, rfl⟩ ⟨Nat.le_of_ble_eq_true rfl, Nat.le_of_ble_eq_true rfl⟩ ⟨Nat.zero_le _, Nat.zero_le _⟩ (w_recv C hw (wk_model G x (up m 26 (1 : Int32).toNatClampNeg ((m 26 (1 : Int32).toNatClampNeg) + (1 : Int32)))) rfl) rfl rfl (Nat.le_of_ble_eq_true rfl) (lv_sub hl [] rfl) dX4_adds_23 (fun H locs hw => ?_)
  refine lv_aload_n hx hb dX4_adds_26 rfl (lv_at hl 1 rfl) ?_
  refine lv_iload hx hb dX4_adds_27 (lv_at hl 0 rfl) ?_
  refine lv_iconst (v := (1 : Int32)) hx hb dX4_adds_29 (by decide) ?_
  refine lv_iload_n hx hb dX4_adds_30 rfl (lv_at hl 3 rfl) ?_
  obtain ⟨z2, hq, h⟩ := p_bd h
  refine w_Vv C hw (As := [.int (m 26 (1 : Int32).toNatClampNeg), .int (1 : Int32), .int a2]) (rest := []) (c4_sets l G x z1 (m 26 (1 : Int32).toNatClampNeg) (1 : Int32) a2 z2 hq) kv_X4_sets ml_X4_107 ⟨rfl, rfl⟩ ⟨Nat.le_of_ble_eq_true rfl, Nat.le_of_ble_eq_true rfl⟩ ⟨Nat.zero_le _, Nat.zero_le _⟩ (w_recv C hw (wk_model G x z1) rfl) rfl rfl (Nat.le_of_ble_eq_true rfl) (lv_sub hl [] rfl) dX4_adds_31 (fun H locs hw => ?_)
  refine lv_aload_n hx hb dX4_adds_34 rfl (lv_at hl 1 rfl) ?_
  refine lv_iload hx hb dX4_adds_35 (lv_at hl 0 rfl) ?_
  refine lv_iconst (v := (2 : Int32)) hx hb dX4_adds_37 (by decide) ?_
  refine lv_iload_n hx hb dX4_adds_38 rfl (lv_at hl 4 rfl) ?_
  obtain ⟨z3, hq, h⟩ := p_bd h
  refine w_Vv C hw (As := [.int (m 26 (1 : Int32).toNatClampNeg), .int (2 : Int32), .int a3]) (rest := []) (c4_sets l G x z2 (m 26 (1 : Int32).toNatClampNeg) (2 : Int32) a3 z3 hq) kv_X4_sets ml_X4_107 ⟨rfl, rfl⟩ ⟨Nat.le_of_ble_eq_true rfl, Nat.le_of_ble_eq_true rfl⟩ ⟨Nat.zero_le _, Nat.zero_le _⟩ (w_recv C hw (wk_model G x z2) rfl) rfl rfl (Nat.le_of_ble_eq_true rfl) (lv_sub hl [] rfl) dX4_adds_39 (fun H locs hw => ?_)
  refine lv_iload hx hb dX4_adds_42 (lv_at hl 0 rfl) ?_
  replace h := Option.some.inj h
  subst h
  exact w_iret C hw (v := (m 26 (1 : Int32).toNatClampNeg)) rfl rfl dX4_adds_44

def f4_says_b14    (m : St) : Option (Int32 × St) :=
  (f4_finds (0 : Int32) m).bind fun q => match q with
  | (v6, z5) =>
    some (v6, z5)
def f4_says  (a1 : Int32) (a2 : Int32) (m : St) : Option (Int32 × St) :=
  if (f4_isKind a1) = 0 then
    f4_says_b14 m
  else
    if (f4_isCorner a2) = 0 then
      f4_says_b14 m
    else
      if (1 : Int32) < 0 ∨ 119 ≤ (1 : Int32).toNatClampNeg then none else
      if (m 26 (1 : Int32).toNatClampNeg) = (8 : Int32) then
        (f4_finds (1 : Int32) m).bind fun q => match q with
        | (v4, z3) =>
          some (v4, z3)
      else
        (f4_adds a1 a2 (1 : Int32) m).bind fun q => match q with
        | (v2, z1) =>
          some (v2, z1)
set_option maxHeartbeats 4000000 in
set_option maxRecDepth 100000 in
theorem c4_says (l : Launch) (G : GT)  (x m : St) (a1 : Int32) (a2 : Int32) (r : Int32 × St) (h : f4_says a1 a2 m = some r) : Mt l yX4_says cX4_says 3 (some .int) (rmF 2 47) G x m [.ref (gq G 25), .int a1, .int a2] (some (.int r.1)) x r.2 := by
  refine Mt.of (by decide) (Nat.le_of_ble_eq_true rfl) ?_
  intro p e s mm args below meth c C ls hl hw
  have hx := C.1
  have hb := C.2.1
  have hown := C.2.2.2.2.1
  replace hl : lv_has ls 3 [(0, .ref (gq G 25)), (1, .int a1), (2, .int a2)] := hl
  have B14 : ∀  (m : St) (H : Heap) (locs : List Loc) (ls : Array Slot), lv_has ls 3 [(0, .ref (gq G 25))] → Wd G s x m H locs → f4_says_b14 m = some r → W p l e (rmF 2 47) s mm args below meth c H locs 0 0 (QE below G (some (.int r.1)) x r.2 args s) (F0 mm 14 ls []) := by
    intro  m H locs ls hl hw h
    unfold f4_says_b14 at h
    refine lv_aload_n hx hb dX4_says_14 rfl (lv_at hl 0 rfl) ?_
    refine lv_iconst (v := (0 : Int32)) hx hb dX4_says_15 (by decide) ?_
    obtain ⟨⟨v6, z5⟩, hq, h⟩ := p_bd h
    dsimp only at h
    refine w_Vi C hw (As := [.int (0 : Int32)]) (rest := []) (c4_finds l G x m (0 : Int32) (v6, z5) hq) kv_X4_finds ml_X4_82 ⟨rfl, rfl⟩ ⟨Nat.le_of_ble_eq_true rfl, Nat.le_of_ble_eq_true rfl⟩ ⟨Nat.zero_le _, Nat.zero_le _⟩ (w_recv C hw (wk_model G x m) rfl) rfl rfl (Nat.le_of_ble_eq_true rfl) (lv_sub hl [] rfl) dX4_says_16 (fun H locs hw => ?_)
    replace h := Option.some.inj h
    subst h
    exact w_iret C hw (v := v6) rfl rfl dX4_says_19
  unfold f4_says at h
  refine lv_iload_n hx hb dX4_says_0 rfl (lv_at hl 1 rfl) ?_
  refine w_Si C hw (As := [.int a1]) (rest := []) (c4_isKind l G x m a1 _ rfl) ks_X4_isKind ml_X4_110 ⟨rfl, rfl⟩ ⟨Nat.le_of_ble_eq_true rfl, Nat.le_of_ble_eq_true rfl⟩ ⟨Nat.zero_le _, Nat.zero_le _⟩ rfl rfl (Nat.le_of_ble_eq_true rfl) (lv_sub hl [] rfl) dX4_says_1 (fun H locs hw => ?_)
  refine lv_if_eq (tgt := 14) hx hb dX4_says_4 (by decide) (fun hc => ?_) (fun hc => ?_)
  · replace h := p_t hc h
    exact B14 m _ _ _ (lv_sub hl [0] rfl) hw h
  · replace h := p_f hc h
    refine lv_iload_n hx hb dX4_says_7 rfl (lv_at hl 2 rfl) ?_
    refine w_Si C hw (As := [.int a2]) (rest := []) (c4_isCorner l G x m a2 _ rfl) ks_X4_isCorner ml_X4_76 ⟨rfl, rfl⟩ ⟨Nat.le_of_ble_eq_true rfl, Nat.le_of_ble_eq_true rfl⟩ ⟨Nat.zero_le _, Nat.zero_le _⟩ rfl rfl (Nat.le_of_ble_eq_true rfl) (lv_sub hl [] rfl) dX4_says_8 (fun H locs hw => ?_)
    refine lv_if_ne (tgt := 20) hx hb dX4_says_11 (by decide) (fun hc => ?_) (fun hc => ?_)
    · replace h := p_f hc h
      refine lv_aload_n hx hb dX4_says_20 rfl (lv_at hl 0 rfl) ?_
      refine w_get C hw (v := .ref (gq G 26)) (k := 0) (wk_model G x m) rfl it_4 (by decide) fl_X4_9 rfl dX4_says_21 ?_
      refine lv_iconst (v := (1 : Int32)) hx hb dX4_says_24 (by decide) ?_
      obtain ⟨hq, h⟩ := p_if h
      refine w_ald C hw (am_26 G x m).1 hq dX4_says_25 ?_
      refine lv_bipush (v := (8 : Int32)) hx hb dX4_says_26 (by decide) ?_
      refine lv_icmp_ne (tgt := 39) hx hb dX4_says_28 (by decide) (fun hc => ?_) (fun hc => ?_)
      · replace h := p_f hc h
        refine lv_aload_n hx hb dX4_says_39 rfl (lv_at hl 0 rfl) ?_
        refine lv_iload_n hx hb dX4_says_40 rfl (lv_at hl 1 rfl) ?_
        refine lv_iload_n hx hb dX4_says_41 rfl (lv_at hl 2 rfl) ?_
        refine lv_iconst (v := (1 : Int32)) hx hb dX4_says_42 (by decide) ?_
        obtain ⟨⟨v2, z1⟩, hq, h⟩ := p_bd h
        dsimp only at h
        refine w_Vi C hw (As := [.int a1, .int a2, .int (1 : Int32)]) (rest := []) (c4_adds l G x m a1 a2 (1 : Int32) (v2, z1) hq) kv_X4_adds ml_X4_113 ⟨rfl, rfl⟩ ⟨Nat.le_of_ble_eq_true rfl, Nat.le_of_ble_eq_true rfl⟩ ⟨Nat.zero_le _, Nat.zero_le _⟩ (w_recv C hw (wk_model G x m) rfl) rfl rfl (Nat.le_of_ble_eq_true rfl) (lv_sub hl [] rfl) dX4_says_43 (fun H locs hw => ?_)
        replace h := Option.some.inj h
        subst h
        exact w_iret C hw (v := v2) rfl rfl dX4_says_46
      · replace h := p_t hc h
        refine lv_aload_n hx hb dX4_says_31 rfl (lv_at hl 0 rfl) ?_
        refine lv_iconst (v := (1 : Int32)) hx hb dX4_says_32 (by decide) ?_
        obtain ⟨⟨v4, z3⟩, hq, h⟩ := p_bd h
        dsimp only at h
        refine w_Vi C hw (As := [.int (1 : Int32)]) (rest := []) (c4_finds l G x m (1 : Int32) (v4, z3) hq) kv_X4_finds ml_X4_82 ⟨rfl, rfl⟩ ⟨Nat.le_of_ble_eq_true rfl, Nat.le_of_ble_eq_true rfl⟩ ⟨Nat.zero_le _, Nat.zero_le _⟩ (w_recv C hw (wk_model G x m) rfl) rfl rfl (Nat.le_of_ble_eq_true rfl) (lv_sub hl [] rfl) dX4_says_33 (fun H locs hw => ?_)
        refine lv_goto (tgt := 46) hx hb dX4_says_36 (by decide) ?_
        replace h := Option.some.inj h
        subst h
        exact w_iret C hw (v := v4) rfl rfl dX4_says_46
    · replace h := p_t hc h
      exact B14 m _ _ _ (lv_sub hl [0] rfl) hw h

def f4_of_b20    (m : St) : Option (Int32 × St) :=
  (f4_finds (0 : Int32) m).bind fun q => match q with
  | (v6, z5) =>
    some (v6, z5)
def f4_of  (a1 : Int32) (a2 : Int32) (m : St) : Option (Int32 × St) :=
  (f4_isWhisper a1 m).bind fun v1 =>
  if v1 = 0 then
    f4_of_b20 m
  else
    if (f4_in (a2.toInt64) (0 : Int64) (4 : Int64)) = 0 then
      f4_of_b20 m
    else
      if (3 : Int32) ≤ a2 then
        if a2 = (3 : Int32) then
          (f4_speed a1 m).bind fun v3 =>
          some (v3, m)
        else
          (f4_gathers a1 m).bind fun v2 =>
          some (v2, m)
      else
        (f4_its a1 a2 m).bind fun v4 =>
        some (v4, m)
set_option maxHeartbeats 4000000 in
set_option maxRecDepth 100000 in
theorem c4_of (l : Launch) (G : GT)  (x m : St) (a1 : Int32) (a2 : Int32) (r : Int32 × St) (h : f4_of a1 a2 m = some r) : Mt l yX4_of cX4_of 3 (some .int) (rmF 3 69) G x m [.ref (gq G 25), .int a1, .int a2] (some (.int r.1)) x r.2 := by
  refine Mt.of (by decide) (Nat.le_of_ble_eq_true rfl) ?_
  intro p e s mm args below meth c C ls hl hw
  have hx := C.1
  have hb := C.2.1
  have hown := C.2.2.2.2.1
  replace hl : lv_has ls 3 [(0, .ref (gq G 25)), (1, .int a1), (2, .int a2)] := hl
  have B20 : ∀  (m : St) (H : Heap) (locs : List Loc) (ls : Array Slot), lv_has ls 3 [(0, .ref (gq G 25))] → Wd G s x m H locs → f4_of_b20 m = some r → W p l e (rmF 3 69) s mm args below meth c H locs 0 0 (QE below G (some (.int r.1)) x r.2 args s) (F0 mm 20 ls []) := by
    intro  m H locs ls hl hw h
    unfold f4_of_b20 at h
    refine lv_aload_n hx hb dX4_of_20 rfl (lv_at hl 0 rfl) ?_
    refine lv_iconst (v := (0 : Int32)) hx hb dX4_of_21 (by decide) ?_
    obtain ⟨⟨v6, z5⟩, hq, h⟩ := p_bd h
    dsimp only at h
    refine w_Vi C hw (As := [.int (0 : Int32)]) (rest := []) (c4_finds l G x m (0 : Int32) (v6, z5) hq) kv_X4_finds ml_X4_82 ⟨rfl, rfl⟩ ⟨Nat.le_of_ble_eq_true rfl, Nat.le_of_ble_eq_true rfl⟩ ⟨Nat.zero_le _, Nat.zero_le _⟩ (w_recv C hw (wk_model G x m) rfl) rfl rfl (Nat.le_of_ble_eq_true rfl) (lv_sub hl [] rfl) dX4_of_22 (fun H locs hw => ?_)
    replace h := Option.some.inj h
    subst h
    exact w_iret C hw (v := v6) rfl rfl dX4_of_25
  unfold f4_of at h
  refine lv_aload_n hx hb dX4_of_0 rfl (lv_at hl 0 rfl) ?_
  refine lv_iload_n hx hb dX4_of_1 rfl (lv_at hl 1 rfl) ?_
  obtain ⟨v1, hq, h⟩ := p_bd h
  refine w_Vi C hw (As := [.int a1]) (rest := []) (c4_isWhisper l G x m a1 v1 hq) kv_X4_isWhisper ml_X4_117 ⟨rfl, rfl⟩ ⟨Nat.le_of_ble_eq_true rfl, Nat.le_of_ble_eq_true rfl⟩ ⟨Nat.zero_le _, Nat.zero_le _⟩ (w_recv C hw (wk_model G x m) rfl) rfl rfl (Nat.le_of_ble_eq_true rfl) (lv_sub hl [] rfl) dX4_of_2 (fun H locs hw => ?_)
  refine lv_if_eq (tgt := 20) hx hb dX4_of_5 (by decide) (fun hc => ?_) (fun hc => ?_)
  · replace h := p_t hc h
    exact B20 m _ _ _ (lv_sub hl [0] rfl) hw h
  · replace h := p_f hc h
    refine lv_iload_n hx hb dX4_of_8 rfl (lv_at hl 2 rfl) ?_
    refine lv_i2l hx hb dX4_of_9 rfl ?_
    refine lv_lconst (v := (0 : Int64)) hx hb dX4_of_10 (by decide) ?_
    refine lv_ldc2 hx hb hown (C.w kl_X4_94) dX4_of_11 ?_
    refine w_Si C hw (As := [.long (a2.toInt64), .long (0 : Int64), .long (4 : Int64)]) (rest := []) (c4_in l G x m (a2.toInt64) (0 : Int64) (4 : Int64) _ rfl) ks_X4_in ml_X4_57 ⟨rfl, rfl⟩ ⟨Nat.le_of_ble_eq_true rfl, Nat.le_of_ble_eq_true rfl⟩ ⟨Nat.zero_le _, Nat.zero_le _⟩ rfl rfl (Nat.le_of_ble_eq_true rfl) (lv_sub hl [] rfl) dX4_of_14 (fun H locs hw => ?_)
    refine lv_if_ne (tgt := 26) hx hb dX4_of_17 (by decide) (fun hc => ?_) (fun hc => ?_)
    · replace h := p_f hc h
      refine lv_iload_n hx hb dX4_of_26 rfl (lv_at hl 2 rfl) ?_
      refine lv_iconst (v := (3 : Int32)) hx hb dX4_of_27 (by decide) ?_
      refine lv_icmp_ge (tgt := 40) hx hb dX4_of_28 (by decide) (fun hc => ?_) (fun hc => ?_)
      · replace h := p_t hc h
        refine lv_iload_n hx hb dX4_of_40 rfl (lv_at hl 2 rfl) ?_
        refine lv_iconst (v := (3 : Int32)) hx hb dX4_of_41 (by decide) ?_
        refine lv_icmp_ne (tgt := 53) hx hb dX4_of_42 (by decide) (fun hc => ?_) (fun hc => ?_)
        · replace h := p_f hc h
          refine lv_aload_n hx hb dX4_of_53 rfl (lv_at hl 0 rfl) ?_
          refine lv_iload_n hx hb dX4_of_54 rfl (lv_at hl 1 rfl) ?_
          obtain ⟨v2, hq, h⟩ := p_bd h
          refine w_Vi C hw (As := [.int a1]) (rest := []) (c4_gathers l G x m a1 v2 hq) kv_X4_gathers ml_X4_123 ⟨rfl, rfl⟩ ⟨Nat.le_of_ble_eq_true rfl, Nat.le_of_ble_eq_true rfl⟩ ⟨Nat.zero_le _, Nat.zero_le _⟩ (w_recv C hw (wk_model G x m) rfl) rfl rfl (Nat.le_of_ble_eq_true rfl) (lv_sub hl [] rfl) dX4_of_55 (fun H locs hw => ?_)
          replace h := Option.some.inj h
          subst h
          exact w_iret C hw (v := v2) rfl rfl dX4_of_58
        · replace h := p_t hc h
          refine lv_aload_n hx hb dX4_of_45 rfl (lv_at hl 0 rfl) ?_
          refine lv_iload_n hx hb dX4_of_46 rfl (lv_at hl 1 rfl) ?_
          obtain ⟨v3, hq, h⟩ := p_bd h
          refine w_Vi C hw (As := [.int a1]) (rest := []) (c4_speed l G x m a1 v3 hq) kv_X4_speed ml_X4_120 ⟨rfl, rfl⟩ ⟨Nat.le_of_ble_eq_true rfl, Nat.le_of_ble_eq_true rfl⟩ ⟨Nat.zero_le _, Nat.zero_le _⟩ (w_recv C hw (wk_model G x m) rfl) rfl rfl (Nat.le_of_ble_eq_true rfl) (lv_sub hl [] rfl) dX4_of_47 (fun H locs hw => ?_)
          refine lv_goto (tgt := 58) hx hb dX4_of_50 (by decide) ?_
          replace h := Option.some.inj h
          subst h
          exact w_iret C hw (v := v3) rfl rfl dX4_of_58
      · replace h := p_f hc h
        refine lv_aload_n hx hb dX4_of_31 rfl (lv_at hl 0 rfl) ?_
        refine lv_iload_n hx hb dX4_of_32 rfl (lv_at hl 1 rfl) ?_
        refine lv_iload_n hx hb dX4_of_33 rfl (lv_at hl 2 rfl) ?_
        obtain ⟨v4, hq, h⟩ := p_bd h
        refine w_Vi C hw (As := [.int a1, .int a2]) (rest := []) (c4_its l G x m a1 a2 v4 hq) kv_X4_its ml_X4_69 ⟨rfl, rfl⟩ ⟨Nat.le_of_ble_eq_true rfl, Nat.le_of_ble_eq_true rfl⟩ ⟨Nat.zero_le _, Nat.zero_le _⟩ (w_recv C hw (wk_model G x m) rfl) rfl rfl (Nat.le_of_ble_eq_true rfl) (lv_sub hl [] rfl) dX4_of_34 (fun H locs hw => ?_)
        refine lv_goto (tgt := 58) hx hb dX4_of_37 (by decide) ?_
        replace h := Option.some.inj h
        subst h
        exact w_iret C hw (v := v4) rfl rfl dX4_of_58
    · replace h := p_t hc h
      exact B20 m _ _ _ (lv_sub hl [0] rfl) hw h

def f4_mayBe  (a1 : Int32) (a2 : Int32) : Int32 :=
  if a1 = 0 then
    (f4_isKind a2)
  else
    if a1 = (1 : Int32) then
      (f4_isCorner a2)
    else
      if a1 = (2 : Int32) then
        if (f4_in (a2.toInt64) (1 : Int64) (999 : Int64)) = 0 then
          (0 : Int32)
        else
          (1 : Int32)
      else
        (0 : Int32)
theorem bz_X4_mayBe  (a1 : Int32) (a2 : Int32) : f4_mayBe a1 a2 = 0 ∨ f4_mayBe a1 a2 = 1 := by
  unfold f4_mayBe
  repeat' split
  all_goals first | exact Or.inl rfl | exact Or.inr rfl | exact bz_X4_in _ _ _  | exact bz_X4_isCorner _  | exact bz_X4_isKind _ 
set_option maxHeartbeats 4000000 in
set_option maxRecDepth 100000 in
theorem c4_mayBe (l : Launch) (G : GT)  (x m : St) (a1 : Int32) (a2 : Int32) (r : Int32) (h : f4_mayBe a1 a2 = r) : Mt l yX4_mayBe cX4_mayBe 2 (some .boolean) (rmF 2 45) G x m [.int a1, .int a2] (some (.int r)) x m := by
  refine Mt.of (by decide) (Nat.le_of_ble_eq_true rfl) ?_
  intro p e s mm args below meth c C ls hl hw
  have hx := C.1
  have hb := C.2.1
  have hown := C.2.2.2.2.1
  replace hl : lv_has ls 2 [(0, .int a1), (1, .int a2)] := hl
  unfold f4_mayBe at h
  refine lv_iload_n hx hb dX4_mayBe_0 rfl (lv_at hl 0 rfl) ?_
  refine lv_if_ne (tgt := 11) hx hb dX4_mayBe_1 (by decide) (fun hc => ?_) (fun hc => ?_)
  · replace h := p_f hc h
    refine lv_iload_n hx hb dX4_mayBe_11 rfl (lv_at hl 0 rfl) ?_
    refine lv_iconst (v := (1 : Int32)) hx hb dX4_mayBe_12 (by decide) ?_
    refine lv_icmp_ne (tgt := 23) hx hb dX4_mayBe_13 (by decide) (fun hc => ?_) (fun hc => ?_)
    · replace h := p_f hc h
      refine lv_iload_n hx hb dX4_mayBe_23 rfl (lv_at hl 0 rfl) ?_
      refine lv_iconst (v := (2 : Int32)) hx hb dX4_mayBe_24 (by decide) ?_
      refine lv_icmp_ne (tgt := 44) hx hb dX4_mayBe_25 (by decide) (fun hc => ?_) (fun hc => ?_)
      · replace h := p_f hc h
        refine lv_iconst (v := (0 : Int32)) hx hb dX4_mayBe_44 (by decide) ?_
        subst h
        exact w_iret C hw (v := (0 : Int32)) rfl rfl dX4_mayBe_45
      · replace h := p_t hc h
        refine lv_iload_n hx hb dX4_mayBe_28 rfl (lv_at hl 1 rfl) ?_
        refine lv_i2l hx hb dX4_mayBe_29 rfl ?_
        refine lv_lconst (v := (1 : Int64)) hx hb dX4_mayBe_30 (by decide) ?_
        refine lv_ldc2 hx hb hown (C.w kl_X4_126) dX4_mayBe_31 ?_
        refine w_Si C hw (As := [.long (a2.toInt64), .long (1 : Int64), .long (999 : Int64)]) (rest := []) (c4_in l G x m (a2.toInt64) (1 : Int64) (999 : Int64) _ rfl) ks_X4_in ml_X4_57 ⟨rfl, rfl⟩ ⟨Nat.le_of_ble_eq_true rfl, Nat.le_of_ble_eq_true rfl⟩ ⟨Nat.zero_le _, Nat.zero_le _⟩ rfl rfl (Nat.le_of_ble_eq_true rfl) (lv_sub hl [] rfl) dX4_mayBe_34 (fun H locs hw => ?_)
        refine lv_if_eq (tgt := 44) hx hb dX4_mayBe_37 (by decide) (fun hc => ?_) (fun hc => ?_)
        · replace h := p_t hc h
          refine lv_iconst (v := (0 : Int32)) hx hb dX4_mayBe_44 (by decide) ?_
          subst h
          exact w_iret C hw (v := (0 : Int32)) rfl rfl dX4_mayBe_45
        · replace h := p_f hc h
          refine lv_iconst (v := (1 : Int32)) hx hb dX4_mayBe_40 (by decide) ?_
          refine lv_goto (tgt := 45) hx hb dX4_mayBe_41 (by decide) ?_
          subst h
          exact w_iret C hw (v := (1 : Int32)) rfl rfl dX4_mayBe_45
    · replace h := p_t hc h
      refine lv_iload_n hx hb dX4_mayBe_16 rfl (lv_at hl 1 rfl) ?_
      refine w_Si C hw (As := [.int a2]) (rest := []) (c4_isCorner l G x m a2 _ rfl) ks_X4_isCorner ml_X4_76 ⟨rfl, rfl⟩ ⟨Nat.le_of_ble_eq_true rfl, Nat.le_of_ble_eq_true rfl⟩ ⟨Nat.zero_le _, Nat.zero_le _⟩ rfl rfl (Nat.le_of_ble_eq_true rfl) (lv_sub hl [] rfl) dX4_mayBe_17 (fun H locs hw => ?_)
      refine lv_goto (tgt := 45) hx hb dX4_mayBe_20 (by decide) ?_
      subst h
      exact w_iret C hw (v := (f4_isCorner a2)) rfl (nz_b (bz_X4_isCorner a2)) dX4_mayBe_45
  · replace h := p_t hc h
    refine lv_iload_n hx hb dX4_mayBe_4 rfl (lv_at hl 1 rfl) ?_
    refine w_Si C hw (As := [.int a2]) (rest := []) (c4_isKind l G x m a2 _ rfl) ks_X4_isKind ml_X4_110 ⟨rfl, rfl⟩ ⟨Nat.le_of_ble_eq_true rfl, Nat.le_of_ble_eq_true rfl⟩ ⟨Nat.zero_le _, Nat.zero_le _⟩ rfl rfl (Nat.le_of_ble_eq_true rfl) (lv_sub hl [] rfl) dX4_mayBe_5 (fun H locs hw => ?_)
    refine lv_goto (tgt := 45) hx hb dX4_mayBe_8 (by decide) ?_
    subst h
    exact w_iret C hw (v := (f4_isKind a2)) rfl (nz_b (bz_X4_isKind a2)) dX4_mayBe_45

def f4_change_b32    (m : St) : Option (Int32 × St) :=
  (f4_finds (0 : Int32) m).bind fun q => match q with
  | (v5, z4) =>
    some (v5, z4)
def f4_change  (a1 : Int32) (a2 : Int32) (a3 : Int32) (m : St) : Option (Int32 × St) :=
  (f4_isWhisper a1 m).bind fun v1 =>
  if v1 = 0 then
    f4_change_b32 m
  else
    if (f4_mayBe a2 a3) = 0 then
      f4_change_b32 m
    else
      (f4_becomes (((85 : Int32) + ((3 : Int32) * a1)) + a2) a3 m).bind fun q => match q with
      | (v3, z2) =>
        some (v3, z2)
set_option maxHeartbeats 4000000 in
set_option maxRecDepth 100000 in
theorem c4_change (l : Launch) (G : GT)  (x m : St) (a1 : Int32) (a2 : Int32) (a3 : Int32) (r : Int32 × St) (h : f4_change a1 a2 a3 m = some r) : Mt l yX4_change cX4_change 4 (some .int) (rmF 3 66) G x m [.ref (gq G 25), .int a1, .int a2, .int a3] (some (.int r.1)) x r.2 := by
  refine Mt.of (by decide) (Nat.le_of_ble_eq_true rfl) ?_
  intro p e s mm args below meth c C ls hl hw
  have hx := C.1
  have hb := C.2.1
  have hown := C.2.2.2.2.1
  replace hl : lv_has ls 4 [(0, .ref (gq G 25)), (1, .int a1), (2, .int a2), (3, .int a3)] := hl
  have B32 : ∀  (m : St) (H : Heap) (locs : List Loc) (ls : Array Slot), lv_has ls 4 [(0, .ref (gq G 25))] → Wd G s x m H locs → f4_change_b32 m = some r → W p l e (rmF 3 66) s mm args below meth c H locs 0 0 (QE below G (some (.int r.1)) x r.2 args s) (F0 mm 32 ls []) := by
    intro  m H locs ls hl hw h
    unfold f4_change_b32 at h
    refine lv_aload_n hx hb dX4_change_32 rfl (lv_at hl 0 rfl) ?_
    refine lv_iconst (v := (0 : Int32)) hx hb dX4_change_33 (by decide) ?_
    obtain ⟨⟨v5, z4⟩, hq, h⟩ := p_bd h
    dsimp only at h
    refine w_Vi C hw (As := [.int (0 : Int32)]) (rest := []) (c4_finds l G x m (0 : Int32) (v5, z4) hq) kv_X4_finds ml_X4_82 ⟨rfl, rfl⟩ ⟨Nat.le_of_ble_eq_true rfl, Nat.le_of_ble_eq_true rfl⟩ ⟨Nat.zero_le _, Nat.zero_le _⟩ (w_recv C hw (wk_model G x m) rfl) rfl rfl (Nat.le_of_ble_eq_true rfl) (lv_sub hl [] rfl) dX4_change_34 (fun H locs hw => ?_)
    replace h := Option.some.inj h
    subst h
    exact w_iret C hw (v := v5) rfl rfl dX4_change_37
  unfold f4_change at h
  refine lv_aload_n hx hb dX4_change_0 rfl (lv_at hl 0 rfl) ?_
  refine lv_iload_n hx hb dX4_change_1 rfl (lv_at hl 1 rfl) ?_
  obtain ⟨v1, hq, h⟩ := p_bd h
  refine w_Vi C hw (As := [.int a1]) (rest := []) (c4_isWhisper l G x m a1 v1 hq) kv_X4_isWhisper ml_X4_117 ⟨rfl, rfl⟩ ⟨Nat.le_of_ble_eq_true rfl, Nat.le_of_ble_eq_true rfl⟩ ⟨Nat.zero_le _, Nat.zero_le _⟩ (w_recv C hw (wk_model G x m) rfl) rfl rfl (Nat.le_of_ble_eq_true rfl) (lv_sub hl [] rfl) dX4_change_2 (fun H locs hw => ?_)
  refine lv_if_eq (tgt := 32) hx hb dX4_change_5 (by decide) (fun hc => ?_) (fun hc => ?_)
  · replace h := p_t hc h
    exact B32 m _ _ _ (lv_sub hl [0] rfl) hw h
  · replace h := p_f hc h
    refine lv_iload_n hx hb dX4_change_8 rfl (lv_at hl 2 rfl) ?_
    refine lv_iload_n hx hb dX4_change_9 rfl (lv_at hl 3 rfl) ?_
    refine w_Si C hw (As := [.int a2, .int a3]) (rest := []) (c4_mayBe l G x m a2 a3 _ rfl) ks_X4_mayBe ml_X4_128 ⟨rfl, rfl⟩ ⟨Nat.le_of_ble_eq_true rfl, Nat.le_of_ble_eq_true rfl⟩ ⟨Nat.zero_le _, Nat.zero_le _⟩ rfl rfl (Nat.le_of_ble_eq_true rfl) (lv_sub hl [] rfl) dX4_change_10 (fun H locs hw => ?_)
    refine lv_if_eq (tgt := 32) hx hb dX4_change_13 (by decide) (fun hc => ?_) (fun hc => ?_)
    · replace h := p_t hc h
      exact B32 m _ _ _ (lv_sub hl [0] rfl) hw h
    · replace h := p_f hc h
      refine lv_aload_n hx hb dX4_change_16 rfl (lv_at hl 0 rfl) ?_
      refine lv_bipush (v := (85 : Int32)) hx hb dX4_change_17 (by decide) ?_
      refine lv_iconst (v := (3 : Int32)) hx hb dX4_change_19 (by decide) ?_
      refine lv_iload_n hx hb dX4_change_20 rfl (lv_at hl 1 rfl) ?_
      refine lv_imul hx hb dX4_change_21 ?_
      refine lv_iadd hx hb dX4_change_22 ?_
      refine lv_iload_n hx hb dX4_change_23 rfl (lv_at hl 2 rfl) ?_
      refine lv_iadd hx hb dX4_change_24 ?_
      refine lv_iload_n hx hb dX4_change_25 rfl (lv_at hl 3 rfl) ?_
      obtain ⟨⟨v3, z2⟩, hq, h⟩ := p_bd h
      dsimp only at h
      refine w_Vi C hw (As := [.int (((85 : Int32) + ((3 : Int32) * a1)) + a2), .int a3]) (rest := []) (c4_becomes l G x m (((85 : Int32) + ((3 : Int32) * a1)) + a2) a3 (v3, z2) hq) kv_X4_becomes ml_X4_99 ⟨rfl, rfl⟩ ⟨Nat.le_of_ble_eq_true rfl, Nat.le_of_ble_eq_true rfl⟩ ⟨Nat.zero_le _, Nat.zero_le _⟩ (w_recv C hw (wk_model G x m) rfl) rfl rfl (Nat.le_of_ble_eq_true rfl) (lv_sub hl [] rfl) dX4_change_26 (fun H locs hw => ?_)
      refine lv_goto (tgt := 37) hx hb dX4_change_29 (by decide) ?_
      replace h := Option.some.inj h
      subst h
      exact w_iret C hw (v := v3) rfl rfl dX4_change_37

def f4_aunts  (a1 : Int32) (m : St) : Option (Int32 × St) :=
  if (f4_isSet a1) = 0 then
    (f4_finds (0 : Int32) m).bind fun q => match q with
    | (v2, z1) =>
      some (v2, z1)
  else
    (f4_becomes (3 : Int32) a1 m).bind fun q => match q with
    | (v4, z3) =>
      some (v4, z3)
set_option maxHeartbeats 4000000 in
set_option maxRecDepth 100000 in
theorem c4_aunts (l : Launch) (G : GT)  (x m : St) (a1 : Int32) (r : Int32 × St) (h : f4_aunts a1 m = some r) : Mt l yX4_aunts cX4_aunts 2 (some .int) (rmF 2 45) G x m [.ref (gq G 25), .int a1] (some (.int r.1)) x r.2 := by
  refine Mt.of (by decide) (Nat.le_of_ble_eq_true rfl) ?_
  intro p e s mm args below meth c C ls hl hw
  have hx := C.1
  have hb := C.2.1
  have hown := C.2.2.2.2.1
  replace hl : lv_has ls 2 [(0, .ref (gq G 25)), (1, .int a1)] := hl
  unfold f4_aunts at h
  refine lv_iload_n hx hb dX4_aunts_0 rfl (lv_at hl 1 rfl) ?_
  refine w_Si C hw (As := [.int a1]) (rest := []) (c4_isSet l G x m a1 _ rfl) ks_X4_isSet ml_X4_132 ⟨rfl, rfl⟩ ⟨Nat.le_of_ble_eq_true rfl, Nat.le_of_ble_eq_true rfl⟩ ⟨Nat.zero_le _, Nat.zero_le _⟩ rfl rfl (Nat.le_of_ble_eq_true rfl) (lv_sub hl [] rfl) dX4_aunts_1 (fun H locs hw => ?_)
  refine lv_if_eq (tgt := 16) hx hb dX4_aunts_4 (by decide) (fun hc => ?_) (fun hc => ?_)
  · replace h := p_t hc h
    refine lv_aload_n hx hb dX4_aunts_16 rfl (lv_at hl 0 rfl) ?_
    refine lv_iconst (v := (0 : Int32)) hx hb dX4_aunts_17 (by decide) ?_
    obtain ⟨⟨v2, z1⟩, hq, h⟩ := p_bd h
    dsimp only at h
    refine w_Vi C hw (As := [.int (0 : Int32)]) (rest := []) (c4_finds l G x m (0 : Int32) (v2, z1) hq) kv_X4_finds ml_X4_82 ⟨rfl, rfl⟩ ⟨Nat.le_of_ble_eq_true rfl, Nat.le_of_ble_eq_true rfl⟩ ⟨Nat.zero_le _, Nat.zero_le _⟩ (w_recv C hw (wk_model G x m) rfl) rfl rfl (Nat.le_of_ble_eq_true rfl) (lv_sub hl [] rfl) dX4_aunts_18 (fun H locs hw => ?_)
    replace h := Option.some.inj h
    subst h
    exact w_iret C hw (v := v2) rfl rfl dX4_aunts_21
  · replace h := p_f hc h
    refine lv_aload_n hx hb dX4_aunts_7 rfl (lv_at hl 0 rfl) ?_
    refine lv_iconst (v := (3 : Int32)) hx hb dX4_aunts_8 (by decide) ?_
    refine lv_iload_n hx hb dX4_aunts_9 rfl (lv_at hl 1 rfl) ?_
    obtain ⟨⟨v4, z3⟩, hq, h⟩ := p_bd h
    dsimp only at h
    refine w_Vi C hw (As := [.int (3 : Int32), .int a1]) (rest := []) (c4_becomes l G x m (3 : Int32) a1 (v4, z3) hq) kv_X4_becomes ml_X4_99 ⟨rfl, rfl⟩ ⟨Nat.le_of_ble_eq_true rfl, Nat.le_of_ble_eq_true rfl⟩ ⟨Nat.zero_le _, Nat.zero_le _⟩ (w_recv C hw (wk_model G x m) rfl) rfl rfl (Nat.le_of_ble_eq_true rfl) (lv_sub hl [] rfl) dX4_aunts_10 (fun H locs hw => ?_)
    refine lv_goto (tgt := 21) hx hb dX4_aunts_13 (by decide) ?_
    replace h := Option.some.inj h
    subst h
    exact w_iret C hw (v := v4) rfl rfl dX4_aunts_21

def f4_frost  (a1 : Int32) (m : St) : Option (Int32 × St) :=
  if (f4_in (a1.toInt64) (0 : Int64) (1 : Int64)) = 0 then
    (f4_finds (0 : Int32) m).bind fun q => match q with
    | (v2, z1) =>
      some (v2, z1)
  else
    (f4_becomes (2 : Int32) a1 m).bind fun q => match q with
    | (v4, z3) =>
      some (v4, z3)
set_option maxHeartbeats 4000000 in
set_option maxRecDepth 100000 in
theorem c4_frost (l : Launch) (G : GT)  (x m : St) (a1 : Int32) (r : Int32 × St) (h : f4_frost a1 m = some r) : Mt l yX4_frost cX4_frost 2 (some .int) (rmF 1 25) G x m [.ref (gq G 25), .int a1] (some (.int r.1)) x r.2 := by
  refine Mt.of (by decide) (Nat.le_of_ble_eq_true rfl) ?_
  intro p e s mm args below meth c C ls hl hw
  have hx := C.1
  have hb := C.2.1
  have hown := C.2.2.2.2.1
  replace hl : lv_has ls 2 [(0, .ref (gq G 25)), (1, .int a1)] := hl
  unfold f4_frost at h
  refine lv_iload_n hx hb dX4_frost_0 rfl (lv_at hl 1 rfl) ?_
  refine lv_i2l hx hb dX4_frost_1 rfl ?_
  refine lv_lconst (v := (0 : Int64)) hx hb dX4_frost_2 (by decide) ?_
  refine lv_lconst (v := (1 : Int64)) hx hb dX4_frost_3 (by decide) ?_
  refine w_Si C hw (As := [.long (a1.toInt64), .long (0 : Int64), .long (1 : Int64)]) (rest := []) (c4_in l G x m (a1.toInt64) (0 : Int64) (1 : Int64) _ rfl) ks_X4_in ml_X4_57 ⟨rfl, rfl⟩ ⟨Nat.le_of_ble_eq_true rfl, Nat.le_of_ble_eq_true rfl⟩ ⟨Nat.zero_le _, Nat.zero_le _⟩ rfl rfl (Nat.le_of_ble_eq_true rfl) (lv_sub hl [] rfl) dX4_frost_4 (fun H locs hw => ?_)
  refine lv_if_eq (tgt := 19) hx hb dX4_frost_7 (by decide) (fun hc => ?_) (fun hc => ?_)
  · replace h := p_t hc h
    refine lv_aload_n hx hb dX4_frost_19 rfl (lv_at hl 0 rfl) ?_
    refine lv_iconst (v := (0 : Int32)) hx hb dX4_frost_20 (by decide) ?_
    obtain ⟨⟨v2, z1⟩, hq, h⟩ := p_bd h
    dsimp only at h
    refine w_Vi C hw (As := [.int (0 : Int32)]) (rest := []) (c4_finds l G x m (0 : Int32) (v2, z1) hq) kv_X4_finds ml_X4_82 ⟨rfl, rfl⟩ ⟨Nat.le_of_ble_eq_true rfl, Nat.le_of_ble_eq_true rfl⟩ ⟨Nat.zero_le _, Nat.zero_le _⟩ (w_recv C hw (wk_model G x m) rfl) rfl rfl (Nat.le_of_ble_eq_true rfl) (lv_sub hl [] rfl) dX4_frost_21 (fun H locs hw => ?_)
    replace h := Option.some.inj h
    subst h
    exact w_iret C hw (v := v2) rfl rfl dX4_frost_24
  · replace h := p_f hc h
    refine lv_aload_n hx hb dX4_frost_10 rfl (lv_at hl 0 rfl) ?_
    refine lv_iconst (v := (2 : Int32)) hx hb dX4_frost_11 (by decide) ?_
    refine lv_iload_n hx hb dX4_frost_12 rfl (lv_at hl 1 rfl) ?_
    obtain ⟨⟨v4, z3⟩, hq, h⟩ := p_bd h
    dsimp only at h
    refine w_Vi C hw (As := [.int (2 : Int32), .int a1]) (rest := []) (c4_becomes l G x m (2 : Int32) a1 (v4, z3) hq) kv_X4_becomes ml_X4_99 ⟨rfl, rfl⟩ ⟨Nat.le_of_ble_eq_true rfl, Nat.le_of_ble_eq_true rfl⟩ ⟨Nat.zero_le _, Nat.zero_le _⟩ (w_recv C hw (wk_model G x m) rfl) rfl rfl (Nat.le_of_ble_eq_true rfl) (lv_sub hl [] rfl) dX4_frost_13 (fun H locs hw => ?_)
    refine lv_goto (tgt := 24) hx hb dX4_frost_16 (by decide) ?_
    replace h := Option.some.inj h
    subst h
    exact w_iret C hw (v := v4) rfl rfl dX4_frost_24

def f4_rolls_b122  (k8 : Int32 → Int32 → Int32 → St → Option (St)) (b1 : Int32) (b2 : Int32) (w0 : Int32) (m : St) : Option (St) :=
  k8 b1 (b2 + (-1 : Int32)) w0 m
def f4_rolls_b95  (k8 : Int32 → Int32 → Int32 → St → Option (St)) (b1 : Int32) (b2 : Int32) (w1 : Int32) (w2 : Int32) (m : St) : Option (St) :=
  if (3 : Int32) < 0 ∨ 119 ≤ (3 : Int32).toNatClampNeg then none else
  (f4_its b1 (1 : Int32) (up m 25 5 (w1 ||| w2))).bind fun v11 =>
  if ((((up m 25 5 (w1 ||| w2)) 26 (3 : Int32).toNatClampNeg) >>> (v11 &&& 31)) &&& (1 : Int32)) = 0 then
    f4_rolls_b122 k8 b1 b2 (1 : Int32) (up m 25 5 (w1 ||| w2))
  else
    f4_rolls_b122 k8 b1 b2 (0 : Int32) (up m 25 5 (w1 ||| w2))
def f4_rolls_L8   : Nat → Int32 → Int32 → Int32 → St → Option (St)
  | 0, _, _, _, _ => none
  | n + 1, b1, b2, b3, m =>
    if b2 ≤ 0 then
      some m
    else
      if b3 = 0 then
        some m
      else
        (f4_its b1 (1 : Int32) m).bind fun v2 =>
        (f4_steep v2 m).bind fun v3 =>
        if v3 ≤ 0 then
          some m
        else
          (f4_its b1 (2 : Int32) m).bind fun v4 =>
          (f4_gathers b1 m).bind fun v5 =>
          (f4_sets b1 (2 : Int32) (if (v4 + v5) < (999 : Int32) then (v4 + v5) else (999 : Int32)) m).bind fun z6 =>
          (f4_its b1 (1 : Int32) z6).bind fun v7 =>
          (f4_part v7 (1 : Int32) z6).bind fun v8 =>
          (f4_sets b1 (1 : Int32) v8 z6).bind fun z9 =>
          if b1 = (z9 25 6) then
            (f4_its b1 (1 : Int32) z9).bind fun v10 =>
            f4_rolls_b95 (f4_rolls_L8 n) b1 b2 (z9 25 5) ((1 : Int32) <<< (v10 &&& 31)) z9
          else
            f4_rolls_b95 (f4_rolls_L8 n) b1 b2 (z9 25 5) (0 : Int32) z9
theorem f4_rolls_L8_0   (b1 : Int32) (b2 : Int32) (b3 : Int32) (m : St) : f4_rolls_L8  0 b1 b2 b3 m = none := rfl
theorem f4_rolls_L8_s   (n : Nat) (b1 : Int32) (b2 : Int32) (b3 : Int32) (m : St) : f4_rolls_L8  (n + 1) b1 b2 b3 m =
    if b2 ≤ 0 then
      some m
    else
      if b3 = 0 then
        some m
      else
        (f4_its b1 (1 : Int32) m).bind fun v2 =>
        (f4_steep v2 m).bind fun v3 =>
        if v3 ≤ 0 then
          some m
        else
          (f4_its b1 (2 : Int32) m).bind fun v4 =>
          (f4_gathers b1 m).bind fun v5 =>
          (f4_sets b1 (2 : Int32) (if (v4 + v5) < (999 : Int32) then (v4 + v5) else (999 : Int32)) m).bind fun z6 =>
          (f4_its b1 (1 : Int32) z6).bind fun v7 =>
          (f4_part v7 (1 : Int32) z6).bind fun v8 =>
          (f4_sets b1 (1 : Int32) v8 z6).bind fun z9 =>
          if b1 = (z9 25 6) then
            (f4_its b1 (1 : Int32) z9).bind fun v10 =>
            f4_rolls_b95 (f4_rolls_L8 n) b1 b2 (z9 25 5) ((1 : Int32) <<< (v10 &&& 31)) z9
          else
            f4_rolls_b95 (f4_rolls_L8 n) b1 b2 (z9 25 5) (0 : Int32) z9 := rfl
def f4_rolls  (a1 : Int32) (m : St) : Option (St) :=
  (f4_speed a1 m).bind fun v1 =>
  f4_rolls_L8 fu a1 v1 (1 : Int32) m
set_option maxHeartbeats 4000000 in
set_option maxRecDepth 100000 in
theorem c4_rolls (l : Launch) (G : GT)  (x m : St) (a1 : Int32) (r : St) (h : f4_rolls a1 m = some r) : Mt l yX4_rolls cX4_rolls 4 none (rmF 3 69) G x m [.ref (gq G 25), .int a1] none x r := by
  refine Mt.of (by decide) (Nat.le_of_ble_eq_true rfl) ?_
  intro p e s mm args below meth c C ls hl hw
  have hx := C.1
  have hb := C.2.1
  have hown := C.2.2.2.2.1
  replace hl : lv_has ls 4 [(0, .ref (gq G 25)), (1, .int a1)] := hl
  have L8 : ∀ (n8 : Nat) (b1 : Int32) (b2 : Int32) (b3 : Int32) (m : St) (H : Heap) (locs : List Loc) (ls : Array Slot), lv_has ls 4 [(0, .ref (gq G 25)), (1, .int b1), (2, .int b2), (3, .int b3)] → Wd G s x m H locs → f4_rolls_L8 n8 b1 b2 b3 m = some r → W p l e (rmF 3 69) s mm args below meth c H locs 0 0 (QE below G none x r args s) (F0 mm 8 ls []) := by
    intro n8
    induction n8 with
    | zero =>
      intro b1 b2 b3 m H locs ls hl hw h
      rw [f4_rolls_L8_0] at h
      exact absurd h.symm (Option.some_ne_none _)
    | succ n8 ih8 =>
      have B122 : ∀ (b1 : Int32) (b2 : Int32) (w0 : Int32) (m : St) (H : Heap) (locs : List Loc) (ls : Array Slot), lv_has ls 4 [(0, .ref (gq G 25)), (1, .int b1), (2, .int b2)] → Wd G s x m H locs → f4_rolls_b122 (f4_rolls_L8 n8) b1 b2 w0 m = some r → W p l e (rmF 3 69) s mm args below meth c H locs 0 0 (QE below G none x r args s) (F0 mm 122 ls [.int w0]) := by
        intro b1 b2 w0 m H locs ls hl hw h
        unfold f4_rolls_b122 at h
        refine lv_istore_n (lv' := [(3, .int w0), (0, .ref (gq G 25)), (1, .int b1), (2, .int b2)]) hx hb dX4_rolls_122 rfl hl (by decide) rfl (fun ls hl => ?_)
        refine lv_iinc (v := (b2 + (-1 : Int32))) (lv' := [(2, .int (b2 + (-1 : Int32))), (3, .int w0), (0, .ref (gq G 25)), (1, .int b1)]) hx hb dX4_rolls_123 hl (k := 3) rfl rfl (by decide) rfl (fun ls hl => ?_)
        refine lv_goto (tgt := 8) hx hb dX4_rolls_126 (by decide) ?_
        exact ih8 b1 (b2 + (-1 : Int32)) w0 m _ _ _ (lv_sub hl [2, 3, 0, 1] rfl) hw h
      have B95 : ∀ (b1 : Int32) (b2 : Int32) (w1 : Int32) (w2 : Int32) (m : St) (H : Heap) (locs : List Loc) (ls : Array Slot), lv_has ls 4 [(0, .ref (gq G 25)), (1, .int b1), (2, .int b2)] → Wd G s x m H locs → f4_rolls_b95 (f4_rolls_L8 n8) b1 b2 w1 w2 m = some r → W p l e (rmF 3 69) s mm args below meth c H locs 0 0 (QE below G none x r args s) (F0 mm 95 ls [.int w2, .int w1, .ref (gq G 25)]) := by
        intro b1 b2 w1 w2 m H locs ls hl hw h
        unfold f4_rolls_b95 at h
        refine lv_ior hx hb dX4_rolls_95 ?_
        refine w_put C hw (k := 5) tyX4 tyX4_ok nmX4 (wk_model G x m) rfl it_4 (by decide) fl_X4_135 rfl (ty := .int) rfl rfl rfl (Nat.le_of_ble_eq_true rfl) (ws_model_5 G x m _) dX4_rolls_96 (fun H locs hw => ?_)
        refine lv_aload_n hx hb dX4_rolls_99 rfl (lv_at hl 0 rfl) ?_
        refine w_get C hw (v := .ref (gq G 26)) (k := 0) (wk_model G x (up m 25 5 (w1 ||| w2))) rfl it_4 (by decide) fl_X4_9 rfl dX4_rolls_100 ?_
        refine lv_iconst (v := (3 : Int32)) hx hb dX4_rolls_103 (by decide) ?_
        obtain ⟨hq, h⟩ := p_if h
        refine w_ald C hw (am_26 G x (up m 25 5 (w1 ||| w2))).1 hq dX4_rolls_104 ?_
        refine lv_aload_n hx hb dX4_rolls_105 rfl (lv_at hl 0 rfl) ?_
        refine lv_iload_n hx hb dX4_rolls_106 rfl (lv_at hl 1 rfl) ?_
        refine lv_iconst (v := (1 : Int32)) hx hb dX4_rolls_107 (by decide) ?_
        obtain ⟨v11, hq, h⟩ := p_bd h
        refine w_Vi C hw (As := [.int b1, .int (1 : Int32)]) (rest := [.int ((up m 25 5 (w1 ||| w2)) 26 (3 : Int32).toNatClampNeg)]) (c4_its l G x (up m 25 5 (w1 ||| w2)) b1 (1 : Int32) v11 hq) kv_X4_its ml_X4_69 ⟨rfl, rfl⟩ ⟨Nat.le_of_ble_eq_true rfl, Nat.le_of_ble_eq_true rfl⟩ ⟨Nat.zero_le _, Nat.zero_le _⟩ (w_recv C hw (wk_model G x (up m 25 5 (w1 ||| w2))) rfl) rfl rfl (Nat.le_of_ble_eq_true rfl) (lv_sub hl [] rfl) dX4_rolls_108 (fun H locs hw => ?_)
        refine lv_ishr hx hb dX4_rolls_111 ?_
        refine lv_iconst (v := (1 : Int32)) hx hb dX4_rolls_112 (by decide) ?_
        refine lv_iand hx hb dX4_rolls_113 ?_
        refine lv_if_ne (tgt := 121) hx hb dX4_rolls_114 (by decide) (fun hc => ?_) (fun hc => ?_)
        · replace h := p_f hc h
          refine lv_iconst (v := (0 : Int32)) hx hb dX4_rolls_121 (by decide) ?_
          exact B122 b1 b2 (0 : Int32) (up m 25 5 (w1 ||| w2)) _ _ _ (lv_sub hl [0, 1, 2] rfl) hw h
        · replace h := p_t hc h
          refine lv_iconst (v := (1 : Int32)) hx hb dX4_rolls_117 (by decide) ?_
          refine lv_goto (tgt := 122) hx hb dX4_rolls_118 (by decide) ?_
          exact B122 b1 b2 (1 : Int32) (up m 25 5 (w1 ||| w2)) _ _ _ (lv_sub hl [0, 1, 2] rfl) hw h
      intro b1 b2 b3 m H locs ls hl hw h
      rw [f4_rolls_L8_s] at h
      refine lv_iload_n hx hb dX4_rolls_8 rfl (lv_at hl 2 rfl) ?_
      refine lv_if_le (tgt := 129) hx hb dX4_rolls_9 (by decide) (fun hc => ?_) (fun hc => ?_)
      · replace h := p_t hc h
        replace h := Option.some.inj h
        subst h
        exact w_vret C hw rfl dX4_rolls_129
      · replace h := p_f hc h
        refine lv_iload_n hx hb dX4_rolls_12 rfl (lv_at hl 3 rfl) ?_
        refine lv_if_eq (tgt := 129) hx hb dX4_rolls_13 (by decide) (fun hc => ?_) (fun hc => ?_)
        · replace h := p_t hc h
          replace h := Option.some.inj h
          subst h
          exact w_vret C hw rfl dX4_rolls_129
        · replace h := p_f hc h
          refine lv_aload_n hx hb dX4_rolls_16 rfl (lv_at hl 0 rfl) ?_
          refine lv_aload_n hx hb dX4_rolls_17 rfl (lv_at hl 0 rfl) ?_
          refine lv_iload_n hx hb dX4_rolls_18 rfl (lv_at hl 1 rfl) ?_
          refine lv_iconst (v := (1 : Int32)) hx hb dX4_rolls_19 (by decide) ?_
          obtain ⟨v2, hq, h⟩ := p_bd h
          refine w_Vi C hw (As := [.int b1, .int (1 : Int32)]) (rest := [.ref (gq G 25)]) (c4_its l G x m b1 (1 : Int32) v2 hq) kv_X4_its ml_X4_69 ⟨rfl, rfl⟩ ⟨Nat.le_of_ble_eq_true rfl, Nat.le_of_ble_eq_true rfl⟩ ⟨Nat.zero_le _, Nat.zero_le _⟩ (w_recv C hw (wk_model G x m) rfl) rfl rfl (Nat.le_of_ble_eq_true rfl) (lv_sub hl [] rfl) dX4_rolls_20 (fun H locs hw => ?_)
          obtain ⟨v3, hq, h⟩ := p_bd h
          refine w_Vi C hw (As := [.int v2]) (rest := []) (c4_steep l G x m v2 v3 hq) kv_X4_steep ml_X4_85 ⟨rfl, rfl⟩ ⟨Nat.le_of_ble_eq_true rfl, Nat.le_of_ble_eq_true rfl⟩ ⟨Nat.zero_le _, Nat.zero_le _⟩ (w_recv C hw (wk_model G x m) rfl) rfl rfl (Nat.le_of_ble_eq_true rfl) (lv_sub hl [] rfl) dX4_rolls_23 (fun H locs hw => ?_)
          refine lv_if_le (tgt := 129) hx hb dX4_rolls_26 (by decide) (fun hc => ?_) (fun hc => ?_)
          · replace h := p_t hc h
            replace h := Option.some.inj h
            subst h
            exact w_vret C hw rfl dX4_rolls_129
          · replace h := p_f hc h
            refine lv_aload_n hx hb dX4_rolls_29 rfl (lv_at hl 0 rfl) ?_
            refine lv_iload_n hx hb dX4_rolls_30 rfl (lv_at hl 1 rfl) ?_
            refine lv_iconst (v := (2 : Int32)) hx hb dX4_rolls_31 (by decide) ?_
            refine lv_sipush (v := (999 : Int32)) hx hb dX4_rolls_32 (by decide) ?_
            refine lv_aload_n hx hb dX4_rolls_35 rfl (lv_at hl 0 rfl) ?_
            refine lv_iload_n hx hb dX4_rolls_36 rfl (lv_at hl 1 rfl) ?_
            refine lv_iconst (v := (2 : Int32)) hx hb dX4_rolls_37 (by decide) ?_
            obtain ⟨v4, hq, h⟩ := p_bd h
            refine w_Vi C hw (As := [.int b1, .int (2 : Int32)]) (rest := [.int (999 : Int32), .int (2 : Int32), .int b1, .ref (gq G 25)]) (c4_its l G x m b1 (2 : Int32) v4 hq) kv_X4_its ml_X4_69 ⟨rfl, rfl⟩ ⟨Nat.le_of_ble_eq_true rfl, Nat.le_of_ble_eq_true rfl⟩ ⟨Nat.zero_le _, Nat.zero_le _⟩ (w_recv C hw (wk_model G x m) rfl) rfl rfl (Nat.le_of_ble_eq_true rfl) (lv_sub hl [] rfl) dX4_rolls_38 (fun H locs hw => ?_)
            refine lv_aload_n hx hb dX4_rolls_41 rfl (lv_at hl 0 rfl) ?_
            refine lv_iload_n hx hb dX4_rolls_42 rfl (lv_at hl 1 rfl) ?_
            obtain ⟨v5, hq, h⟩ := p_bd h
            refine w_Vi C hw (As := [.int b1]) (rest := [.int v4, .int (999 : Int32), .int (2 : Int32), .int b1, .ref (gq G 25)]) (c4_gathers l G x m b1 v5 hq) kv_X4_gathers ml_X4_123 ⟨rfl, rfl⟩ ⟨Nat.le_of_ble_eq_true rfl, Nat.le_of_ble_eq_true rfl⟩ ⟨Nat.zero_le _, Nat.zero_le _⟩ (w_recv C hw (wk_model G x m) rfl) rfl rfl (Nat.le_of_ble_eq_true rfl) (lv_sub hl [] rfl) dX4_rolls_43 (fun H locs hw => ?_)
            refine lv_iadd hx hb dX4_rolls_46 ?_
            refine w_min C (lv_sub hl [] rfl) ml_X4_44 k_min ⟨Nat.le_of_ble_eq_true rfl, Nat.le_of_ble_eq_true rfl⟩ ⟨Nat.zero_le _, Nat.zero_le _⟩ (Nat.le_of_ble_eq_true rfl) dX4_rolls_47 ?_
            obtain ⟨z6, hq, h⟩ := p_bd h
            refine w_Vv C hw (As := [.int b1, .int (2 : Int32), .int (if (v4 + v5) < (999 : Int32) then (v4 + v5) else (999 : Int32))]) (rest := []) (c4_sets l G x m b1 (2 : Int32) (if (v4 + v5) < (999 : Int32) then (v4 + v5) else (999 : Int32)) z6 hq) kv_X4_sets ml_X4_107 ⟨rfl, rfl⟩ ⟨Nat.le_of_ble_eq_true rfl, Nat.le_of_ble_eq_true rfl⟩ ⟨Nat.zero_le _, Nat.zero_le _⟩ (w_recv C hw (wk_model G x m) rfl) rfl rfl (Nat.le_of_ble_eq_true rfl) (lv_sub hl [] rfl) dX4_rolls_50 (fun H locs hw => ?_)
            refine lv_aload_n hx hb dX4_rolls_53 rfl (lv_at hl 0 rfl) ?_
            refine lv_iload_n hx hb dX4_rolls_54 rfl (lv_at hl 1 rfl) ?_
            refine lv_iconst (v := (1 : Int32)) hx hb dX4_rolls_55 (by decide) ?_
            refine lv_aload_n hx hb dX4_rolls_56 rfl (lv_at hl 0 rfl) ?_
            refine lv_aload_n hx hb dX4_rolls_57 rfl (lv_at hl 0 rfl) ?_
            refine lv_iload_n hx hb dX4_rolls_58 rfl (lv_at hl 1 rfl) ?_
            refine lv_iconst (v := (1 : Int32)) hx hb dX4_rolls_59 (by decide) ?_
            obtain ⟨v7, hq, h⟩ := p_bd h
            refine w_Vi C hw (As := [.int b1, .int (1 : Int32)]) (rest := [.ref (gq G 25), .int (1 : Int32), .int b1, .ref (gq G 25)]) (c4_its l G x z6 b1 (1 : Int32) v7 hq) kv_X4_its ml_X4_69 ⟨rfl, rfl⟩ ⟨Nat.le_of_ble_eq_true rfl, Nat.le_of_ble_eq_true rfl⟩ ⟨Nat.zero_le _, Nat.zero_le _⟩ (w_recv C hw (wk_model G x z6) rfl) rfl rfl (Nat.le_of_ble_eq_true rfl) (lv_sub hl [] rfl) dX4_rolls_60 (fun H locs hw => ?_)
            refine lv_iconst (v := (1 : Int32)) hx hb dX4_rolls_63 (by decide) ?_
            obtain ⟨v8, hq, h⟩ := p_bd h
            refine w_Vi C hw (As := [.int v7, .int (1 : Int32)]) (rest := [.int (1 : Int32), .int b1, .ref (gq G 25)]) (c4_part l G x z6 v7 (1 : Int32) v8 hq) kv_X4_part ml_X4_63 ⟨rfl, rfl⟩ ⟨Nat.le_of_ble_eq_true rfl, Nat.le_of_ble_eq_true rfl⟩ ⟨Nat.zero_le _, Nat.zero_le _⟩ (w_recv C hw (wk_model G x z6) rfl) rfl rfl (Nat.le_of_ble_eq_true rfl) (lv_sub hl [] rfl) dX4_rolls_64 (fun H locs hw => ?_)
            obtain ⟨z9, hq, h⟩ := p_bd h
            refine w_Vv C hw (As := [.int b1, .int (1 : Int32), .int v8]) (rest := []) (c4_sets l G x z6 b1 (1 : Int32) v8 z9 hq) kv_X4_sets ml_X4_107 ⟨rfl, rfl⟩ ⟨Nat.le_of_ble_eq_true rfl, Nat.le_of_ble_eq_true rfl⟩ ⟨Nat.zero_le _, Nat.zero_le _⟩ (w_recv C hw (wk_model G x z6) rfl) rfl rfl (Nat.le_of_ble_eq_true rfl) (lv_sub hl [] rfl) dX4_rolls_67 (fun H locs hw => ?_)
            refine lv_aload_n hx hb dX4_rolls_70 rfl (lv_at hl 0 rfl) ?_
            refine lv_dup hx hb dX4_rolls_71 rfl ?_
            refine w_get C hw (v := .int (z9 25 5)) (k := 5) (wk_model G x z9) rfl it_4 (by decide) fl_X4_135 rfl dX4_rolls_72 ?_
            refine lv_iload_n hx hb dX4_rolls_75 rfl (lv_at hl 1 rfl) ?_
            refine lv_aload_n hx hb dX4_rolls_76 rfl (lv_at hl 0 rfl) ?_
            refine w_get C hw (v := .int (z9 25 6)) (k := 6) (wk_model G x z9) rfl it_4 (by decide) fl_X4_139 rfl dX4_rolls_77 ?_
            refine lv_icmp_ne (tgt := 94) hx hb dX4_rolls_80 (by decide) (fun hc => ?_) (fun hc => ?_)
            · replace h := p_f hc h
              refine lv_iconst (v := (0 : Int32)) hx hb dX4_rolls_94 (by decide) ?_
              exact B95 b1 b2 (z9 25 5) (0 : Int32) z9 _ _ _ (lv_sub hl [0, 1, 2] rfl) hw h
            · replace h := p_t hc h
              refine lv_iconst (v := (1 : Int32)) hx hb dX4_rolls_83 (by decide) ?_
              refine lv_aload_n hx hb dX4_rolls_84 rfl (lv_at hl 0 rfl) ?_
              refine lv_iload_n hx hb dX4_rolls_85 rfl (lv_at hl 1 rfl) ?_
              refine lv_iconst (v := (1 : Int32)) hx hb dX4_rolls_86 (by decide) ?_
              obtain ⟨v10, hq, h⟩ := p_bd h
              refine w_Vi C hw (As := [.int b1, .int (1 : Int32)]) (rest := [.int (1 : Int32), .int (z9 25 5), .ref (gq G 25)]) (c4_its l G x z9 b1 (1 : Int32) v10 hq) kv_X4_its ml_X4_69 ⟨rfl, rfl⟩ ⟨Nat.le_of_ble_eq_true rfl, Nat.le_of_ble_eq_true rfl⟩ ⟨Nat.zero_le _, Nat.zero_le _⟩ (w_recv C hw (wk_model G x z9) rfl) rfl rfl (Nat.le_of_ble_eq_true rfl) (lv_sub hl [] rfl) dX4_rolls_87 (fun H locs hw => ?_)
              refine lv_ishl hx hb dX4_rolls_90 ?_
              refine lv_goto (tgt := 95) hx hb dX4_rolls_91 (by decide) ?_
              exact B95 b1 b2 (z9 25 5) ((1 : Int32) <<< (v10 &&& 31)) z9 _ _ _ (lv_sub hl [0, 1, 2] rfl) hw h
  unfold f4_rolls at h
  refine lv_aload_n hx hb dX4_rolls_0 rfl (lv_at hl 0 rfl) ?_
  refine lv_iload_n hx hb dX4_rolls_1 rfl (lv_at hl 1 rfl) ?_
  obtain ⟨v1, hq, h⟩ := p_bd h
  refine w_Vi C hw (As := [.int a1]) (rest := []) (c4_speed l G x m a1 v1 hq) kv_X4_speed ml_X4_120 ⟨rfl, rfl⟩ ⟨Nat.le_of_ble_eq_true rfl, Nat.le_of_ble_eq_true rfl⟩ ⟨Nat.zero_le _, Nat.zero_le _⟩ (w_recv C hw (wk_model G x m) rfl) rfl rfl (Nat.le_of_ble_eq_true rfl) (lv_sub hl [] rfl) dX4_rolls_2 (fun H locs hw => ?_)
  refine lv_istore_n (lv' := [(2, .int v1), (0, .ref (gq G 25)), (1, .int a1)]) hx hb dX4_rolls_5 rfl hl (by decide) rfl (fun ls hl => ?_)
  refine lv_iconst (v := (1 : Int32)) hx hb dX4_rolls_6 (by decide) ?_
  refine lv_istore_n (lv' := [(3, .int (1 : Int32)), (2, .int v1), (0, .ref (gq G 25)), (1, .int a1)]) hx hb dX4_rolls_7 rfl hl (by decide) rfl (fun ls hl => ?_)
  exact L8 fu a1 v1 (1 : Int32) m _ _ _ (lv_sub hl [2, 3, 1, 0] rfl) hw h

def f4_aMinute_L2   : Nat → Int32 → St → Option (St)
  | 0, _, _ => none
  | n + 1, b1, m =>
    if (1 : Int32) < 0 ∨ 119 ≤ (1 : Int32).toNatClampNeg then none else
    if (m 26 (1 : Int32).toNatClampNeg) ≤ b1 then
      if (0 : Int32) < 0 ∨ 119 ≤ (0 : Int32).toNatClampNeg then none else
      if (0 : Int32) < 0 ∨ 119 ≤ (0 : Int32).toNatClampNeg then none else
      some (up m 26 (0 : Int32).toNatClampNeg ((m 26 (0 : Int32).toNatClampNeg) + (1 : Int32)))
    else
      (f4_rolls b1 m).bind fun z1 =>
      (f4_aMinute_L2 n) (b1 + (1 : Int32)) z1
theorem f4_aMinute_L2_0   (b1 : Int32) (m : St) : f4_aMinute_L2  0 b1 m = none := rfl
theorem f4_aMinute_L2_s   (n : Nat) (b1 : Int32) (m : St) : f4_aMinute_L2  (n + 1) b1 m =
    if (1 : Int32) < 0 ∨ 119 ≤ (1 : Int32).toNatClampNeg then none else
    if (m 26 (1 : Int32).toNatClampNeg) ≤ b1 then
      if (0 : Int32) < 0 ∨ 119 ≤ (0 : Int32).toNatClampNeg then none else
      if (0 : Int32) < 0 ∨ 119 ≤ (0 : Int32).toNatClampNeg then none else
      some (up m 26 (0 : Int32).toNatClampNeg ((m 26 (0 : Int32).toNatClampNeg) + (1 : Int32)))
    else
      (f4_rolls b1 m).bind fun z1 =>
      (f4_aMinute_L2 n) (b1 + (1 : Int32)) z1 := rfl
def f4_aMinute   (m : St) : Option (St) :=
  f4_aMinute_L2 fu (0 : Int32) m
set_option maxHeartbeats 4000000 in
set_option maxRecDepth 100000 in
theorem c4_aMinute (l : Launch) (G : GT)  (x m : St)  (r : St) (h : f4_aMinute m = some r) : Mt l yX4_aMinute cX4_aMinute 2 none (rmF 4 92) G x m [.ref (gq G 25)] none x r := by
  refine Mt.of (by decide) (Nat.le_of_ble_eq_true rfl) ?_
  intro p e s mm args below meth c C ls hl hw
  have hx := C.1
  have hb := C.2.1
  have hown := C.2.2.2.2.1
  replace hl : lv_has ls 2 [(0, .ref (gq G 25))] := hl
  have L2 : ∀ (n2 : Nat) (b1 : Int32) (m : St) (H : Heap) (locs : List Loc) (ls : Array Slot), lv_has ls 2 [(0, .ref (gq G 25)), (1, .int b1)] → Wd G s x m H locs → f4_aMinute_L2 n2 b1 m = some r → W p l e (rmF 4 92) s mm args below meth c H locs 0 0 (QE below G none x r args s) (F0 mm 2 ls []) := by
    intro n2
    induction n2 with
    | zero =>
      intro b1 m H locs ls hl hw h
      rw [f4_aMinute_L2_0] at h
      exact absurd h.symm (Option.some_ne_none _)
    | succ n2 ih2 =>
      intro b1 m H locs ls hl hw h
      rw [f4_aMinute_L2_s] at h
      refine lv_iload_n hx hb dX4_aMinute_2 rfl (lv_at hl 1 rfl) ?_
      refine lv_aload_n hx hb dX4_aMinute_3 rfl (lv_at hl 0 rfl) ?_
      refine w_get C hw (v := .ref (gq G 26)) (k := 0) (wk_model G x m) rfl it_4 (by decide) fl_X4_9 rfl dX4_aMinute_4 ?_
      refine lv_iconst (v := (1 : Int32)) hx hb dX4_aMinute_7 (by decide) ?_
      obtain ⟨hq, h⟩ := p_if h
      refine w_ald C hw (am_26 G x m).1 hq dX4_aMinute_8 ?_
      refine lv_icmp_ge (tgt := 23) hx hb dX4_aMinute_9 (by decide) (fun hc => ?_) (fun hc => ?_)
      · replace h := p_t hc h
        refine lv_aload_n hx hb dX4_aMinute_23 rfl (lv_at hl 0 rfl) ?_
        refine w_get C hw (v := .ref (gq G 26)) (k := 0) (wk_model G x m) rfl it_4 (by decide) fl_X4_9 rfl dX4_aMinute_24 ?_
        refine lv_iconst (v := (0 : Int32)) hx hb dX4_aMinute_27 (by decide) ?_
        refine lv_dup2_11 hx hb dX4_aMinute_28 rfl rfl ?_
        obtain ⟨hq, h⟩ := p_if h
        refine w_ald C hw (am_26 G x m).1 hq dX4_aMinute_29 ?_
        refine lv_iconst (v := (1 : Int32)) hx hb dX4_aMinute_30 (by decide) ?_
        refine lv_iadd hx hb dX4_aMinute_31 ?_
        obtain ⟨hq, h⟩ := p_if h
        refine w_astM C hw am_26 hq dX4_aMinute_32 (fun H locs hw => ?_)
        replace h := Option.some.inj h
        subst h
        exact w_vret C hw rfl dX4_aMinute_33
      · replace h := p_f hc h
        refine lv_aload_n hx hb dX4_aMinute_12 rfl (lv_at hl 0 rfl) ?_
        refine lv_iload_n hx hb dX4_aMinute_13 rfl (lv_at hl 1 rfl) ?_
        obtain ⟨z1, hq, h⟩ := p_bd h
        refine w_Vv C hw (As := [.int b1]) (rest := []) (c4_rolls l G x m b1 z1 hq) kv_X4_rolls ml_X4_142 ⟨rfl, rfl⟩ ⟨Nat.le_of_ble_eq_true rfl, Nat.le_of_ble_eq_true rfl⟩ ⟨Nat.zero_le _, Nat.zero_le _⟩ (w_recv C hw (wk_model G x m) rfl) rfl rfl (Nat.le_of_ble_eq_true rfl) (lv_sub hl [] rfl) dX4_aMinute_14 (fun H locs hw => ?_)
        refine lv_iinc (v := (b1 + (1 : Int32))) (lv' := [(1, .int (b1 + (1 : Int32))), (0, .ref (gq G 25))]) hx hb dX4_aMinute_17 hl (k := 1) rfl rfl (by decide) rfl (fun ls hl => ?_)
        refine lv_goto (tgt := 2) hx hb dX4_aMinute_20 (by decide) ?_
        exact ih2 (b1 + (1 : Int32)) z1 _ _ _ (lv_sub hl [1, 0] rfl) hw h
  unfold f4_aMinute at h
  refine lv_iconst (v := (0 : Int32)) hx hb dX4_aMinute_0 (by decide) ?_
  refine lv_istore_n (lv' := [(1, .int (0 : Int32)), (0, .ref (gq G 25))]) hx hb dX4_aMinute_1 rfl hl (by decide) rfl (fun ls hl => ?_)
  exact L2 fu (0 : Int32) m _ _ _ (lv_sub hl [1, 0] rfl) hw h

def f4_minutes_L2   : Nat → Int32 → Int32 → St → Option (St)
  | 0, _, _, _ => none
  | n + 1, b1, b2, m =>
    if b1 ≤ b2 then
      some m
    else
      (f4_aMinute m).bind fun z1 =>
      (f4_minutes_L2 n) b1 (b2 + (1 : Int32)) z1
theorem f4_minutes_L2_0   (b1 : Int32) (b2 : Int32) (m : St) : f4_minutes_L2  0 b1 b2 m = none := rfl
theorem f4_minutes_L2_s   (n : Nat) (b1 : Int32) (b2 : Int32) (m : St) : f4_minutes_L2  (n + 1) b1 b2 m =
    if b1 ≤ b2 then
      some m
    else
      (f4_aMinute m).bind fun z1 =>
      (f4_minutes_L2 n) b1 (b2 + (1 : Int32)) z1 := rfl
def f4_minutes  (a1 : Int32) (m : St) : Option (St) :=
  f4_minutes_L2 fu a1 (0 : Int32) m
set_option maxHeartbeats 4000000 in
set_option maxRecDepth 100000 in
theorem c4_minutes (l : Launch) (G : GT)  (x m : St) (a1 : Int32) (r : St) (h : f4_minutes a1 m = some r) : Mt l yX4_minutes cX4_minutes 3 none (rmF 5 113) G x m [.ref (gq G 25), .int a1] none x r := by
  refine Mt.of (by decide) (Nat.le_of_ble_eq_true rfl) ?_
  intro p e s mm args below meth c C ls hl hw
  have hx := C.1
  have hb := C.2.1
  have hown := C.2.2.2.2.1
  replace hl : lv_has ls 3 [(0, .ref (gq G 25)), (1, .int a1)] := hl
  have L2 : ∀ (n2 : Nat) (b1 : Int32) (b2 : Int32) (m : St) (H : Heap) (locs : List Loc) (ls : Array Slot), lv_has ls 3 [(0, .ref (gq G 25)), (1, .int b1), (2, .int b2)] → Wd G s x m H locs → f4_minutes_L2 n2 b1 b2 m = some r → W p l e (rmF 5 113) s mm args below meth c H locs 0 0 (QE below G none x r args s) (F0 mm 2 ls []) := by
    intro n2
    induction n2 with
    | zero =>
      intro b1 b2 m H locs ls hl hw h
      rw [f4_minutes_L2_0] at h
      exact absurd h.symm (Option.some_ne_none _)
    | succ n2 ih2 =>
      intro b1 b2 m H locs ls hl hw h
      rw [f4_minutes_L2_s] at h
      refine lv_iload_n hx hb dX4_minutes_2 rfl (lv_at hl 2 rfl) ?_
      refine lv_iload_n hx hb dX4_minutes_3 rfl (lv_at hl 1 rfl) ?_
      refine lv_icmp_ge (tgt := 17) hx hb dX4_minutes_4 (by decide) (fun hc => ?_) (fun hc => ?_)
      · replace h := p_t hc h
        replace h := Option.some.inj h
        subst h
        exact w_vret C hw rfl dX4_minutes_17
      · replace h := p_f hc h
        refine lv_aload_n hx hb dX4_minutes_7 rfl (lv_at hl 0 rfl) ?_
        obtain ⟨z1, hq, h⟩ := p_bd h
        refine w_Vv C hw (As := []) (rest := []) (c4_aMinute l G x m z1 hq) kv_X4_aMinute ml_X4_146 ⟨rfl, rfl⟩ ⟨Nat.le_of_ble_eq_true rfl, Nat.le_of_ble_eq_true rfl⟩ ⟨Nat.zero_le _, Nat.zero_le _⟩ (w_recv C hw (wk_model G x m) rfl) rfl rfl (Nat.le_of_ble_eq_true rfl) (lv_sub hl [] rfl) dX4_minutes_8 (fun H locs hw => ?_)
        refine lv_iinc (v := (b2 + (1 : Int32))) (lv' := [(2, .int (b2 + (1 : Int32))), (0, .ref (gq G 25)), (1, .int b1)]) hx hb dX4_minutes_11 hl (k := 2) rfl rfl (by decide) rfl (fun ls hl => ?_)
        refine lv_goto (tgt := 2) hx hb dX4_minutes_14 (by decide) ?_
        exact ih2 b1 (b2 + (1 : Int32)) z1 _ _ _ (lv_sub hl [1, 2, 0] rfl) hw h
  unfold f4_minutes at h
  refine lv_iconst (v := (0 : Int32)) hx hb dX4_minutes_0 (by decide) ?_
  refine lv_istore_n (lv' := [(2, .int (0 : Int32)), (0, .ref (gq G 25)), (1, .int a1)]) hx hb dX4_minutes_1 rfl hl (by decide) rfl (fun ls hl => ?_)
  exact L2 fu a1 (0 : Int32) m _ _ _ (lv_sub hl [1, 2, 0] rfl) hw h

def f4_go  (a1 : Int32) (m : St) : Option (Int32 × St) :=
  if (f4_in (a1.toInt64) (1 : Int64) (60 : Int64)) = 0 then
    (f4_finds (0 : Int32) m).bind fun q => match q with
    | (v6, z5) =>
      some (v6, z5)
  else
    if (0 : Int32) < 0 ∨ 119 ≤ (0 : Int32).toNatClampNeg then none else
    if ((m 26 (0 : Int32).toNatClampNeg) + a1) ≤ (99999 : Int32) then
      (f4_minutes a1 m).bind fun z1 =>
      (f4_loudAt (15 : Int32) z1).bind fun v2 =>
      some (v2, z1)
    else
      (f4_finds (4 : Int32) m).bind fun q => match q with
      | (v4, z3) =>
        some (v4, z3)
set_option maxHeartbeats 4000000 in
set_option maxRecDepth 100000 in
theorem c4_go (l : Launch) (G : GT)  (x m : St) (a1 : Int32) (r : Int32 × St) (h : f4_go a1 m = some r) : Mt l yX4_go cX4_go 2 (some .int) (rmF 6 135) G x m [.ref (gq G 25), .int a1] (some (.int r.1)) x r.2 := by
  refine Mt.of (by decide) (Nat.le_of_ble_eq_true rfl) ?_
  intro p e s mm args below meth c C ls hl hw
  have hx := C.1
  have hb := C.2.1
  have hown := C.2.2.2.2.1
  replace hl : lv_has ls 2 [(0, .ref (gq G 25)), (1, .int a1)] := hl
  unfold f4_go at h
  refine lv_iload_n hx hb dX4_go_0 rfl (lv_at hl 1 rfl) ?_
  refine lv_i2l hx hb dX4_go_1 rfl ?_
  refine lv_lconst (v := (1 : Int64)) hx hb dX4_go_2 (by decide) ?_
  refine lv_ldc2 hx hb hown (C.w kl_X4_149) dX4_go_3 ?_
  refine w_Si C hw (As := [.long (a1.toInt64), .long (1 : Int64), .long (60 : Int64)]) (rest := []) (c4_in l G x m (a1.toInt64) (1 : Int64) (60 : Int64) _ rfl) ks_X4_in ml_X4_57 ⟨rfl, rfl⟩ ⟨Nat.le_of_ble_eq_true rfl, Nat.le_of_ble_eq_true rfl⟩ ⟨Nat.zero_le _, Nat.zero_le _⟩ rfl rfl (Nat.le_of_ble_eq_true rfl) (lv_sub hl [] rfl) dX4_go_6 (fun H locs hw => ?_)
  refine lv_if_ne (tgt := 18) hx hb dX4_go_9 (by decide) (fun hc => ?_) (fun hc => ?_)
  · replace h := p_f hc h
    refine lv_aload_n hx hb dX4_go_18 rfl (lv_at hl 0 rfl) ?_
    refine w_get C hw (v := .ref (gq G 26)) (k := 0) (wk_model G x m) rfl it_4 (by decide) fl_X4_9 rfl dX4_go_19 ?_
    refine lv_iconst (v := (0 : Int32)) hx hb dX4_go_22 (by decide) ?_
    obtain ⟨hq, h⟩ := p_if h
    refine w_ald C hw (am_26 G x m).1 hq dX4_go_23 ?_
    refine lv_iload_n hx hb dX4_go_24 rfl (lv_at hl 1 rfl) ?_
    refine lv_iadd hx hb dX4_go_25 ?_
    refine lv_ldc hx hb hown (C.w kc_X4_151) dX4_go_26 ?_
    refine lv_icmp_le (tgt := 37) hx hb dX4_go_28 (by decide) (fun hc => ?_) (fun hc => ?_)
    · replace h := p_t hc h
      refine lv_aload_n hx hb dX4_go_37 rfl (lv_at hl 0 rfl) ?_
      refine lv_iload_n hx hb dX4_go_38 rfl (lv_at hl 1 rfl) ?_
      obtain ⟨z1, hq, h⟩ := p_bd h
      refine w_Vv C hw (As := [.int a1]) (rest := []) (c4_minutes l G x m a1 z1 hq) kv_X4_minutes ml_X4_152 ⟨rfl, rfl⟩ ⟨Nat.le_of_ble_eq_true rfl, Nat.le_of_ble_eq_true rfl⟩ ⟨Nat.zero_le _, Nat.zero_le _⟩ (w_recv C hw (wk_model G x m) rfl) rfl rfl (Nat.le_of_ble_eq_true rfl) (lv_sub hl [] rfl) dX4_go_39 (fun H locs hw => ?_)
      refine lv_aload_n hx hb dX4_go_42 rfl (lv_at hl 0 rfl) ?_
      refine lv_bipush (v := (15 : Int32)) hx hb dX4_go_43 (by decide) ?_
      obtain ⟨v2, hq, h⟩ := p_bd h
      refine w_Vi C hw (As := [.int (15 : Int32)]) (rest := []) (c4_loudAt l G x z1 (15 : Int32) v2 hq) kv_X4_loudAt ml_X4_72 ⟨rfl, rfl⟩ ⟨Nat.le_of_ble_eq_true rfl, Nat.le_of_ble_eq_true rfl⟩ ⟨Nat.zero_le _, Nat.zero_le _⟩ (w_recv C hw (wk_model G x z1) rfl) rfl rfl (Nat.le_of_ble_eq_true rfl) (lv_sub hl [] rfl) dX4_go_45 (fun H locs hw => ?_)
      replace h := Option.some.inj h
      subst h
      exact w_iret C hw (v := v2) rfl rfl dX4_go_48
    · replace h := p_f hc h
      refine lv_aload_n hx hb dX4_go_31 rfl (lv_at hl 0 rfl) ?_
      refine lv_iconst (v := (4 : Int32)) hx hb dX4_go_32 (by decide) ?_
      obtain ⟨⟨v4, z3⟩, hq, h⟩ := p_bd h
      dsimp only at h
      refine w_Vi C hw (As := [.int (4 : Int32)]) (rest := []) (c4_finds l G x m (4 : Int32) (v4, z3) hq) kv_X4_finds ml_X4_82 ⟨rfl, rfl⟩ ⟨Nat.le_of_ble_eq_true rfl, Nat.le_of_ble_eq_true rfl⟩ ⟨Nat.zero_le _, Nat.zero_le _⟩ (w_recv C hw (wk_model G x m) rfl) rfl rfl (Nat.le_of_ble_eq_true rfl) (lv_sub hl [] rfl) dX4_go_33 (fun H locs hw => ?_)
      replace h := Option.some.inj h
      subst h
      exact w_iret C hw (v := v4) rfl rfl dX4_go_36
  · replace h := p_t hc h
    refine lv_aload_n hx hb dX4_go_12 rfl (lv_at hl 0 rfl) ?_
    refine lv_iconst (v := (0 : Int32)) hx hb dX4_go_13 (by decide) ?_
    obtain ⟨⟨v6, z5⟩, hq, h⟩ := p_bd h
    dsimp only at h
    refine w_Vi C hw (As := [.int (0 : Int32)]) (rest := []) (c4_finds l G x m (0 : Int32) (v6, z5) hq) kv_X4_finds ml_X4_82 ⟨rfl, rfl⟩ ⟨Nat.le_of_ble_eq_true rfl, Nat.le_of_ble_eq_true rfl⟩ ⟨Nat.zero_le _, Nat.zero_le _⟩ (w_recv C hw (wk_model G x m) rfl) rfl rfl (Nat.le_of_ble_eq_true rfl) (lv_sub hl [] rfl) dX4_go_14 (fun H locs hw => ?_)
    replace h := Option.some.inj h
    subst h
    exact w_iret C hw (v := v6) rfl rfl dX4_go_17

def f4_allWeight_L4   : Nat → Int32 → Int32 → St → Option (Int32)
  | 0, _, _, _ => none
  | n + 1, b1, b2, m =>
    if (1 : Int32) < 0 ∨ 119 ≤ (1 : Int32).toNatClampNeg then none else
    if (m 26 (1 : Int32).toNatClampNeg) ≤ b2 then
      some b1
    else
      (f4_its b2 (2 : Int32) m).bind fun v1 =>
      (f4_allWeight_L4 n) (b1 + v1) (b2 + (1 : Int32)) m
theorem f4_allWeight_L4_0   (b1 : Int32) (b2 : Int32) (m : St) : f4_allWeight_L4  0 b1 b2 m = none := rfl
theorem f4_allWeight_L4_s   (n : Nat) (b1 : Int32) (b2 : Int32) (m : St) : f4_allWeight_L4  (n + 1) b1 b2 m =
    if (1 : Int32) < 0 ∨ 119 ≤ (1 : Int32).toNatClampNeg then none else
    if (m 26 (1 : Int32).toNatClampNeg) ≤ b2 then
      some b1
    else
      (f4_its b2 (2 : Int32) m).bind fun v1 =>
      (f4_allWeight_L4 n) (b1 + v1) (b2 + (1 : Int32)) m := rfl
def f4_allWeight   (m : St) : Option (Int32) :=
  f4_allWeight_L4 fu (0 : Int32) (0 : Int32) m
set_option maxHeartbeats 4000000 in
set_option maxRecDepth 100000 in
theorem c4_allWeight (l : Launch) (G : GT)  (x m : St)  (r : Int32) (h : f4_allWeight m = some r) : Mt l yX4_allWeight cX4_allWeight 3 (some .int) (rmF 1 22) G x m [.ref (gq G 25)] (some (.int r)) x m := by
  refine Mt.of (by decide) (Nat.le_of_ble_eq_true rfl) ?_
  intro p e s mm args below meth c C ls hl hw
  have hx := C.1
  have hb := C.2.1
  have hown := C.2.2.2.2.1
  replace hl : lv_has ls 3 [(0, .ref (gq G 25))] := hl
  have L4 : ∀ (n4 : Nat) (b1 : Int32) (b2 : Int32) (H : Heap) (locs : List Loc) (ls : Array Slot), lv_has ls 3 [(0, .ref (gq G 25)), (1, .int b1), (2, .int b2)] → Wd G s x m H locs → f4_allWeight_L4 n4 b1 b2 m = some r → W p l e (rmF 1 22) s mm args below meth c H locs 0 0 (QE below G (some (.int r)) x m args s) (F0 mm 4 ls []) := by
    intro n4
    induction n4 with
    | zero =>
      intro b1 b2  H locs ls hl hw h
      rw [f4_allWeight_L4_0] at h
      exact absurd h.symm (Option.some_ne_none _)
    | succ n4 ih4 =>
      intro b1 b2  H locs ls hl hw h
      rw [f4_allWeight_L4_s] at h
      refine lv_iload_n hx hb dX4_allWeight_4 rfl (lv_at hl 2 rfl) ?_
      refine lv_aload_n hx hb dX4_allWeight_5 rfl (lv_at hl 0 rfl) ?_
      refine w_get C hw (v := .ref (gq G 26)) (k := 0) (wk_model G x m) rfl it_4 (by decide) fl_X4_9 rfl dX4_allWeight_6 ?_
      refine lv_iconst (v := (1 : Int32)) hx hb dX4_allWeight_9 (by decide) ?_
      obtain ⟨hq, h⟩ := p_if h
      refine w_ald C hw (am_26 G x m).1 hq dX4_allWeight_10 ?_
      refine lv_icmp_ge (tgt := 29) hx hb dX4_allWeight_11 (by decide) (fun hc => ?_) (fun hc => ?_)
      · replace h := p_t hc h
        refine lv_iload_n hx hb dX4_allWeight_29 rfl (lv_at hl 1 rfl) ?_
        replace h := Option.some.inj h
        subst h
        exact w_iret C hw (v := b1) rfl rfl dX4_allWeight_30
      · replace h := p_f hc h
        refine lv_iload_n hx hb dX4_allWeight_14 rfl (lv_at hl 1 rfl) ?_
        refine lv_aload_n hx hb dX4_allWeight_15 rfl (lv_at hl 0 rfl) ?_
        refine lv_iload_n hx hb dX4_allWeight_16 rfl (lv_at hl 2 rfl) ?_
        refine lv_iconst (v := (2 : Int32)) hx hb dX4_allWeight_17 (by decide) ?_
        obtain ⟨v1, hq, h⟩ := p_bd h
        refine w_Vi C hw (As := [.int b2, .int (2 : Int32)]) (rest := [.int b1]) (c4_its l G x m b2 (2 : Int32) v1 hq) kv_X4_its ml_X4_69 ⟨rfl, rfl⟩ ⟨Nat.le_of_ble_eq_true rfl, Nat.le_of_ble_eq_true rfl⟩ ⟨Nat.zero_le _, Nat.zero_le _⟩ (w_recv C hw (wk_model G x m) rfl) rfl rfl (Nat.le_of_ble_eq_true rfl) (lv_sub hl [] rfl) dX4_allWeight_18 (fun H locs hw => ?_)
        refine lv_iadd hx hb dX4_allWeight_21 ?_
        refine lv_istore_n (lv' := [(1, .int (b1 + v1)), (0, .ref (gq G 25)), (2, .int b2)]) hx hb dX4_allWeight_22 rfl hl (by decide) rfl (fun ls hl => ?_)
        refine lv_iinc (v := (b2 + (1 : Int32))) (lv' := [(2, .int (b2 + (1 : Int32))), (1, .int (b1 + v1)), (0, .ref (gq G 25))]) hx hb dX4_allWeight_23 hl (k := 2) rfl rfl (by decide) rfl (fun ls hl => ?_)
        refine lv_goto (tgt := 4) hx hb dX4_allWeight_26 (by decide) ?_
        exact ih4 (b1 + v1) (b2 + (1 : Int32)) _ _ _ (lv_sub hl [2, 1, 0] rfl) hw h
  unfold f4_allWeight at h
  refine lv_iconst (v := (0 : Int32)) hx hb dX4_allWeight_0 (by decide) ?_
  refine lv_istore_n (lv' := [(1, .int (0 : Int32)), (0, .ref (gq G 25))]) hx hb dX4_allWeight_1 rfl hl (by decide) rfl (fun ls hl => ?_)
  refine lv_iconst (v := (0 : Int32)) hx hb dX4_allWeight_2 (by decide) ?_
  refine lv_istore_n (lv' := [(2, .int (0 : Int32)), (1, .int (0 : Int32)), (0, .ref (gq G 25))]) hx hb dX4_allWeight_3 rfl hl (by decide) rfl (fun ls hl => ?_)
  exact L4 fu (0 : Int32) (0 : Int32) _ _ _ (lv_sub hl [2, 1, 0] rfl) hw h

def f4_cornersThat_b41  (k4 : Int32 → Int32 → Int32 → St → Option (Int32)) (b1 : Int32) (b3 : Int32) (w0 : Int32) (w1 : Int32) (m : St) : Option (Int32) :=
  k4 b1 (w0 ||| w1) (b3 + (1 : Int32)) m
def f4_cornersThat_b40  (k4 : Int32 → Int32 → Int32 → St → Option (Int32)) (b1 : Int32) (b3 : Int32) (w0 : Int32) (m : St) : Option (Int32) :=
  f4_cornersThat_b41 k4 b1 b3 w0 (0 : Int32) m
def f4_cornersThat_b34  (k4 : Int32 → Int32 → Int32 → St → Option (Int32)) (b1 : Int32) (b3 : Int32) (w0 : Int32) (m : St) : Option (Int32) :=
  f4_cornersThat_b41 k4 b1 b3 w0 ((1 : Int32) <<< (b3 &&& 31)) m
def f4_cornersThat_L4   : Nat → Int32 → Int32 → Int32 → St → Option (Int32)
  | 0, _, _, _, _ => none
  | n + 1, b1, b2, b3, m =>
    if (16 : Int32) ≤ b3 then
      some b2
    else
      if b1 = 0 then
        (f4_steep b3 m).bind fun v1 =>
        if v1 ≤ 0 then
          f4_cornersThat_b40 (f4_cornersThat_L4 n) b1 b3 b2 m
        else
          f4_cornersThat_b34 (f4_cornersThat_L4 n) b1 b3 b2 m
      else
        (f4_isHeard b3 m).bind fun v2 =>
        if v2 = 0 then
          f4_cornersThat_b40 (f4_cornersThat_L4 n) b1 b3 b2 m
        else
          f4_cornersThat_b34 (f4_cornersThat_L4 n) b1 b3 b2 m
theorem f4_cornersThat_L4_0   (b1 : Int32) (b2 : Int32) (b3 : Int32) (m : St) : f4_cornersThat_L4  0 b1 b2 b3 m = none := rfl
theorem f4_cornersThat_L4_s   (n : Nat) (b1 : Int32) (b2 : Int32) (b3 : Int32) (m : St) : f4_cornersThat_L4  (n + 1) b1 b2 b3 m =
    if (16 : Int32) ≤ b3 then
      some b2
    else
      if b1 = 0 then
        (f4_steep b3 m).bind fun v1 =>
        if v1 ≤ 0 then
          f4_cornersThat_b40 (f4_cornersThat_L4 n) b1 b3 b2 m
        else
          f4_cornersThat_b34 (f4_cornersThat_L4 n) b1 b3 b2 m
      else
        (f4_isHeard b3 m).bind fun v2 =>
        if v2 = 0 then
          f4_cornersThat_b40 (f4_cornersThat_L4 n) b1 b3 b2 m
        else
          f4_cornersThat_b34 (f4_cornersThat_L4 n) b1 b3 b2 m := rfl
def f4_cornersThat  (a1 : Int32) (m : St) : Option (Int32) :=
  f4_cornersThat_L4 fu a1 (0 : Int32) (0 : Int32) m
set_option maxHeartbeats 4000000 in
set_option maxRecDepth 100000 in
theorem c4_cornersThat (l : Launch) (G : GT)  (x m : St) (a1 : Int32) (r : Int32) (h : f4_cornersThat a1 m = some r) : Mt l yX4_cornersThat cX4_cornersThat 4 (some .int) (rmF 3 66) G x m [.ref (gq G 25), .int a1] (some (.int r)) x m := by
  refine Mt.of (by decide) (Nat.le_of_ble_eq_true rfl) ?_
  intro p e s mm args below meth c C ls hl hw
  have hx := C.1
  have hb := C.2.1
  have hown := C.2.2.2.2.1
  replace hl : lv_has ls 4 [(0, .ref (gq G 25)), (1, .int a1)] := hl
  have L4 : ∀ (n4 : Nat) (b1 : Int32) (b2 : Int32) (b3 : Int32) (H : Heap) (locs : List Loc) (ls : Array Slot), lv_has ls 4 [(0, .ref (gq G 25)), (1, .int b1), (2, .int b2), (3, .int b3)] → Wd G s x m H locs → f4_cornersThat_L4 n4 b1 b2 b3 m = some r → W p l e (rmF 3 66) s mm args below meth c H locs 0 0 (QE below G (some (.int r)) x m args s) (F0 mm 4 ls []) := by
    intro n4
    induction n4 with
    | zero =>
      intro b1 b2 b3  H locs ls hl hw h
      rw [f4_cornersThat_L4_0] at h
      exact absurd h.symm (Option.some_ne_none _)
    | succ n4 ih4 =>
      have B41 : ∀ (b1 : Int32) (b3 : Int32) (w0 : Int32) (w1 : Int32) (H : Heap) (locs : List Loc) (ls : Array Slot), lv_has ls 4 [(0, .ref (gq G 25)), (1, .int b1), (3, .int b3)] → Wd G s x m H locs → f4_cornersThat_b41 (f4_cornersThat_L4 n4) b1 b3 w0 w1 m = some r → W p l e (rmF 3 66) s mm args below meth c H locs 0 0 (QE below G (some (.int r)) x m args s) (F0 mm 41 ls [.int w1, .int w0]) := by
        intro b1 b3 w0 w1  H locs ls hl hw h
        unfold f4_cornersThat_b41 at h
        refine lv_ior hx hb dX4_cornersThat_41 ?_
        refine lv_istore_n (lv' := [(2, .int (w0 ||| w1)), (0, .ref (gq G 25)), (1, .int b1), (3, .int b3)]) hx hb dX4_cornersThat_42 rfl hl (by decide) rfl (fun ls hl => ?_)
        refine lv_iinc (v := (b3 + (1 : Int32))) (lv' := [(3, .int (b3 + (1 : Int32))), (2, .int (w0 ||| w1)), (0, .ref (gq G 25)), (1, .int b1)]) hx hb dX4_cornersThat_43 hl (k := 3) rfl rfl (by decide) rfl (fun ls hl => ?_)
        refine lv_goto (tgt := 4) hx hb dX4_cornersThat_46 (by decide) ?_
        exact ih4 b1 (w0 ||| w1) (b3 + (1 : Int32)) _ _ _ (lv_sub hl [2, 3, 1, 0] rfl) hw h
      have B40 : ∀ (b1 : Int32) (b3 : Int32) (w0 : Int32) (H : Heap) (locs : List Loc) (ls : Array Slot), lv_has ls 4 [(0, .ref (gq G 25)), (1, .int b1), (3, .int b3)] → Wd G s x m H locs → f4_cornersThat_b40 (f4_cornersThat_L4 n4) b1 b3 w0 m = some r → W p l e (rmF 3 66) s mm args below meth c H locs 0 0 (QE below G (some (.int r)) x m args s) (F0 mm 40 ls [.int w0]) := by
        intro b1 b3 w0  H locs ls hl hw h
        unfold f4_cornersThat_b40 at h
        refine lv_iconst (v := (0 : Int32)) hx hb dX4_cornersThat_40 (by decide) ?_
        exact B41 b1 b3 w0 (0 : Int32) _ _ _ (lv_sub hl [0, 1, 2] rfl) hw h
      have B34 : ∀ (b1 : Int32) (b3 : Int32) (w0 : Int32) (H : Heap) (locs : List Loc) (ls : Array Slot), lv_has ls 4 [(0, .ref (gq G 25)), (1, .int b1), (3, .int b3)] → Wd G s x m H locs → f4_cornersThat_b34 (f4_cornersThat_L4 n4) b1 b3 w0 m = some r → W p l e (rmF 3 66) s mm args below meth c H locs 0 0 (QE below G (some (.int r)) x m args s) (F0 mm 34 ls [.int w0]) := by
        intro b1 b3 w0  H locs ls hl hw h
        unfold f4_cornersThat_b34 at h
        refine lv_iconst (v := (1 : Int32)) hx hb dX4_cornersThat_34 (by decide) ?_
        refine lv_iload_n hx hb dX4_cornersThat_35 rfl (lv_at hl 2 rfl) ?_
        refine lv_ishl hx hb dX4_cornersThat_36 ?_
        refine lv_goto (tgt := 41) hx hb dX4_cornersThat_37 (by decide) ?_
        exact B41 b1 b3 w0 ((1 : Int32) <<< (b3 &&& 31)) _ _ _ (lv_sub hl [0, 1, 2] rfl) hw h
      intro b1 b2 b3  H locs ls hl hw h
      rw [f4_cornersThat_L4_s] at h
      refine lv_iload_n hx hb dX4_cornersThat_4 rfl (lv_at hl 3 rfl) ?_
      refine lv_bipush (v := (16 : Int32)) hx hb dX4_cornersThat_5 (by decide) ?_
      refine lv_icmp_ge (tgt := 49) hx hb dX4_cornersThat_7 (by decide) (fun hc => ?_) (fun hc => ?_)
      · replace h := p_t hc h
        refine lv_iload_n hx hb dX4_cornersThat_49 rfl (lv_at hl 2 rfl) ?_
        replace h := Option.some.inj h
        subst h
        exact w_iret C hw (v := b2) rfl rfl dX4_cornersThat_50
      · replace h := p_f hc h
        refine lv_iload_n hx hb dX4_cornersThat_10 rfl (lv_at hl 2 rfl) ?_
        refine lv_iload_n hx hb dX4_cornersThat_11 rfl (lv_at hl 1 rfl) ?_
        refine lv_if_eq (tgt := 26) hx hb dX4_cornersThat_12 (by decide) (fun hc => ?_) (fun hc => ?_)
        · replace h := p_t hc h
          refine lv_aload_n hx hb dX4_cornersThat_26 rfl (lv_at hl 0 rfl) ?_
          refine lv_iload_n hx hb dX4_cornersThat_27 rfl (lv_at hl 3 rfl) ?_
          obtain ⟨v1, hq, h⟩ := p_bd h
          refine w_Vi C hw (As := [.int b3]) (rest := [.int b2]) (c4_steep l G x m b3 v1 hq) kv_X4_steep ml_X4_85 ⟨rfl, rfl⟩ ⟨Nat.le_of_ble_eq_true rfl, Nat.le_of_ble_eq_true rfl⟩ ⟨Nat.zero_le _, Nat.zero_le _⟩ (w_recv C hw (wk_model G x m) rfl) rfl rfl (Nat.le_of_ble_eq_true rfl) (lv_sub hl [] rfl) dX4_cornersThat_28 (fun H locs hw => ?_)
          refine lv_if_le (tgt := 40) hx hb dX4_cornersThat_31 (by decide) (fun hc => ?_) (fun hc => ?_)
          · replace h := p_t hc h
            exact B40 b1 b3 b2 _ _ _ (lv_sub hl [0, 1, 3] rfl) hw h
          · replace h := p_f hc h
            exact B34 b1 b3 b2 _ _ _ (lv_sub hl [0, 1, 3] rfl) hw h
        · replace h := p_f hc h
          refine lv_aload_n hx hb dX4_cornersThat_15 rfl (lv_at hl 0 rfl) ?_
          refine lv_iload_n hx hb dX4_cornersThat_16 rfl (lv_at hl 3 rfl) ?_
          obtain ⟨v2, hq, h⟩ := p_bd h
          refine w_Vi C hw (As := [.int b3]) (rest := [.int b2]) (c4_isHeard l G x m b3 v2 hq) kv_X4_isHeard ml_X4_88 ⟨rfl, rfl⟩ ⟨Nat.le_of_ble_eq_true rfl, Nat.le_of_ble_eq_true rfl⟩ ⟨Nat.zero_le _, Nat.zero_le _⟩ (w_recv C hw (wk_model G x m) rfl) rfl rfl (Nat.le_of_ble_eq_true rfl) (lv_sub hl [] rfl) dX4_cornersThat_17 (fun H locs hw => ?_)
          refine lv_if_eq (tgt := 40) hx hb dX4_cornersThat_20 (by decide) (fun hc => ?_) (fun hc => ?_)
          · replace h := p_t hc h
            exact B40 b1 b3 b2 _ _ _ (lv_sub hl [0, 1, 3] rfl) hw h
          · replace h := p_f hc h
            refine lv_goto (tgt := 34) hx hb dX4_cornersThat_23 (by decide) ?_
            exact B34 b1 b3 b2 _ _ _ (lv_sub hl [0, 1, 3] rfl) hw h
  unfold f4_cornersThat at h
  refine lv_iconst (v := (0 : Int32)) hx hb dX4_cornersThat_0 (by decide) ?_
  refine lv_istore_n (lv' := [(2, .int (0 : Int32)), (0, .ref (gq G 25)), (1, .int a1)]) hx hb dX4_cornersThat_1 rfl hl (by decide) rfl (fun ls hl => ?_)
  refine lv_iconst (v := (0 : Int32)) hx hb dX4_cornersThat_2 (by decide) ?_
  refine lv_istore_n (lv' := [(3, .int (0 : Int32)), (2, .int (0 : Int32)), (0, .ref (gq G 25)), (1, .int a1)]) hx hb dX4_cornersThat_3 rfl hl (by decide) rfl (fun ls hl => ?_)
  exact L4 fu a1 (0 : Int32) (0 : Int32) _ _ _ (lv_sub hl [2, 3, 1, 0] rfl) hw h

def f4_now  (a1 : Int32) (m : St) : Option (Int32 × St) :=
  if a1 = (0 : Int32) then
    if (0 : Int32) < 0 ∨ 119 ≤ (0 : Int32).toNatClampNeg then none else
    some ((m 26 (0 : Int32).toNatClampNeg), m)
  else
  if a1 = (1 : Int32) then
    (f4_cornersThat (1 : Int32) m).bind fun v1 =>
    some (v1, m)
  else
  if a1 = (2 : Int32) then
    (f4_allWeight m).bind fun v2 =>
    some (v2, m)
  else
  if a1 = (3 : Int32) then
    if (2 : Int32) < 0 ∨ 119 ≤ (2 : Int32).toNatClampNeg then none else
    some ((m 26 (2 : Int32).toNatClampNeg), m)
  else
  if a1 = (4 : Int32) then
    if (3 : Int32) < 0 ∨ 119 ≤ (3 : Int32).toNatClampNeg then none else
    some ((m 26 (3 : Int32).toNatClampNeg), m)
  else
  if a1 = (5 : Int32) then
    (f4_cornersThat (0 : Int32) m).bind fun v3 =>
    some (v3, m)
  else
    (f4_finds (0 : Int32) m).bind fun q => match q with
    | (v5, z4) =>
      some (v5, z4)
set_option maxHeartbeats 4000000 in
set_option maxRecDepth 100000 in
theorem c4_now (l : Launch) (G : GT)  (x m : St) (a1 : Int32) (r : Int32 × St) (h : f4_now a1 m = some r) : Mt l yX4_now cX4_now 2 (some .int) (rmF 4 89) G x m [.ref (gq G 25), .int a1] (some (.int r.1)) x r.2 := by
  refine Mt.of (by decide) (Nat.le_of_ble_eq_true rfl) ?_
  intro p e s mm args below meth c C ls hl hw
  have hx := C.1
  have hb := C.2.1
  have hown := C.2.2.2.2.1
  replace hl : lv_has ls 2 [(0, .ref (gq G 25)), (1, .int a1)] := hl
  unfold f4_now at h
  refine lv_iload_n hx hb dX4_now_0 rfl (lv_at hl 1 rfl) ?_
  by_cases hc0 : a1 = (0 : Int32)
  · replace h := p_t hc0 h
    refine lv_tableIn (tgt := 40) hx hb dX4_now_1 (by rw [hc0]; decide) (by rw [hc0]; decide) (by rw [hc0]; rfl) (by decide) ?_
    refine lv_aload_n hx hb dX4_now_40 rfl (lv_at hl 0 rfl) ?_
    refine w_get C hw (v := .ref (gq G 26)) (k := 0) (wk_model G x m) rfl it_4 (by decide) fl_X4_9 rfl dX4_now_41 ?_
    refine lv_iconst (v := (0 : Int32)) hx hb dX4_now_44 (by decide) ?_
    obtain ⟨hq, h⟩ := p_if h
    refine w_ald C hw (am_26 G x m).1 hq dX4_now_45 ?_
    replace h := Option.some.inj h
    subst h
    exact w_iret C hw (v := (m 26 (0 : Int32).toNatClampNeg)) rfl rfl dX4_now_46
  · replace h := p_f hc0 h
    by_cases hc1 : a1 = (1 : Int32)
    · replace h := p_t hc1 h
      refine lv_tableIn (tgt := 47) hx hb dX4_now_1 (by rw [hc1]; decide) (by rw [hc1]; decide) (by rw [hc1]; rfl) (by decide) ?_
      refine lv_aload_n hx hb dX4_now_47 rfl (lv_at hl 0 rfl) ?_
      refine lv_iconst (v := (1 : Int32)) hx hb dX4_now_48 (by decide) ?_
      obtain ⟨v1, hq, h⟩ := p_bd h
      refine w_Vi C hw (As := [.int (1 : Int32)]) (rest := []) (c4_cornersThat l G x m (1 : Int32) v1 hq) kv_X4_cornersThat ml_X4_155 ⟨rfl, rfl⟩ ⟨Nat.le_of_ble_eq_true rfl, Nat.le_of_ble_eq_true rfl⟩ ⟨Nat.zero_le _, Nat.zero_le _⟩ (w_recv C hw (wk_model G x m) rfl) rfl rfl (Nat.le_of_ble_eq_true rfl) (lv_sub hl [] rfl) dX4_now_49 (fun H locs hw => ?_)
      replace h := Option.some.inj h
      subst h
      exact w_iret C hw (v := v1) rfl rfl dX4_now_52
    · replace h := p_f hc1 h
      by_cases hc2 : a1 = (2 : Int32)
      · replace h := p_t hc2 h
        refine lv_tableIn (tgt := 53) hx hb dX4_now_1 (by rw [hc2]; decide) (by rw [hc2]; decide) (by rw [hc2]; rfl) (by decide) ?_
        refine lv_aload_n hx hb dX4_now_53 rfl (lv_at hl 0 rfl) ?_
        obtain ⟨v2, hq, h⟩ := p_bd h
        refine w_Vi C hw (As := []) (rest := []) (c4_allWeight l G x m v2 hq) kv_X4_allWeight ml_X4_159 ⟨rfl, rfl⟩ ⟨Nat.le_of_ble_eq_true rfl, Nat.le_of_ble_eq_true rfl⟩ ⟨Nat.zero_le _, Nat.zero_le _⟩ (w_recv C hw (wk_model G x m) rfl) rfl rfl (Nat.le_of_ble_eq_true rfl) (lv_sub hl [] rfl) dX4_now_54 (fun H locs hw => ?_)
        replace h := Option.some.inj h
        subst h
        exact w_iret C hw (v := v2) rfl rfl dX4_now_57
      · replace h := p_f hc2 h
        by_cases hc3 : a1 = (3 : Int32)
        · replace h := p_t hc3 h
          refine lv_tableIn (tgt := 58) hx hb dX4_now_1 (by rw [hc3]; decide) (by rw [hc3]; decide) (by rw [hc3]; rfl) (by decide) ?_
          refine lv_aload_n hx hb dX4_now_58 rfl (lv_at hl 0 rfl) ?_
          refine w_get C hw (v := .ref (gq G 26)) (k := 0) (wk_model G x m) rfl it_4 (by decide) fl_X4_9 rfl dX4_now_59 ?_
          refine lv_iconst (v := (2 : Int32)) hx hb dX4_now_62 (by decide) ?_
          obtain ⟨hq, h⟩ := p_if h
          refine w_ald C hw (am_26 G x m).1 hq dX4_now_63 ?_
          replace h := Option.some.inj h
          subst h
          exact w_iret C hw (v := (m 26 (2 : Int32).toNatClampNeg)) rfl rfl dX4_now_64
        · replace h := p_f hc3 h
          by_cases hc4 : a1 = (4 : Int32)
          · replace h := p_t hc4 h
            refine lv_tableIn (tgt := 65) hx hb dX4_now_1 (by rw [hc4]; decide) (by rw [hc4]; decide) (by rw [hc4]; rfl) (by decide) ?_
            refine lv_aload_n hx hb dX4_now_65 rfl (lv_at hl 0 rfl) ?_
            refine w_get C hw (v := .ref (gq G 26)) (k := 0) (wk_model G x m) rfl it_4 (by decide) fl_X4_9 rfl dX4_now_66 ?_
            refine lv_iconst (v := (3 : Int32)) hx hb dX4_now_69 (by decide) ?_
            obtain ⟨hq, h⟩ := p_if h
            refine w_ald C hw (am_26 G x m).1 hq dX4_now_70 ?_
            replace h := Option.some.inj h
            subst h
            exact w_iret C hw (v := (m 26 (3 : Int32).toNatClampNeg)) rfl rfl dX4_now_71
          · replace h := p_f hc4 h
            by_cases hc5 : a1 = (5 : Int32)
            · replace h := p_t hc5 h
              refine lv_tableIn (tgt := 72) hx hb dX4_now_1 (by rw [hc5]; decide) (by rw [hc5]; decide) (by rw [hc5]; rfl) (by decide) ?_
              refine lv_aload_n hx hb dX4_now_72 rfl (lv_at hl 0 rfl) ?_
              refine lv_iconst (v := (0 : Int32)) hx hb dX4_now_73 (by decide) ?_
              obtain ⟨v3, hq, h⟩ := p_bd h
              refine w_Vi C hw (As := [.int (0 : Int32)]) (rest := []) (c4_cornersThat l G x m (0 : Int32) v3 hq) kv_X4_cornersThat ml_X4_155 ⟨rfl, rfl⟩ ⟨Nat.le_of_ble_eq_true rfl, Nat.le_of_ble_eq_true rfl⟩ ⟨Nat.zero_le _, Nat.zero_le _⟩ (w_recv C hw (wk_model G x m) rfl) rfl rfl (Nat.le_of_ble_eq_true rfl) (lv_sub hl [] rfl) dX4_now_74 (fun H locs hw => ?_)
              replace h := Option.some.inj h
              subst h
              exact w_iret C hw (v := v3) rfl rfl dX4_now_77
            · replace h := p_f hc5 h
              refine lv_tableOut (tgt := 78) hx hb dX4_now_1 (by have q0 : ¬ a1.toInt = 0 := lv_neT hc0 rfl; have q1 : ¬ a1.toInt = 1 := lv_neT hc1 rfl; have q2 : ¬ a1.toInt = 2 := lv_neT hc2 rfl; have q3 : ¬ a1.toInt = 3 := lv_neT hc3 rfl; have q4 : ¬ a1.toInt = 4 := lv_neT hc4 rfl; have q5 : ¬ a1.toInt = 5 := lv_neT hc5 rfl; omega) (by decide) ?_
              refine lv_aload_n hx hb dX4_now_78 rfl (lv_at hl 0 rfl) ?_
              refine lv_iconst (v := (0 : Int32)) hx hb dX4_now_79 (by decide) ?_
              obtain ⟨⟨v5, z4⟩, hq, h⟩ := p_bd h
              dsimp only at h
              refine w_Vi C hw (As := [.int (0 : Int32)]) (rest := []) (c4_finds l G x m (0 : Int32) (v5, z4) hq) kv_X4_finds ml_X4_82 ⟨rfl, rfl⟩ ⟨Nat.le_of_ble_eq_true rfl, Nat.le_of_ble_eq_true rfl⟩ ⟨Nat.zero_le _, Nat.zero_le _⟩ (w_recv C hw (wk_model G x m) rfl) rfl rfl (Nat.le_of_ble_eq_true rfl) (lv_sub hl [] rfl) dX4_now_80 (fun H locs hw => ?_)
              replace h := Option.some.inj h
              subst h
              exact w_iret C hw (v := v5) rfl rfl dX4_now_83
