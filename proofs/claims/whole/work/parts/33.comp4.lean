def f3_said_L20   : Nat → Int32 → Int32 → Int32 → St → Option (Int32 × St)
  | 0, _, _, _, _ => none
  | n + 1, b1, b2, b4, x =>
    if (112 : Int32) ≤ b4 then
      (f3_finding (-1000004 : Int32) x).bind fun q => match q with
      | (v4, z3) =>
        some (v4, z3)
    else
      (f3_pairFits b1 b4 b2 x).bind fun q => match q with
      | (v6, z5) =>
        if v6 = 0 then
          (f3_said_L20 n) b1 b2 (b4 + (1 : Int32)) z5
        else
          some (b4, z5)
theorem f3_said_L20_0   (b1 : Int32) (b2 : Int32) (b4 : Int32) (x : St) : f3_said_L20  0 b1 b2 b4 x = none := rfl
theorem f3_said_L20_s   (n : Nat) (b1 : Int32) (b2 : Int32) (b4 : Int32) (x : St) : f3_said_L20  (n + 1) b1 b2 b4 x =
    if (112 : Int32) ≤ b4 then
      (f3_finding (-1000004 : Int32) x).bind fun q => match q with
      | (v4, z3) =>
        some (v4, z3)
    else
      (f3_pairFits b1 b4 b2 x).bind fun q => match q with
      | (v6, z5) =>
        if v6 = 0 then
          (f3_said_L20 n) b1 b2 (b4 + (1 : Int32)) z5
        else
          some (b4, z5) := rfl
def f3_said  (a1 : Int32) (a2 : Int32) (x : St) : Option (Int32 × St) :=
  if (f3_whyNotHeard a1 a2 x) = 0 then
    f3_said_L20 fu a1 a2 (0 : Int32) x
  else
    (f3_finding (f3_whyNotHeard a1 a2 x) x).bind fun q => match q with
    | (v2, z1) =>
      some (v2, z1)
set_option maxHeartbeats 4000000 in
set_option maxRecDepth 100000 in
theorem c3_said (l : Launch) (G : GT)  (x m : St) (a1 : Int32) (a2 : Int32) (r : Int32 × St) (h : f3_said a1 a2 x = some r) : Mt l yX3_said cX3_said 5 (some .int) (rmF 6 148) G x m [.ref (gq G 0), .int a1, .int a2] (some (.int r.1)) r.2 m := by
  refine Mt.of (by decide) (Nat.le_of_ble_eq_true rfl) ?_
  intro p e s mm args below meth c C ls hl hw
  have hx := C.1
  have hb := C.2.1
  have hown := C.2.2.2.2.1
  replace hl : lv_has ls 5 [(0, .ref (gq G 0)), (1, .int a1), (2, .int a2)] := hl
  have L20 : ∀ (n20 : Nat) (b1 : Int32) (b2 : Int32) (b4 : Int32) (x : St) (H : Heap) (locs : List Loc) (ls : Array Slot), lv_has ls 5 [(0, .ref (gq G 0)), (1, .int b1), (2, .int b2), (4, .int b4)] → Wd G s x m H locs → f3_said_L20 n20 b1 b2 b4 x = some r → W p l e (rmF 6 148) s mm args below meth c H locs 0 0 (QE below G (some (.int r.1)) r.2 m args s) (F0 mm 20 ls []) := by
    intro n20
    induction n20 with
    | zero =>
      intro b1 b2 b4 x H locs ls hl hw h
      rw [f3_said_L20_0] at h
      exact absurd h.symm (Option.some_ne_none _)
    | succ n20 ih20 =>
      intro b1 b2 b4 x H locs ls hl hw h
      rw [f3_said_L20_s] at h
      refine lv_iload hx hb dX3_said_20 (lv_at hl 3 rfl) ?_
      refine lv_bipush (v := (112 : Int32)) hx hb dX3_said_22 (by decide) ?_
      refine lv_icmp_ge (tgt := 47) hx hb dX3_said_24 (by decide) (fun hc => ?_) (fun hc => ?_)
      · replace h := p_t hc h
        refine lv_aload_n hx hb dX3_said_47 rfl (lv_at hl 0 rfl) ?_
        refine lv_ldc hx hb hown (C.w kc_X3_138) dX3_said_48 ?_
        obtain ⟨⟨v4, z3⟩, hq, h⟩ := p_bd h
        dsimp only at h
        refine w_Vi C hw (As := [.int (-1000004 : Int32)]) (rest := []) (c3_finding l G x m (-1000004 : Int32) (v4, z3) hq) kv_X3_finding ml_X3_49 ⟨rfl, rfl⟩ ⟨Nat.le_of_ble_eq_true rfl, Nat.le_of_ble_eq_true rfl⟩ ⟨Nat.zero_le _, Nat.zero_le _⟩ (w_recv C hw (wk_main G x m) rfl) rfl rfl (Nat.le_of_ble_eq_true rfl) (lv_sub hl [] rfl) dX3_said_50 (fun H locs hw => ?_)
        replace h := Option.some.inj h
        subst h
        exact w_iret C hw (v := v4) rfl rfl dX3_said_53
      · replace h := p_f hc h
        refine lv_aload_n hx hb dX3_said_27 rfl (lv_at hl 0 rfl) ?_
        refine lv_iload_n hx hb dX3_said_28 rfl (lv_at hl 1 rfl) ?_
        refine lv_iload hx hb dX3_said_29 (lv_at hl 3 rfl) ?_
        refine lv_iload_n hx hb dX3_said_31 rfl (lv_at hl 2 rfl) ?_
        obtain ⟨⟨v6, z5⟩, hq, h⟩ := p_bd h
        dsimp only at h
        refine w_Vi C hw (As := [.int b1, .int b4, .int b2]) (rest := []) (c3_pairFits l G x m b1 b4 b2 (v6, z5) hq) kv_X3_pairFits ml_X3_188 ⟨rfl, rfl⟩ ⟨Nat.le_of_ble_eq_true rfl, Nat.le_of_ble_eq_true rfl⟩ ⟨Nat.zero_le _, Nat.zero_le _⟩ (w_recv C hw (wk_main G x m) rfl) rfl rfl (Nat.le_of_ble_eq_true rfl) (lv_sub hl [] rfl) dX3_said_32 (fun H locs hw => ?_)
        refine lv_if_eq (tgt := 41) hx hb dX3_said_35 (by decide) (fun hc => ?_) (fun hc => ?_)
        · replace h := p_t hc h
          refine lv_iinc (v := (b4 + (1 : Int32))) (lv' := [(4, .int (b4 + (1 : Int32))), (0, .ref (gq G 0)), (1, .int b1), (2, .int b2)]) hx hb dX3_said_41 hl (k := 3) rfl rfl (by decide) rfl (fun ls hl => ?_)
          refine lv_goto (tgt := 20) hx hb dX3_said_44 (by decide) ?_
          exact ih20 b1 b2 (b4 + (1 : Int32)) z5 _ _ _ (lv_sub hl [1, 2, 3, 0] rfl) hw h
        · replace h := p_f hc h
          refine lv_iload hx hb dX3_said_38 (lv_at hl 3 rfl) ?_
          replace h := Option.some.inj h
          subst h
          exact w_iret C hw (v := b4) rfl rfl dX3_said_40
  unfold f3_said at h
  refine lv_aload_n hx hb dX3_said_0 rfl (lv_at hl 0 rfl) ?_
  refine lv_iload_n hx hb dX3_said_1 rfl (lv_at hl 1 rfl) ?_
  refine lv_iload_n hx hb dX3_said_2 rfl (lv_at hl 2 rfl) ?_
  refine w_Vi C hw (As := [.int a1, .int a2]) (rest := []) (c3_whyNotHeard l G x m a1 a2 _ rfl) kv_X3_whyNotHeard ml_X3_185 ⟨rfl, rfl⟩ ⟨Nat.le_of_ble_eq_true rfl, Nat.le_of_ble_eq_true rfl⟩ ⟨Nat.zero_le _, Nat.zero_le _⟩ (w_recv C hw (wk_main G x m) rfl) rfl rfl (Nat.le_of_ble_eq_true rfl) (lv_sub hl [] rfl) dX3_said_3 (fun H locs hw => ?_)
  refine lv_istore_n (lv' := [(3, .int (f3_whyNotHeard a1 a2 x)), (0, .ref (gq G 0)), (1, .int a1), (2, .int a2)]) hx hb dX3_said_6 rfl hl (by decide) rfl (fun ls hl => ?_)
  refine lv_iload_n hx hb dX3_said_7 rfl (lv_at hl 0 rfl) ?_
  refine lv_if_eq (tgt := 17) hx hb dX3_said_8 (by decide) (fun hc => ?_) (fun hc => ?_)
  · replace h := p_t hc h
    refine lv_iconst (v := (0 : Int32)) hx hb dX3_said_17 (by decide) ?_
    refine lv_istore (lv' := [(4, .int (0 : Int32)), (3, .int (f3_whyNotHeard a1 a2 x)), (0, .ref (gq G 0)), (1, .int a1), (2, .int a2)]) hx hb dX3_said_18 hl (by decide) rfl (fun ls hl => ?_)
    exact L20 fu a1 a2 (0 : Int32) x _ _ _ (lv_sub hl [2, 3, 4, 0] rfl) hw h
  · replace h := p_f hc h
    refine lv_aload_n hx hb dX3_said_11 rfl (lv_at hl 1 rfl) ?_
    refine lv_iload_n hx hb dX3_said_12 rfl (lv_at hl 0 rfl) ?_
    obtain ⟨⟨v2, z1⟩, hq, h⟩ := p_bd h
    dsimp only at h
    refine w_Vi C hw (As := [.int (f3_whyNotHeard a1 a2 x)]) (rest := []) (c3_finding l G x m (f3_whyNotHeard a1 a2 x) (v2, z1) hq) kv_X3_finding ml_X3_49 ⟨rfl, rfl⟩ ⟨Nat.le_of_ble_eq_true rfl, Nat.le_of_ble_eq_true rfl⟩ ⟨Nat.zero_le _, Nat.zero_le _⟩ (w_recv C hw (wk_main G x m) rfl) rfl rfl (Nat.le_of_ble_eq_true rfl) (lv_sub hl [] rfl) dX3_said_13 (fun H locs hw => ?_)
    replace h := Option.some.inj h
    subst h
    exact w_iret C hw (v := v2) rfl rfl dX3_said_16

def f3_dearest_b31  (k4 : Int32 → Int32 → St → Option (Int32)) (b1 : Int32) (b2 : Int32) (x : St) : Option (Int32) :=
  k4 b1 (b2 + (1 : Int32)) x
def f3_dearest_L4   : Nat → Int32 → Int32 → St → Option (Int32)
  | 0, _, _, _ => none
  | n + 1, b1, b2, x =>
    if (16 : Int32) ≤ b2 then
      some b1
    else
      (f2_rentOf 0 b2 x).bind fun v1 =>
      (f2_rentOf 0 b1 x).bind fun v2 =>
      if v1 ≤ v2 then
        f3_dearest_b31 (f3_dearest_L4 n) b1 b2 x
      else
        f3_dearest_b31 (f3_dearest_L4 n) b2 b2 x
theorem f3_dearest_L4_0   (b1 : Int32) (b2 : Int32) (x : St) : f3_dearest_L4  0 b1 b2 x = none := rfl
theorem f3_dearest_L4_s   (n : Nat) (b1 : Int32) (b2 : Int32) (x : St) : f3_dearest_L4  (n + 1) b1 b2 x =
    if (16 : Int32) ≤ b2 then
      some b1
    else
      (f2_rentOf 0 b2 x).bind fun v1 =>
      (f2_rentOf 0 b1 x).bind fun v2 =>
      if v1 ≤ v2 then
        f3_dearest_b31 (f3_dearest_L4 n) b1 b2 x
      else
        f3_dearest_b31 (f3_dearest_L4 n) b2 b2 x := rfl
def f3_dearest   (x : St) : Option (Int32) :=
  f3_dearest_L4 fu (0 : Int32) (1 : Int32) x
set_option maxHeartbeats 4000000 in
set_option maxRecDepth 100000 in
theorem c3_dearest (l : Launch) (G : GT)  (x m : St)  (r : Int32) (h : f3_dearest x = some r) : Mt l yX3_dearest cX3_dearest 3 (some .int) (rmF 4 89) G x m [.ref (gq G 0)] (some (.int r)) x m := by
  refine Mt.of (by decide) (Nat.le_of_ble_eq_true rfl) ?_
  intro p e s mm args below meth c C ls hl hw
  have hx := C.1
  have hb := C.2.1
  have hown := C.2.2.2.2.1
  replace hl : lv_has ls 3 [(0, .ref (gq G 0))] := hl
  have L4 : ∀ (n4 : Nat) (b1 : Int32) (b2 : Int32) (H : Heap) (locs : List Loc) (ls : Array Slot), lv_has ls 3 [(0, .ref (gq G 0)), (1, .int b1), (2, .int b2)] → Wd G s x m H locs → f3_dearest_L4 n4 b1 b2 x = some r → W p l e (rmF 4 89) s mm args below meth c H locs 0 0 (QE below G (some (.int r)) x m args s) (F0 mm 4 ls []) := by
    intro n4
    induction n4 with
    | zero =>
      intro b1 b2  H locs ls hl hw h
      rw [f3_dearest_L4_0] at h
      exact absurd h.symm (Option.some_ne_none _)
    | succ n4 ih4 =>
      have B31 : ∀ (b1 : Int32) (b2 : Int32) (H : Heap) (locs : List Loc) (ls : Array Slot), lv_has ls 3 [(0, .ref (gq G 0)), (1, .int b1), (2, .int b2)] → Wd G s x m H locs → f3_dearest_b31 (f3_dearest_L4 n4) b1 b2 x = some r → W p l e (rmF 4 89) s mm args below meth c H locs 0 0 (QE below G (some (.int r)) x m args s) (F0 mm 31 ls []) := by
        intro b1 b2  H locs ls hl hw h
        unfold f3_dearest_b31 at h
        refine lv_iinc (v := (b2 + (1 : Int32))) (lv' := [(2, .int (b2 + (1 : Int32))), (0, .ref (gq G 0)), (1, .int b1)]) hx hb dX3_dearest_31 hl (k := 2) rfl rfl (by decide) rfl (fun ls hl => ?_)
        refine lv_goto (tgt := 4) hx hb dX3_dearest_34 (by decide) ?_
        exact ih4 b1 (b2 + (1 : Int32)) _ _ _ (lv_sub hl [1, 2, 0] rfl) hw h
      intro b1 b2  H locs ls hl hw h
      rw [f3_dearest_L4_s] at h
      refine lv_iload_n hx hb dX3_dearest_4 rfl (lv_at hl 2 rfl) ?_
      refine lv_bipush (v := (16 : Int32)) hx hb dX3_dearest_5 (by decide) ?_
      refine lv_icmp_ge (tgt := 37) hx hb dX3_dearest_7 (by decide) (fun hc => ?_) (fun hc => ?_)
      · replace h := p_t hc h
        refine lv_iload_n hx hb dX3_dearest_37 rfl (lv_at hl 1 rfl) ?_
        replace h := Option.some.inj h
        subst h
        exact w_iret C hw (v := b1) rfl rfl dX3_dearest_38
      · replace h := p_f hc h
        refine lv_aload_n hx hb dX3_dearest_10 rfl (lv_at hl 0 rfl) ?_
        refine w_get C hw (v := .ref (gq G (1 + 4 * 0))) (k := 0) (wk_main G x m) rfl it_3 (by decide) fl_X3_10 rfl dX3_dearest_11 ?_
        refine lv_iload_n hx hb dX3_dearest_14 rfl (lv_at hl 2 rfl) ?_
        obtain ⟨v1, hq, h⟩ := p_bd h
        refine w_Vi C hw (As := [.int b2]) (rest := []) (c2_rentOf l G 0 (by decide) x m b2 v1 hq) kv_X2_rentOf ml_X3_62 ⟨rfl, rfl⟩ ⟨Nat.le_of_ble_eq_true rfl, Nat.le_of_ble_eq_true rfl⟩ ⟨Nat.zero_le _, Nat.zero_le _⟩ (w_recv C hw (wk_town G x m (by decide)) rfl) rfl rfl (Nat.le_of_ble_eq_true rfl) (lv_sub hl [] rfl) dX3_dearest_15 (fun H locs hw => ?_)
        refine lv_aload_n hx hb dX3_dearest_18 rfl (lv_at hl 0 rfl) ?_
        refine w_get C hw (v := .ref (gq G (1 + 4 * 0))) (k := 0) (wk_main G x m) rfl it_3 (by decide) fl_X3_10 rfl dX3_dearest_19 ?_
        refine lv_iload_n hx hb dX3_dearest_22 rfl (lv_at hl 1 rfl) ?_
        obtain ⟨v2, hq, h⟩ := p_bd h
        refine w_Vi C hw (As := [.int b1]) (rest := [.int v1]) (c2_rentOf l G 0 (by decide) x m b1 v2 hq) kv_X2_rentOf ml_X3_62 ⟨rfl, rfl⟩ ⟨Nat.le_of_ble_eq_true rfl, Nat.le_of_ble_eq_true rfl⟩ ⟨Nat.zero_le _, Nat.zero_le _⟩ (w_recv C hw (wk_town G x m (by decide)) rfl) rfl rfl (Nat.le_of_ble_eq_true rfl) (lv_sub hl [] rfl) dX3_dearest_23 (fun H locs hw => ?_)
        refine lv_icmp_le (tgt := 31) hx hb dX3_dearest_26 (by decide) (fun hc => ?_) (fun hc => ?_)
        · replace h := p_t hc h
          exact B31 b1 b2 _ _ _ (lv_sub hl [0, 1, 2] rfl) hw h
        · replace h := p_f hc h
          refine lv_iload_n hx hb dX3_dearest_29 rfl (lv_at hl 2 rfl) ?_
          refine lv_istore_n (lv' := [(1, .int b2), (0, .ref (gq G 0)), (2, .int b2)]) hx hb dX3_dearest_30 rfl hl (by decide) rfl (fun ls hl => ?_)
          exact B31 b2 b2 _ _ _ (lv_sub hl [1, 0, 2] rfl) hw h
  unfold f3_dearest at h
  refine lv_iconst (v := (0 : Int32)) hx hb dX3_dearest_0 (by decide) ?_
  refine lv_istore_n (lv' := [(1, .int (0 : Int32)), (0, .ref (gq G 0))]) hx hb dX3_dearest_1 rfl hl (by decide) rfl (fun ls hl => ?_)
  refine lv_iconst (v := (1 : Int32)) hx hb dX3_dearest_2 (by decide) ?_
  refine lv_istore_n (lv' := [(2, .int (1 : Int32)), (1, .int (0 : Int32)), (0, .ref (gq G 0))]) hx hb dX3_dearest_3 rfl hl (by decide) rfl (fun ls hl => ?_)
  exact L4 fu (0 : Int32) (1 : Int32) _ _ _ (lv_sub hl [2, 1, 0] rfl) hw h

def f3_rents_L4   : Nat → Int32 → Int32 → St → Option (Int32)
  | 0, _, _, _ => none
  | n + 1, b1, b2, x =>
    if (16 : Int32) ≤ b2 then
      some b1
    else
      (f2_rentOf 0 b2 x).bind fun v1 =>
      (f3_rents_L4 n) (b1 + v1) (b2 + (1 : Int32)) x
theorem f3_rents_L4_0   (b1 : Int32) (b2 : Int32) (x : St) : f3_rents_L4  0 b1 b2 x = none := rfl
theorem f3_rents_L4_s   (n : Nat) (b1 : Int32) (b2 : Int32) (x : St) : f3_rents_L4  (n + 1) b1 b2 x =
    if (16 : Int32) ≤ b2 then
      some b1
    else
      (f2_rentOf 0 b2 x).bind fun v1 =>
      (f3_rents_L4 n) (b1 + v1) (b2 + (1 : Int32)) x := rfl
def f3_rents   (x : St) : Option (Int32) :=
  f3_rents_L4 fu (0 : Int32) (0 : Int32) x
set_option maxHeartbeats 4000000 in
set_option maxRecDepth 100000 in
theorem c3_rents (l : Launch) (G : GT)  (x m : St)  (r : Int32) (h : f3_rents x = some r) : Mt l yX3_rents cX3_rents 3 (some .int) (rmF 4 89) G x m [.ref (gq G 0)] (some (.int r)) x m := by
  refine Mt.of (by decide) (Nat.le_of_ble_eq_true rfl) ?_
  intro p e s mm args below meth c C ls hl hw
  have hx := C.1
  have hb := C.2.1
  have hown := C.2.2.2.2.1
  replace hl : lv_has ls 3 [(0, .ref (gq G 0))] := hl
  have L4 : ∀ (n4 : Nat) (b1 : Int32) (b2 : Int32) (H : Heap) (locs : List Loc) (ls : Array Slot), lv_has ls 3 [(0, .ref (gq G 0)), (1, .int b1), (2, .int b2)] → Wd G s x m H locs → f3_rents_L4 n4 b1 b2 x = some r → W p l e (rmF 4 89) s mm args below meth c H locs 0 0 (QE below G (some (.int r)) x m args s) (F0 mm 4 ls []) := by
    intro n4
    induction n4 with
    | zero =>
      intro b1 b2  H locs ls hl hw h
      rw [f3_rents_L4_0] at h
      exact absurd h.symm (Option.some_ne_none _)
    | succ n4 ih4 =>
      intro b1 b2  H locs ls hl hw h
      rw [f3_rents_L4_s] at h
      refine lv_iload_n hx hb dX3_rents_4 rfl (lv_at hl 2 rfl) ?_
      refine lv_bipush (v := (16 : Int32)) hx hb dX3_rents_5 (by decide) ?_
      refine lv_icmp_ge (tgt := 27) hx hb dX3_rents_7 (by decide) (fun hc => ?_) (fun hc => ?_)
      · replace h := p_t hc h
        refine lv_iload_n hx hb dX3_rents_27 rfl (lv_at hl 1 rfl) ?_
        replace h := Option.some.inj h
        subst h
        exact w_iret C hw (v := b1) rfl rfl dX3_rents_28
      · replace h := p_f hc h
        refine lv_iload_n hx hb dX3_rents_10 rfl (lv_at hl 1 rfl) ?_
        refine lv_aload_n hx hb dX3_rents_11 rfl (lv_at hl 0 rfl) ?_
        refine w_get C hw (v := .ref (gq G (1 + 4 * 0))) (k := 0) (wk_main G x m) rfl it_3 (by decide) fl_X3_10 rfl dX3_rents_12 ?_
        refine lv_iload_n hx hb dX3_rents_15 rfl (lv_at hl 2 rfl) ?_
        obtain ⟨v1, hq, h⟩ := p_bd h
        refine w_Vi C hw (As := [.int b2]) (rest := [.int b1]) (c2_rentOf l G 0 (by decide) x m b2 v1 hq) kv_X2_rentOf ml_X3_62 ⟨rfl, rfl⟩ ⟨Nat.le_of_ble_eq_true rfl, Nat.le_of_ble_eq_true rfl⟩ ⟨Nat.zero_le _, Nat.zero_le _⟩ (w_recv C hw (wk_town G x m (by decide)) rfl) rfl rfl (Nat.le_of_ble_eq_true rfl) (lv_sub hl [] rfl) dX3_rents_16 (fun H locs hw => ?_)
        refine lv_iadd hx hb dX3_rents_19 ?_
        refine lv_istore_n (lv' := [(1, .int (b1 + v1)), (0, .ref (gq G 0)), (2, .int b2)]) hx hb dX3_rents_20 rfl hl (by decide) rfl (fun ls hl => ?_)
        refine lv_iinc (v := (b2 + (1 : Int32))) (lv' := [(2, .int (b2 + (1 : Int32))), (1, .int (b1 + v1)), (0, .ref (gq G 0))]) hx hb dX3_rents_21 hl (k := 2) rfl rfl (by decide) rfl (fun ls hl => ?_)
        refine lv_goto (tgt := 4) hx hb dX3_rents_24 (by decide) ?_
        exact ih4 (b1 + v1) (b2 + (1 : Int32)) _ _ _ (lv_sub hl [2, 1, 0] rfl) hw h
  unfold f3_rents at h
  refine lv_iconst (v := (0 : Int32)) hx hb dX3_rents_0 (by decide) ?_
  refine lv_istore_n (lv' := [(1, .int (0 : Int32)), (0, .ref (gq G 0))]) hx hb dX3_rents_1 rfl hl (by decide) rfl (fun ls hl => ?_)
  refine lv_iconst (v := (0 : Int32)) hx hb dX3_rents_2 (by decide) ?_
  refine lv_istore_n (lv' := [(2, .int (0 : Int32)), (1, .int (0 : Int32)), (0, .ref (gq G 0))]) hx hb dX3_rents_3 rfl hl (by decide) rfl (fun ls hl => ?_)
  exact L4 fu (0 : Int32) (0 : Int32) _ _ _ (lv_sub hl [2, 1, 0] rfl) hw h

def f3_frosts_b87  (k42 : Int32 → Int32 → Int32 → St → Option (Int32 × St)) (b1 : Int32) (b2 : Int32) (b3 : Int32) (x : St) : Option (Int32 × St) :=
  k42 b1 b2 (b3 + (1 : Int32)) x
def f3_frosts_L42   : Nat → Int32 → Int32 → Int32 → St → Option (Int32 × St)
  | 0, _, _, _, _ => none
  | n + 1, b1, b2, b3, x =>
    if b1 ≤ b3 then
      some (b2, x)
    else
      (f2_pass 0 (1 : Int32) (up (f2_draw 0 x).2 (1 + 4 * 0) 5 ((f2_draw 0 x).1 - (f2_draw 0 x).1 / (2 : Int32) * (2 : Int32)))).bind fun q => match q with
      | (v6, z5) =>
        (f2_isHeardAt 0 (15 : Int32) z5).bind fun v7 =>
        if v7 = 0 then
          f3_frosts_b87 (f3_frosts_L42 n) b1 b2 b3 z5
        else
          f3_frosts_b87 (f3_frosts_L42 n) b1 (b2 + (1 : Int32)) b3 z5
theorem f3_frosts_L42_0   (b1 : Int32) (b2 : Int32) (b3 : Int32) (x : St) : f3_frosts_L42  0 b1 b2 b3 x = none := rfl
theorem f3_frosts_L42_s   (n : Nat) (b1 : Int32) (b2 : Int32) (b3 : Int32) (x : St) : f3_frosts_L42  (n + 1) b1 b2 b3 x =
    if b1 ≤ b3 then
      some (b2, x)
    else
      (f2_pass 0 (1 : Int32) (up (f2_draw 0 x).2 (1 + 4 * 0) 5 ((f2_draw 0 x).1 - (f2_draw 0 x).1 / (2 : Int32) * (2 : Int32)))).bind fun q => match q with
      | (v6, z5) =>
        (f2_isHeardAt 0 (15 : Int32) z5).bind fun v7 =>
        if v7 = 0 then
          f3_frosts_b87 (f3_frosts_L42 n) b1 b2 b3 z5
        else
          f3_frosts_b87 (f3_frosts_L42 n) b1 (b2 + (1 : Int32)) b3 z5 := rfl
def f3_frosts  (a1 : Int32) (x : St) : Option (Int32 × St) :=
  if (f3_isWithin a1 (1 : Int32) (20 : Int32)) = 0 then
    (f3_finding (-1000001 : Int32) x).bind fun q => match q with
    | (v4, z3) =>
      some (v4, z3)
  else
    if ((x (1 + 4 * 0) 6) + a1) ≤ (99999 : Int32) then
      f3_frosts_L42 fu a1 (0 : Int32) (0 : Int32) x
    else
      (f3_finding (-1000005 : Int32) x).bind fun q => match q with
      | (v2, z1) =>
        some (v2, z1)
set_option maxHeartbeats 4000000 in
set_option maxRecDepth 100000 in
theorem c3_frosts (l : Launch) (G : GT)  (x m : St) (a1 : Int32) (r : Int32 × St) (h : f3_frosts a1 x = some r) : Mt l yX3_frosts cX3_frosts 4 (some .int) (rmF 5 122) G x m [.ref (gq G 0), .int a1] (some (.int r.1)) r.2 m := by
  refine Mt.of (by decide) (Nat.le_of_ble_eq_true rfl) ?_
  intro p e s mm args below meth c C ls hl hw
  have hx := C.1
  have hb := C.2.1
  have hown := C.2.2.2.2.1
  replace hl : lv_has ls 4 [(0, .ref (gq G 0)), (1, .int a1)] := hl
  have L42 : ∀ (n42 : Nat) (b1 : Int32) (b2 : Int32) (b3 : Int32) (x : St) (H : Heap) (locs : List Loc) (ls : Array Slot), lv_has ls 4 [(0, .ref (gq G 0)), (1, .int b1), (2, .int b2), (3, .int b3)] → Wd G s x m H locs → f3_frosts_L42 n42 b1 b2 b3 x = some r → W p l e (rmF 5 122) s mm args below meth c H locs 0 0 (QE below G (some (.int r.1)) r.2 m args s) (F0 mm 42 ls []) := by
    intro n42
    induction n42 with
    | zero =>
      intro b1 b2 b3 x H locs ls hl hw h
      rw [f3_frosts_L42_0] at h
      exact absurd h.symm (Option.some_ne_none _)
    | succ n42 ih42 =>
      have B87 : ∀ (b1 : Int32) (b2 : Int32) (b3 : Int32) (x : St) (H : Heap) (locs : List Loc) (ls : Array Slot), lv_has ls 4 [(0, .ref (gq G 0)), (1, .int b1), (2, .int b2), (3, .int b3)] → Wd G s x m H locs → f3_frosts_b87 (f3_frosts_L42 n42) b1 b2 b3 x = some r → W p l e (rmF 5 122) s mm args below meth c H locs 0 0 (QE below G (some (.int r.1)) r.2 m args s) (F0 mm 87 ls []) := by
        intro b1 b2 b3 x H locs ls hl hw h
        unfold f3_frosts_b87 at h
        refine lv_iinc (v := (b3 + (1 : Int32))) (lv' := [(3, .int (b3 + (1 : Int32))), (0, .ref (gq G 0)), (1, .int b1), (2, .int b2)]) hx hb dX3_frosts_87 hl (k := 3) rfl rfl (by decide) rfl (fun ls hl => ?_)
        refine lv_goto (tgt := 42) hx hb dX3_frosts_90 (by decide) ?_
        exact ih42 b1 b2 (b3 + (1 : Int32)) x _ _ _ (lv_sub hl [1, 2, 3, 0] rfl) hw h
      intro b1 b2 b3 x H locs ls hl hw h
      rw [f3_frosts_L42_s] at h
      refine lv_iload_n hx hb dX3_frosts_42 rfl (lv_at hl 3 rfl) ?_
      refine lv_iload_n hx hb dX3_frosts_43 rfl (lv_at hl 1 rfl) ?_
      refine lv_icmp_ge (tgt := 93) hx hb dX3_frosts_44 (by decide) (fun hc => ?_) (fun hc => ?_)
      · replace h := p_t hc h
        refine lv_iload_n hx hb dX3_frosts_93 rfl (lv_at hl 2 rfl) ?_
        replace h := Option.some.inj h
        subst h
        exact w_iret C hw (v := b2) rfl rfl dX3_frosts_94
      · replace h := p_f hc h
        refine lv_aload_n hx hb dX3_frosts_47 rfl (lv_at hl 0 rfl) ?_
        refine w_get C hw (v := .ref (gq G (1 + 4 * 0))) (k := 0) (wk_main G x m) rfl it_3 (by decide) fl_X3_10 rfl dX3_frosts_48 ?_
        refine lv_aload_n hx hb dX3_frosts_51 rfl (lv_at hl 0 rfl) ?_
        refine w_get C hw (v := .ref (gq G (1 + 4 * 0))) (k := 0) (wk_main G x m) rfl it_3 (by decide) fl_X3_10 rfl dX3_frosts_52 ?_
        refine w_Vi C hw (As := []) (rest := [.ref (gq G (1 + 4 * 0))]) (c2_draw l G 0 (by decide) x m _ rfl) kv_X2_draw ml_X3_205 ⟨rfl, rfl⟩ ⟨Nat.le_of_ble_eq_true rfl, Nat.le_of_ble_eq_true rfl⟩ ⟨Nat.zero_le _, Nat.zero_le _⟩ (w_recv C hw (wk_town G x m (by decide)) rfl) rfl rfl (Nat.le_of_ble_eq_true rfl) (lv_sub hl [] rfl) dX3_frosts_55 (fun H locs hw => ?_)
        refine lv_iconst (v := (2 : Int32)) hx hb dX3_frosts_58 (by decide) ?_
        refine lv_irem hx hb dX3_frosts_59 (by decide) ?_
        refine w_putN C hw (k := 5) tyX2 tyX2_ok nmX2 (wk_town G (f2_draw 0 x).2 m (by decide)) rfl it_2 (by decide) (List.mem_of_getElem? (i := 4) rfl) rfl (ty := .int) rfl rfl rfl (Nat.le_of_ble_eq_true rfl) (ws_town G (f2_draw 0 x).2 m (by decide) 5 (by decide) _) dX3_frosts_60 (fun H locs hw => ?_)
        refine lv_aload_n hx hb dX3_frosts_63 rfl (lv_at hl 0 rfl) ?_
        refine w_get C hw (v := .ref (gq G (1 + 4 * 0))) (k := 0) (wk_main G (up (f2_draw 0 x).2 (1 + 4 * 0) 5 ((f2_draw 0 x).1 - (f2_draw 0 x).1 / (2 : Int32) * (2 : Int32))) m) rfl it_3 (by decide) fl_X3_10 rfl dX3_frosts_64 ?_
        refine lv_iconst (v := (1 : Int32)) hx hb dX3_frosts_67 (by decide) ?_
        obtain ⟨⟨v6, z5⟩, hq, h⟩ := p_bd h
        dsimp only at h
        refine w_Vi C hw (As := [.int (1 : Int32)]) (rest := []) (c2_pass l G 0 (by decide) (up (f2_draw 0 x).2 (1 + 4 * 0) 5 ((f2_draw 0 x).1 - (f2_draw 0 x).1 / (2 : Int32) * (2 : Int32))) m (1 : Int32) (v6, z5) hq) kv_X2_pass ml_X3_122 ⟨rfl, rfl⟩ ⟨Nat.le_of_ble_eq_true rfl, Nat.le_of_ble_eq_true rfl⟩ ⟨Nat.zero_le _, Nat.zero_le _⟩ (w_recv C hw (wk_town G (up (f2_draw 0 x).2 (1 + 4 * 0) 5 ((f2_draw 0 x).1 - (f2_draw 0 x).1 / (2 : Int32) * (2 : Int32))) m (by decide)) rfl) rfl rfl (Nat.le_of_ble_eq_true rfl) (lv_sub hl [] rfl) dX3_frosts_68 (fun H locs hw => ?_)
        refine lv_pop hx hb dX3_frosts_71 rfl ?_
        refine lv_aload_n hx hb dX3_frosts_72 rfl (lv_at hl 0 rfl) ?_
        refine w_get C hw (v := .ref (gq G (1 + 4 * 0))) (k := 0) (wk_main G z5 m) rfl it_3 (by decide) fl_X3_10 rfl dX3_frosts_73 ?_
        refine lv_bipush (v := (15 : Int32)) hx hb dX3_frosts_76 (by decide) ?_
        obtain ⟨v7, hq, h⟩ := p_bd h
        refine w_Vi C hw (As := [.int (15 : Int32)]) (rest := []) (c2_isHeardAt l G 0 (by decide) z5 m (15 : Int32) v7 hq) kv_X2_isHeardAt ml_X3_59 ⟨rfl, rfl⟩ ⟨Nat.le_of_ble_eq_true rfl, Nat.le_of_ble_eq_true rfl⟩ ⟨Nat.zero_le _, Nat.zero_le _⟩ (w_recv C hw (wk_town G z5 m (by decide)) rfl) rfl rfl (Nat.le_of_ble_eq_true rfl) (lv_sub hl [] rfl) dX3_frosts_78 (fun H locs hw => ?_)
        refine lv_if_eq (tgt := 87) hx hb dX3_frosts_81 (by decide) (fun hc => ?_) (fun hc => ?_)
        · replace h := p_t hc h
          exact B87 b1 b2 b3 z5 _ _ _ (lv_sub hl [0, 1, 2, 3] rfl) hw h
        · replace h := p_f hc h
          refine lv_iinc (v := (b2 + (1 : Int32))) (lv' := [(2, .int (b2 + (1 : Int32))), (0, .ref (gq G 0)), (1, .int b1), (3, .int b3)]) hx hb dX3_frosts_84 hl (k := 2) rfl rfl (by decide) rfl (fun ls hl => ?_)
          exact B87 b1 (b2 + (1 : Int32)) b3 z5 _ _ _ (lv_sub hl [1, 2, 0, 3] rfl) hw h
  unfold f3_frosts at h
  refine lv_iload_n hx hb dX3_frosts_0 rfl (lv_at hl 1 rfl) ?_
  refine lv_iconst (v := (1 : Int32)) hx hb dX3_frosts_1 (by decide) ?_
  refine lv_bipush (v := (20 : Int32)) hx hb dX3_frosts_2 (by decide) ?_
  refine w_Si C hw (As := [.int a1, .int (1 : Int32), .int (20 : Int32)]) (rest := []) (c3_isWithin l G x m a1 (1 : Int32) (20 : Int32) _ rfl) ks_X3_isWithin ml_X3_44 ⟨rfl, rfl⟩ ⟨Nat.le_of_ble_eq_true rfl, Nat.le_of_ble_eq_true rfl⟩ ⟨Nat.zero_le _, Nat.zero_le _⟩ rfl rfl (Nat.le_of_ble_eq_true rfl) (lv_sub hl [] rfl) dX3_frosts_4 (fun H locs hw => ?_)
  refine lv_if_ne (tgt := 17) hx hb dX3_frosts_7 (by decide) (fun hc => ?_) (fun hc => ?_)
  · replace h := p_f hc h
    refine lv_aload_n hx hb dX3_frosts_17 rfl (lv_at hl 0 rfl) ?_
    refine w_get C hw (v := .ref (gq G (1 + 4 * 0))) (k := 0) (wk_main G x m) rfl it_3 (by decide) fl_X3_10 rfl dX3_frosts_18 ?_
    refine w_getN C hw (v := .int (x (1 + 4 * 0) 6)) (k := 6) (wk_town G x m (by decide)) rfl it_2 (by decide) (List.mem_of_getElem? (i := 5) rfl) rfl dX3_frosts_21 ?_
    refine lv_iload_n hx hb dX3_frosts_24 rfl (lv_at hl 1 rfl) ?_
    refine lv_iadd hx hb dX3_frosts_25 ?_
    refine lv_ldc hx hb hown (C.w kc_X3_120) dX3_frosts_26 ?_
    refine lv_icmp_le (tgt := 38) hx hb dX3_frosts_28 (by decide) (fun hc => ?_) (fun hc => ?_)
    · replace h := p_t hc h
      refine lv_iconst (v := (0 : Int32)) hx hb dX3_frosts_38 (by decide) ?_
      refine lv_istore_n (lv' := [(2, .int (0 : Int32)), (0, .ref (gq G 0)), (1, .int a1)]) hx hb dX3_frosts_39 rfl hl (by decide) rfl (fun ls hl => ?_)
      refine lv_iconst (v := (0 : Int32)) hx hb dX3_frosts_40 (by decide) ?_
      refine lv_istore_n (lv' := [(3, .int (0 : Int32)), (2, .int (0 : Int32)), (0, .ref (gq G 0)), (1, .int a1)]) hx hb dX3_frosts_41 rfl hl (by decide) rfl (fun ls hl => ?_)
      exact L42 fu a1 (0 : Int32) (0 : Int32) x _ _ _ (lv_sub hl [2, 3, 1, 0] rfl) hw h
    · replace h := p_f hc h
      refine lv_aload_n hx hb dX3_frosts_31 rfl (lv_at hl 0 rfl) ?_
      refine lv_ldc hx hb hown (C.w kc_X3_121) dX3_frosts_32 ?_
      obtain ⟨⟨v2, z1⟩, hq, h⟩ := p_bd h
      dsimp only at h
      refine w_Vi C hw (As := [.int (-1000005 : Int32)]) (rest := []) (c3_finding l G x m (-1000005 : Int32) (v2, z1) hq) kv_X3_finding ml_X3_49 ⟨rfl, rfl⟩ ⟨Nat.le_of_ble_eq_true rfl, Nat.le_of_ble_eq_true rfl⟩ ⟨Nat.zero_le _, Nat.zero_le _⟩ (w_recv C hw (wk_main G x m) rfl) rfl rfl (Nat.le_of_ble_eq_true rfl) (lv_sub hl [] rfl) dX3_frosts_34 (fun H locs hw => ?_)
      replace h := Option.some.inj h
      subst h
      exact w_iret C hw (v := v2) rfl rfl dX3_frosts_37
  · replace h := p_t hc h
    refine lv_aload_n hx hb dX3_frosts_10 rfl (lv_at hl 0 rfl) ?_
    refine lv_ldc hx hb hown (C.w kc_X3_48) dX3_frosts_11 ?_
    obtain ⟨⟨v4, z3⟩, hq, h⟩ := p_bd h
    dsimp only at h
    refine w_Vi C hw (As := [.int (-1000001 : Int32)]) (rest := []) (c3_finding l G x m (-1000001 : Int32) (v4, z3) hq) kv_X3_finding ml_X3_49 ⟨rfl, rfl⟩ ⟨Nat.le_of_ble_eq_true rfl, Nat.le_of_ble_eq_true rfl⟩ ⟨Nat.zero_le _, Nat.zero_le _⟩ (w_recv C hw (wk_main G x m) rfl) rfl rfl (Nat.le_of_ble_eq_true rfl) (lv_sub hl [] rfl) dX3_frosts_13 (fun H locs hw => ?_)
    replace h := Option.some.inj h
    subst h
    exact w_iret C hw (v := v4) rfl rfl dX3_frosts_16

def f3_commonWithTen_b23  (k3 : Int32 → Int32 → Option (Int32)) (b0 : Int32) (b1 : Int32) : Option (Int32) :=
  k3 b0 (b1 + (-1 : Int32))
def f3_commonWithTen_L3   : Nat → Int32 → Int32 → Option (Int32)
  | 0, _, _ => none
  | n + 1, b0, b1 =>
    if b1 ≤ (1 : Int32) then
      some (1 : Int32)
    else
      if b1 = 0 then none else
      if (b0 - b0 / b1 * b1) = 0 then
        if b1 = 0 then none else
        if ((10 : Int32) - (10 : Int32) / b1 * b1) = 0 then
          some b1
        else
          f3_commonWithTen_b23 (f3_commonWithTen_L3 n) b0 b1
      else
        f3_commonWithTen_b23 (f3_commonWithTen_L3 n) b0 b1
theorem f3_commonWithTen_L3_0   (b0 : Int32) (b1 : Int32) : f3_commonWithTen_L3  0 b0 b1 = none := rfl
theorem f3_commonWithTen_L3_s   (n : Nat) (b0 : Int32) (b1 : Int32) : f3_commonWithTen_L3  (n + 1) b0 b1 =
    if b1 ≤ (1 : Int32) then
      some (1 : Int32)
    else
      if b1 = 0 then none else
      if (b0 - b0 / b1 * b1) = 0 then
        if b1 = 0 then none else
        if ((10 : Int32) - (10 : Int32) / b1 * b1) = 0 then
          some b1
        else
          f3_commonWithTen_b23 (f3_commonWithTen_L3 n) b0 b1
      else
        f3_commonWithTen_b23 (f3_commonWithTen_L3 n) b0 b1 := rfl
def f3_commonWithTen  (a1 : Int32) : Option (Int32) :=
  f3_commonWithTen_L3 fu a1 (10 : Int32)
set_option maxHeartbeats 4000000 in
set_option maxRecDepth 100000 in
theorem c3_commonWithTen (l : Launch) (G : GT)  (x m : St) (a1 : Int32) (r : Int32) (h : f3_commonWithTen a1 = some r) : Mt l yX3_commonWithTen cX3_commonWithTen 2 (some .int) (rmF 0 0) G x m [.int a1] (some (.int r)) x m := by
  refine Mt.of (by decide) (Nat.le_of_ble_eq_true rfl) ?_
  intro p e s mm args below meth c C ls hl hw
  have hx := C.1
  have hb := C.2.1
  have hown := C.2.2.2.2.1
  replace hl : lv_has ls 2 [(0, .int a1)] := hl
  have L3 : ∀ (n3 : Nat) (b0 : Int32) (b1 : Int32) (H : Heap) (locs : List Loc) (ls : Array Slot), lv_has ls 2 [(0, .int b0), (1, .int b1)] → Wd G s x m H locs → f3_commonWithTen_L3 n3 b0 b1 = some r → W p l e (rmF 0 0) s mm args below meth c H locs 0 0 (QE below G (some (.int r)) x m args s) (F0 mm 3 ls []) := by
    intro n3
    induction n3 with
    | zero =>
      intro b0 b1  H locs ls hl hw h
      rw [f3_commonWithTen_L3_0] at h
      exact absurd h.symm (Option.some_ne_none _)
    | succ n3 ih3 =>
      have B23 : ∀ (b0 : Int32) (b1 : Int32) (H : Heap) (locs : List Loc) (ls : Array Slot), lv_has ls 2 [(0, .int b0), (1, .int b1)] → Wd G s x m H locs → f3_commonWithTen_b23 (f3_commonWithTen_L3 n3) b0 b1 = some r → W p l e (rmF 0 0) s mm args below meth c H locs 0 0 (QE below G (some (.int r)) x m args s) (F0 mm 23 ls []) := by
        intro b0 b1  H locs ls hl hw h
        unfold f3_commonWithTen_b23 at h
        refine lv_iinc (v := (b1 + (-1 : Int32))) (lv' := [(1, .int (b1 + (-1 : Int32))), (0, .int b0)]) hx hb dX3_commonWithTen_23 hl (k := 1) rfl rfl (by decide) rfl (fun ls hl => ?_)
        refine lv_goto (tgt := 3) hx hb dX3_commonWithTen_26 (by decide) ?_
        exact ih3 b0 (b1 + (-1 : Int32)) _ _ _ (lv_sub hl [1, 0] rfl) hw h
      intro b0 b1  H locs ls hl hw h
      rw [f3_commonWithTen_L3_s] at h
      refine lv_iload_n hx hb dX3_commonWithTen_3 rfl (lv_at hl 1 rfl) ?_
      refine lv_iconst (v := (1 : Int32)) hx hb dX3_commonWithTen_4 (by decide) ?_
      refine lv_icmp_le (tgt := 29) hx hb dX3_commonWithTen_5 (by decide) (fun hc => ?_) (fun hc => ?_)
      · replace h := p_t hc h
        refine lv_iconst (v := (1 : Int32)) hx hb dX3_commonWithTen_29 (by decide) ?_
        replace h := Option.some.inj h
        subst h
        exact w_iret C hw (v := (1 : Int32)) rfl rfl dX3_commonWithTen_30
      · replace h := p_f hc h
        refine lv_iload_n hx hb dX3_commonWithTen_8 rfl (lv_at hl 0 rfl) ?_
        refine lv_iload_n hx hb dX3_commonWithTen_9 rfl (lv_at hl 1 rfl) ?_
        obtain ⟨hq, h⟩ := p_if h
        refine lv_irem hx hb dX3_commonWithTen_10 hq ?_
        refine lv_if_ne (tgt := 23) hx hb dX3_commonWithTen_11 (by decide) (fun hc => ?_) (fun hc => ?_)
        · replace h := p_f hc h
          exact B23 b0 b1 _ _ _ (lv_sub hl [0, 1] rfl) hw h
        · replace h := p_t hc h
          refine lv_bipush (v := (10 : Int32)) hx hb dX3_commonWithTen_14 (by decide) ?_
          refine lv_iload_n hx hb dX3_commonWithTen_16 rfl (lv_at hl 1 rfl) ?_
          obtain ⟨hq, h⟩ := p_if h
          refine lv_irem hx hb dX3_commonWithTen_17 hq ?_
          refine lv_if_ne (tgt := 23) hx hb dX3_commonWithTen_18 (by decide) (fun hc => ?_) (fun hc => ?_)
          · replace h := p_f hc h
            exact B23 b0 b1 _ _ _ (lv_sub hl [0, 1] rfl) hw h
          · replace h := p_t hc h
            refine lv_iload_n hx hb dX3_commonWithTen_21 rfl (lv_at hl 1 rfl) ?_
            replace h := Option.some.inj h
            subst h
            exact w_iret C hw (v := b1) rfl rfl dX3_commonWithTen_22
  unfold f3_commonWithTen at h
  refine lv_bipush (v := (10 : Int32)) hx hb dX3_commonWithTen_0 (by decide) ?_
  refine lv_istore_n (lv' := [(1, .int (10 : Int32)), (0, .int a1)]) hx hb dX3_commonWithTen_2 rfl hl (by decide) rfl (fun ls hl => ?_)
  exact L3 fu a1 (10 : Int32) _ _ _ (lv_sub hl [1, 0] rfl) hw h

def f3_odds_L85   : Nat → Int32 → Int32 → Int64 → Int32 → St → Option (Int64 × St)
  | 0, _, _, _, _, _ => none
  | n + 1, b1, b6, b7, b9, x =>
    if b1 ≤ b9 then
      some (b7, x)
    else
      (f3_odds_L85 n) b1 b6 (b7 * (b6.toInt64)) (b9 + (1 : Int32)) x
theorem f3_odds_L85_0   (b1 : Int32) (b6 : Int32) (b7 : Int64) (b9 : Int32) (x : St) : f3_odds_L85  0 b1 b6 b7 b9 x = none := rfl
theorem f3_odds_L85_s   (n : Nat) (b1 : Int32) (b6 : Int32) (b7 : Int64) (b9 : Int32) (x : St) : f3_odds_L85  (n + 1) b1 b6 b7 b9 x =
    if b1 ≤ b9 then
      some (b7, x)
    else
      (f3_odds_L85 n) b1 b6 (b7 * (b6.toInt64)) (b9 + (1 : Int32)) x := rfl
def f3_odds_b77   (b1 : Int32) (w0 : Int32) (x : St) : Option (Int64 × St) :=
  f3_odds_L85 fu b1 w0 (1 : Int64) (0 : Int32) x
def f3_odds_b50   (b1 : Int32) (b2 : Int32) (w0 : Int32) (x : St) : Option (Int64 × St) :=
  (f3_commonWithTen ((10 : Int32) - b2)).bind fun v3 =>
  if v3 ≤ (1 : Int32) then
    f3_odds_b77 b1 w0 x
  else
    if v3 = 0 then none else
    f3_odds_b77 b1 (w0 / v3) x
def f3_odds_b29    (x : St) : Option (Int64 × St) :=
  (f3_finding (-1000001 : Int32) x).bind fun q => match q with
  | (v2, z1) =>
    some ((v2.toInt64), z1)
def f3_odds  (a1 : Int32) (a2 : Int32) (a3 : Int32) (x : St) : Option (Int64 × St) :=
  if (f3_isWithin a1 (0 : Int32) (18 : Int32)) = 0 then
    f3_odds_b29 x
  else
    if (f3_isWithin a2 (0 : Int32) (10 : Int32)) = 0 then
      f3_odds_b29 x
    else
      if (f3_isWithin a3 (0 : Int32) (1 : Int32)) = 0 then
        f3_odds_b29 x
      else
        if a3 = 0 then
          f3_odds_b50 a1 a2 ((10 : Int32) - a2) x
        else
          f3_odds_b50 a1 a2 (10 : Int32) x
set_option maxHeartbeats 4000000 in
set_option maxRecDepth 100000 in
theorem c3_odds (l : Launch) (G : GT)  (x m : St) (a1 : Int32) (a2 : Int32) (a3 : Int32) (r : Int64 × St) (h : f3_odds a1 a2 a3 x = some r) : Mt l yX3_odds cX3_odds 10 (some .long) (rmF 1 22) G x m [.ref (gq G 0), .int a1, .int a2, .int a3] (some (.long r.1)) r.2 m := by
  refine Mt.of (by decide) (Nat.le_of_ble_eq_true rfl) ?_
  intro p e s mm args below meth c C ls hl hw
  have hx := C.1
  have hb := C.2.1
  have hown := C.2.2.2.2.1
  replace hl : lv_has ls 10 [(0, .ref (gq G 0)), (1, .int a1), (2, .int a2), (3, .int a3)] := hl
  have L85 : ∀ (n85 : Nat) (b1 : Int32) (b6 : Int32) (b7 : Int64) (b9 : Int32) (x : St) (H : Heap) (locs : List Loc) (ls : Array Slot), lv_has ls 10 [(1, .int b1), (6, .int b6), (7, .long b7), (9, .int b9)] → Wd G s x m H locs → f3_odds_L85 n85 b1 b6 b7 b9 x = some r → W p l e (rmF 1 22) s mm args below meth c H locs 0 0 (QE below G (some (.long r.1)) r.2 m args s) (F0 mm 85 ls []) := by
    intro n85
    induction n85 with
    | zero =>
      intro b1 b6 b7 b9 x H locs ls hl hw h
      rw [f3_odds_L85_0] at h
      exact absurd h.symm (Option.some_ne_none _)
    | succ n85 ih85 =>
      intro b1 b6 b7 b9 x H locs ls hl hw h
      rw [f3_odds_L85_s] at h
      refine lv_iload hx hb dX3_odds_85 (lv_at hl 3 rfl) ?_
      refine lv_iload_n hx hb dX3_odds_87 rfl (lv_at hl 0 rfl) ?_
      refine lv_icmp_ge (tgt := 105) hx hb dX3_odds_88 (by decide) (fun hc => ?_) (fun hc => ?_)
      · replace h := p_t hc h
        refine lv_lload hx hb dX3_odds_105 (lv_at hl 2 rfl) ?_
        replace h := Option.some.inj h
        subst h
        exact w_lret C hw (v := b7) rfl dX3_odds_107
      · replace h := p_f hc h
        refine lv_lload hx hb dX3_odds_91 (lv_at hl 2 rfl) ?_
        refine lv_iload hx hb dX3_odds_93 (lv_at hl 1 rfl) ?_
        refine lv_i2l hx hb dX3_odds_95 rfl ?_
        refine lv_lmul hx hb dX3_odds_96 ?_
        refine lv_lstore (lv' := [(7, .long (b7 * (b6.toInt64))), (1, .int b1), (6, .int b6), (9, .int b9)]) hx hb dX3_odds_97 hl (by decide) rfl (fun ls hl => ?_)
        refine lv_iinc (v := (b9 + (1 : Int32))) (lv' := [(9, .int (b9 + (1 : Int32))), (7, .long (b7 * (b6.toInt64))), (1, .int b1), (6, .int b6)]) hx hb dX3_odds_99 hl (k := 3) rfl rfl (by decide) rfl (fun ls hl => ?_)
        refine lv_goto (tgt := 85) hx hb dX3_odds_102 (by decide) ?_
        exact ih85 b1 b6 (b7 * (b6.toInt64)) (b9 + (1 : Int32)) x _ _ _ (lv_sub hl [2, 3, 1, 0] rfl) hw h
  have B77 : ∀ (b1 : Int32) (w0 : Int32) (x : St) (H : Heap) (locs : List Loc) (ls : Array Slot), lv_has ls 10 [(1, .int b1)] → Wd G s x m H locs → f3_odds_b77 b1 w0 x = some r → W p l e (rmF 1 22) s mm args below meth c H locs 0 0 (QE below G (some (.long r.1)) r.2 m args s) (F0 mm 77 ls [.int w0]) := by
    intro b1 w0 x H locs ls hl hw h
    unfold f3_odds_b77 at h
    refine lv_istore (lv' := [(6, .int w0), (1, .int b1)]) hx hb dX3_odds_77 hl (by decide) rfl (fun ls hl => ?_)
    refine lv_lconst (v := (1 : Int64)) hx hb dX3_odds_79 (by decide) ?_
    refine lv_lstore (lv' := [(7, .long (1 : Int64)), (6, .int w0), (1, .int b1)]) hx hb dX3_odds_80 hl (by decide) rfl (fun ls hl => ?_)
    refine lv_iconst (v := (0 : Int32)) hx hb dX3_odds_82 (by decide) ?_
    refine lv_istore (lv' := [(9, .int (0 : Int32)), (7, .long (1 : Int64)), (6, .int w0), (1, .int b1)]) hx hb dX3_odds_83 hl (by decide) rfl (fun ls hl => ?_)
    exact L85 fu b1 w0 (1 : Int64) (0 : Int32) x _ _ _ (lv_sub hl [3, 2, 1, 0] rfl) hw h
  have B50 : ∀ (b1 : Int32) (b2 : Int32) (w0 : Int32) (x : St) (H : Heap) (locs : List Loc) (ls : Array Slot), lv_has ls 10 [(1, .int b1), (2, .int b2)] → Wd G s x m H locs → f3_odds_b50 b1 b2 w0 x = some r → W p l e (rmF 1 22) s mm args below meth c H locs 0 0 (QE below G (some (.long r.1)) r.2 m args s) (F0 mm 50 ls [.int w0]) := by
    intro b1 b2 w0 x H locs ls hl hw h
    unfold f3_odds_b50 at h
    refine lv_istore (lv' := [(4, .int w0), (1, .int b1), (2, .int b2)]) hx hb dX3_odds_50 hl (by decide) rfl (fun ls hl => ?_)
    refine lv_bipush (v := (10 : Int32)) hx hb dX3_odds_52 (by decide) ?_
    refine lv_iload_n hx hb dX3_odds_54 rfl (lv_at hl 2 rfl) ?_
    refine lv_isub hx hb dX3_odds_55 ?_
    obtain ⟨v3, hq, h⟩ := p_bd h
    refine w_Si C hw (As := [.int ((10 : Int32) - b2)]) (rest := []) (c3_commonWithTen l G x m ((10 : Int32) - b2) v3 hq) ks_X3_commonWithTen ml_X3_208 ⟨rfl, rfl⟩ ⟨Nat.le_of_ble_eq_true rfl, Nat.le_of_ble_eq_true rfl⟩ ⟨Nat.zero_le _, Nat.zero_le _⟩ rfl rfl (Nat.le_of_ble_eq_true rfl) (lv_sub hl [] rfl) dX3_odds_56 (fun H locs hw => ?_)
    refine lv_istore (lv' := [(5, .int v3), (4, .int w0), (1, .int b1), (2, .int b2)]) hx hb dX3_odds_59 hl (by decide) rfl (fun ls hl => ?_)
    refine lv_iload hx hb dX3_odds_61 (lv_at hl 0 rfl) ?_
    refine lv_iconst (v := (1 : Int32)) hx hb dX3_odds_63 (by decide) ?_
    refine lv_icmp_le (tgt := 75) hx hb dX3_odds_64 (by decide) (fun hc => ?_) (fun hc => ?_)
    · replace h := p_t hc h
      refine lv_iload hx hb dX3_odds_75 (lv_at hl 1 rfl) ?_
      exact B77 b1 w0 x _ _ _ (lv_sub hl [2] rfl) hw h
    · replace h := p_f hc h
      refine lv_iload hx hb dX3_odds_67 (lv_at hl 1 rfl) ?_
      refine lv_iload hx hb dX3_odds_69 (lv_at hl 0 rfl) ?_
      obtain ⟨hq, h⟩ := p_if h
      refine lv_idiv hx hb dX3_odds_71 hq ?_
      refine lv_goto (tgt := 77) hx hb dX3_odds_72 (by decide) ?_
      exact B77 b1 (w0 / v3) x _ _ _ (lv_sub hl [2] rfl) hw h
  have B29 : ∀  (x : St) (H : Heap) (locs : List Loc) (ls : Array Slot), lv_has ls 10 [(0, .ref (gq G 0))] → Wd G s x m H locs → f3_odds_b29 x = some r → W p l e (rmF 1 22) s mm args below meth c H locs 0 0 (QE below G (some (.long r.1)) r.2 m args s) (F0 mm 29 ls []) := by
    intro  x H locs ls hl hw h
    unfold f3_odds_b29 at h
    refine lv_aload_n hx hb dX3_odds_29 rfl (lv_at hl 0 rfl) ?_
    refine lv_ldc hx hb hown (C.w kc_X3_48) dX3_odds_30 ?_
    obtain ⟨⟨v2, z1⟩, hq, h⟩ := p_bd h
    dsimp only at h
    refine w_Vi C hw (As := [.int (-1000001 : Int32)]) (rest := []) (c3_finding l G x m (-1000001 : Int32) (v2, z1) hq) kv_X3_finding ml_X3_49 ⟨rfl, rfl⟩ ⟨Nat.le_of_ble_eq_true rfl, Nat.le_of_ble_eq_true rfl⟩ ⟨Nat.zero_le _, Nat.zero_le _⟩ (w_recv C hw (wk_main G x m) rfl) rfl rfl (Nat.le_of_ble_eq_true rfl) (lv_sub hl [] rfl) dX3_odds_32 (fun H locs hw => ?_)
    refine lv_i2l hx hb dX3_odds_35 rfl ?_
    replace h := Option.some.inj h
    subst h
    exact w_lret C hw (v := (v2.toInt64)) rfl dX3_odds_36
  unfold f3_odds at h
  refine lv_iload_n hx hb dX3_odds_0 rfl (lv_at hl 1 rfl) ?_
  refine lv_iconst (v := (0 : Int32)) hx hb dX3_odds_1 (by decide) ?_
  refine lv_bipush (v := (18 : Int32)) hx hb dX3_odds_2 (by decide) ?_
  refine w_Si C hw (As := [.int a1, .int (0 : Int32), .int (18 : Int32)]) (rest := []) (c3_isWithin l G x m a1 (0 : Int32) (18 : Int32) _ rfl) ks_X3_isWithin ml_X3_44 ⟨rfl, rfl⟩ ⟨Nat.le_of_ble_eq_true rfl, Nat.le_of_ble_eq_true rfl⟩ ⟨Nat.zero_le _, Nat.zero_le _⟩ rfl rfl (Nat.le_of_ble_eq_true rfl) (lv_sub hl [] rfl) dX3_odds_4 (fun H locs hw => ?_)
  refine lv_if_eq (tgt := 29) hx hb dX3_odds_7 (by decide) (fun hc => ?_) (fun hc => ?_)
  · replace h := p_t hc h
    exact B29 x _ _ _ (lv_sub hl [0] rfl) hw h
  · replace h := p_f hc h
    refine lv_iload_n hx hb dX3_odds_10 rfl (lv_at hl 2 rfl) ?_
    refine lv_iconst (v := (0 : Int32)) hx hb dX3_odds_11 (by decide) ?_
    refine lv_bipush (v := (10 : Int32)) hx hb dX3_odds_12 (by decide) ?_
    refine w_Si C hw (As := [.int a2, .int (0 : Int32), .int (10 : Int32)]) (rest := []) (c3_isWithin l G x m a2 (0 : Int32) (10 : Int32) _ rfl) ks_X3_isWithin ml_X3_44 ⟨rfl, rfl⟩ ⟨Nat.le_of_ble_eq_true rfl, Nat.le_of_ble_eq_true rfl⟩ ⟨Nat.zero_le _, Nat.zero_le _⟩ rfl rfl (Nat.le_of_ble_eq_true rfl) (lv_sub hl [] rfl) dX3_odds_14 (fun H locs hw => ?_)
    refine lv_if_eq (tgt := 29) hx hb dX3_odds_17 (by decide) (fun hc => ?_) (fun hc => ?_)
    · replace h := p_t hc h
      exact B29 x _ _ _ (lv_sub hl [0] rfl) hw h
    · replace h := p_f hc h
      refine lv_iload_n hx hb dX3_odds_20 rfl (lv_at hl 3 rfl) ?_
      refine lv_iconst (v := (0 : Int32)) hx hb dX3_odds_21 (by decide) ?_
      refine lv_iconst (v := (1 : Int32)) hx hb dX3_odds_22 (by decide) ?_
      refine w_Si C hw (As := [.int a3, .int (0 : Int32), .int (1 : Int32)]) (rest := []) (c3_isWithin l G x m a3 (0 : Int32) (1 : Int32) _ rfl) ks_X3_isWithin ml_X3_44 ⟨rfl, rfl⟩ ⟨Nat.le_of_ble_eq_true rfl, Nat.le_of_ble_eq_true rfl⟩ ⟨Nat.zero_le _, Nat.zero_le _⟩ rfl rfl (Nat.le_of_ble_eq_true rfl) (lv_sub hl [] rfl) dX3_odds_23 (fun H locs hw => ?_)
      refine lv_if_ne (tgt := 37) hx hb dX3_odds_26 (by decide) (fun hc => ?_) (fun hc => ?_)
      · replace h := p_f hc h
        refine lv_iload_n hx hb dX3_odds_37 rfl (lv_at hl 3 rfl) ?_
        refine lv_if_ne (tgt := 48) hx hb dX3_odds_38 (by decide) (fun hc => ?_) (fun hc => ?_)
        · replace h := p_f hc h
          refine lv_bipush (v := (10 : Int32)) hx hb dX3_odds_48 (by decide) ?_
          exact B50 a1 a2 (10 : Int32) x _ _ _ (lv_sub hl [1, 2] rfl) hw h
        · replace h := p_t hc h
          refine lv_bipush (v := (10 : Int32)) hx hb dX3_odds_41 (by decide) ?_
          refine lv_iload_n hx hb dX3_odds_43 rfl (lv_at hl 2 rfl) ?_
          refine lv_isub hx hb dX3_odds_44 ?_
          refine lv_goto (tgt := 50) hx hb dX3_odds_45 (by decide) ?_
          exact B50 a1 a2 ((10 : Int32) - a2) x _ _ _ (lv_sub hl [1, 2] rfl) hw h
      · replace h := p_t hc h
        exact B29 x _ _ _ (lv_sub hl [0] rfl) hw h

def f3_seed  (a1 : Int32) (x : St) : Int32 × St :=
  ((x (1 + 4 * 0) 7), (up x (1 + 4 * 0) 7 a1))
set_option maxHeartbeats 4000000 in
set_option maxRecDepth 100000 in
theorem c3_seed (l : Launch) (G : GT)  (x m : St) (a1 : Int32) (r : Int32 × St) (h : f3_seed a1 x = r) : Mt l yX3_seed cX3_seed 3 (some .int) (rmF 0 0) G x m [.ref (gq G 0), .int a1] (some (.int r.1)) r.2 m := by
  refine Mt.of (by decide) (Nat.le_of_ble_eq_true rfl) ?_
  intro p e s mm args below meth c C ls hl hw
  have hx := C.1
  have hb := C.2.1
  have hown := C.2.2.2.2.1
  replace hl : lv_has ls 3 [(0, .ref (gq G 0)), (1, .int a1)] := hl
  unfold f3_seed at h
  refine lv_aload_n hx hb dX3_seed_0 rfl (lv_at hl 0 rfl) ?_
  refine w_get C hw (v := .ref (gq G (1 + 4 * 0))) (k := 0) (wk_main G x m) rfl it_3 (by decide) fl_X3_10 rfl dX3_seed_1 ?_
  refine w_getN C hw (v := .int (x (1 + 4 * 0) 7)) (k := 7) (wk_town G x m (by decide)) rfl it_2 (by decide) (List.mem_of_getElem? (i := 6) rfl) rfl dX3_seed_4 ?_
  refine lv_istore_n (lv' := [(2, .int (x (1 + 4 * 0) 7)), (0, .ref (gq G 0)), (1, .int a1)]) hx hb dX3_seed_7 rfl hl (by decide) rfl (fun ls hl => ?_)
  refine lv_aload_n hx hb dX3_seed_8 rfl (lv_at hl 1 rfl) ?_
  refine w_get C hw (v := .ref (gq G (1 + 4 * 0))) (k := 0) (wk_main G x m) rfl it_3 (by decide) fl_X3_10 rfl dX3_seed_9 ?_
  refine lv_iload_n hx hb dX3_seed_12 rfl (lv_at hl 2 rfl) ?_
  refine w_putN C hw (k := 7) tyX2 tyX2_ok nmX2 (wk_town G x m (by decide)) rfl it_2 (by decide) (List.mem_of_getElem? (i := 6) rfl) rfl (ty := .int) rfl rfl rfl (Nat.le_of_ble_eq_true rfl) (ws_town G x m (by decide) 7 (by decide) _) dX3_seed_13 (fun H locs hw => ?_)
  refine lv_iload_n hx hb dX3_seed_16 rfl (lv_at hl 0 rfl) ?_
  subst h
  exact w_iret C hw (v := (x (1 + 4 * 0) 7)) rfl rfl dX3_seed_17

def f3_feed_L41   : Nat → Int32 → Int32 → St → Option (Int32 × St)
  | 0, _, _, _ => none
  | n + 1, b1, b3, x =>
    if b3 < 0 then
      some ((x 13 1), x)
    else
      (f1_append (((b1.toUInt32 >>> (((8 : Int32) * b3).toUInt32 &&& Int32.toUInt32 31)).toInt32) &&& (255 : Int32)) x).bind fun z5 =>
      (f3_feed_L41 n) b1 (b3 + (-1 : Int32)) z5
theorem f3_feed_L41_0   (b1 : Int32) (b3 : Int32) (x : St) : f3_feed_L41  0 b1 b3 x = none := rfl
theorem f3_feed_L41_s   (n : Nat) (b1 : Int32) (b3 : Int32) (x : St) : f3_feed_L41  (n + 1) b1 b3 x =
    if b3 < 0 then
      some ((x 13 1), x)
    else
      (f1_append (((b1.toUInt32 >>> (((8 : Int32) * b3).toUInt32 &&& Int32.toUInt32 31)).toInt32) &&& (255 : Int32)) x).bind fun z5 =>
      (f3_feed_L41 n) b1 (b3 + (-1 : Int32)) z5 := rfl
def f3_feed  (a1 : Int32) (a2 : Int32) (x : St) : Option (Int32 × St) :=
  if (f3_isWithin a2 (1 : Int32) (4 : Int32)) = 0 then
    (f3_finding (-1000001 : Int32) x).bind fun q => match q with
    | (v4, z3) =>
      some (v4, z3)
  else
    if ((x 13 1) + a2) ≤ (120 : Int32) then
      f3_feed_L41 fu a1 (a2 - (1 : Int32)) x
    else
      (f3_finding (-1000002 : Int32) x).bind fun q => match q with
      | (v2, z1) =>
        some (v2, z1)
set_option maxHeartbeats 4000000 in
set_option maxRecDepth 100000 in
theorem c3_feed (l : Launch) (G : GT)  (x m : St) (a1 : Int32) (a2 : Int32) (r : Int32 × St) (h : f3_feed a1 a2 x = some r) : Mt l yX3_feed cX3_feed 4 (some .int) (rmF 1 22) G x m [.ref (gq G 0), .int a1, .int a2] (some (.int r.1)) r.2 m := by
  refine Mt.of (by decide) (Nat.le_of_ble_eq_true rfl) ?_
  intro p e s mm args below meth c C ls hl hw
  have hx := C.1
  have hb := C.2.1
  have hown := C.2.2.2.2.1
  replace hl : lv_has ls 4 [(0, .ref (gq G 0)), (1, .int a1), (2, .int a2)] := hl
  have L41 : ∀ (n41 : Nat) (b1 : Int32) (b3 : Int32) (x : St) (H : Heap) (locs : List Loc) (ls : Array Slot), lv_has ls 4 [(0, .ref (gq G 0)), (1, .int b1), (3, .int b3)] → Wd G s x m H locs → f3_feed_L41 n41 b1 b3 x = some r → W p l e (rmF 1 22) s mm args below meth c H locs 0 0 (QE below G (some (.int r.1)) r.2 m args s) (F0 mm 41 ls []) := by
    intro n41
    induction n41 with
    | zero =>
      intro b1 b3 x H locs ls hl hw h
      rw [f3_feed_L41_0] at h
      exact absurd h.symm (Option.some_ne_none _)
    | succ n41 ih41 =>
      intro b1 b3 x H locs ls hl hw h
      rw [f3_feed_L41_s] at h
      refine lv_iload_n hx hb dX3_feed_41 rfl (lv_at hl 2 rfl) ?_
      refine lv_if_lt (tgt := 68) hx hb dX3_feed_42 (by decide) (fun hc => ?_) (fun hc => ?_)
      · replace h := p_t hc h
        refine lv_aload_n hx hb dX3_feed_68 rfl (lv_at hl 0 rfl) ?_
        refine w_get C hw (v := .ref (gq G 13)) (k := 4) (wk_main G x m) rfl it_3 (by decide) fl_X3_25 rfl dX3_feed_69 ?_
        refine w_getN C hw (v := .int (x 13 1)) (k := 1) (wk_tape G x m) rfl it_1 (by decide) (List.mem_of_getElem? (i := 7) rfl) rfl dX3_feed_72 ?_
        replace h := Option.some.inj h
        subst h
        exact w_iret C hw (v := (x 13 1)) rfl rfl dX3_feed_75
      · replace h := p_f hc h
        refine lv_aload_n hx hb dX3_feed_45 rfl (lv_at hl 0 rfl) ?_
        refine w_get C hw (v := .ref (gq G 13)) (k := 4) (wk_main G x m) rfl it_3 (by decide) fl_X3_25 rfl dX3_feed_46 ?_
        refine lv_iload_n hx hb dX3_feed_49 rfl (lv_at hl 1 rfl) ?_
        refine lv_bipush (v := (8 : Int32)) hx hb dX3_feed_50 (by decide) ?_
        refine lv_iload_n hx hb dX3_feed_52 rfl (lv_at hl 2 rfl) ?_
        refine lv_imul hx hb dX3_feed_53 ?_
        refine lv_iushr hx hb dX3_feed_54 rfl ?_
        refine lv_sipush (v := (255 : Int32)) hx hb dX3_feed_55 (by decide) ?_
        refine lv_iand hx hb dX3_feed_58 ?_
        obtain ⟨z5, hq, h⟩ := p_bd h
        refine w_Vv C hw (As := [.int (((b1.toUInt32 >>> (((8 : Int32) * b3).toUInt32 &&& Int32.toUInt32 31)).toInt32) &&& (255 : Int32))]) (rest := []) (c1_append l G x m (((b1.toUInt32 >>> (((8 : Int32) * b3).toUInt32 &&& Int32.toUInt32 31)).toInt32) &&& (255 : Int32)) z5 hq) kv_X1_append ml_X3_215 ⟨rfl, rfl⟩ ⟨Nat.le_of_ble_eq_true rfl, Nat.le_of_ble_eq_true rfl⟩ ⟨Nat.zero_le _, Nat.zero_le _⟩ (w_recv C hw (wk_tape G x m) rfl) rfl rfl (Nat.le_of_ble_eq_true rfl) (lv_sub hl [] rfl) dX3_feed_59 (fun H locs hw => ?_)
        refine lv_iinc (v := (b3 + (-1 : Int32))) (lv' := [(3, .int (b3 + (-1 : Int32))), (0, .ref (gq G 0)), (1, .int b1)]) hx hb dX3_feed_62 hl (k := 2) rfl rfl (by decide) rfl (fun ls hl => ?_)
        refine lv_goto (tgt := 41) hx hb dX3_feed_65 (by decide) ?_
        exact ih41 b1 (b3 + (-1 : Int32)) z5 _ _ _ (lv_sub hl [1, 2, 0] rfl) hw h
  unfold f3_feed at h
  refine lv_iload_n hx hb dX3_feed_0 rfl (lv_at hl 2 rfl) ?_
  refine lv_iconst (v := (1 : Int32)) hx hb dX3_feed_1 (by decide) ?_
  refine lv_iconst (v := (4 : Int32)) hx hb dX3_feed_2 (by decide) ?_
  refine w_Si C hw (As := [.int a2, .int (1 : Int32), .int (4 : Int32)]) (rest := []) (c3_isWithin l G x m a2 (1 : Int32) (4 : Int32) _ rfl) ks_X3_isWithin ml_X3_44 ⟨rfl, rfl⟩ ⟨Nat.le_of_ble_eq_true rfl, Nat.le_of_ble_eq_true rfl⟩ ⟨Nat.zero_le _, Nat.zero_le _⟩ rfl rfl (Nat.le_of_ble_eq_true rfl) (lv_sub hl [] rfl) dX3_feed_3 (fun H locs hw => ?_)
  refine lv_if_ne (tgt := 16) hx hb dX3_feed_6 (by decide) (fun hc => ?_) (fun hc => ?_)
  · replace h := p_f hc h
    refine lv_aload_n hx hb dX3_feed_16 rfl (lv_at hl 0 rfl) ?_
    refine w_get C hw (v := .ref (gq G 13)) (k := 4) (wk_main G x m) rfl it_3 (by decide) fl_X3_25 rfl dX3_feed_17 ?_
    refine w_getN C hw (v := .int (x 13 1)) (k := 1) (wk_tape G x m) rfl it_1 (by decide) (List.mem_of_getElem? (i := 7) rfl) rfl dX3_feed_20 ?_
    refine lv_iload_n hx hb dX3_feed_23 rfl (lv_at hl 2 rfl) ?_
    refine lv_iadd hx hb dX3_feed_24 ?_
    refine lv_bipush (v := (120 : Int32)) hx hb dX3_feed_25 (by decide) ?_
    refine lv_icmp_le (tgt := 37) hx hb dX3_feed_27 (by decide) (fun hc => ?_) (fun hc => ?_)
    · replace h := p_t hc h
      refine lv_iload_n hx hb dX3_feed_37 rfl (lv_at hl 2 rfl) ?_
      refine lv_iconst (v := (1 : Int32)) hx hb dX3_feed_38 (by decide) ?_
      refine lv_isub hx hb dX3_feed_39 ?_
      refine lv_istore_n (lv' := [(3, .int (a2 - (1 : Int32))), (0, .ref (gq G 0)), (1, .int a1), (2, .int a2)]) hx hb dX3_feed_40 rfl hl (by decide) rfl (fun ls hl => ?_)
      exact L41 fu a1 (a2 - (1 : Int32)) x _ _ _ (lv_sub hl [1, 2, 0] rfl) hw h
    · replace h := p_f hc h
      refine lv_aload_n hx hb dX3_feed_30 rfl (lv_at hl 0 rfl) ?_
      refine lv_ldc hx hb hown (C.w kc_X3_84) dX3_feed_31 ?_
      obtain ⟨⟨v2, z1⟩, hq, h⟩ := p_bd h
      dsimp only at h
      refine w_Vi C hw (As := [.int (-1000002 : Int32)]) (rest := []) (c3_finding l G x m (-1000002 : Int32) (v2, z1) hq) kv_X3_finding ml_X3_49 ⟨rfl, rfl⟩ ⟨Nat.le_of_ble_eq_true rfl, Nat.le_of_ble_eq_true rfl⟩ ⟨Nat.zero_le _, Nat.zero_le _⟩ (w_recv C hw (wk_main G x m) rfl) rfl rfl (Nat.le_of_ble_eq_true rfl) (lv_sub hl [] rfl) dX3_feed_33 (fun H locs hw => ?_)
      replace h := Option.some.inj h
      subst h
      exact w_iret C hw (v := v2) rfl rfl dX3_feed_36
  · replace h := p_t hc h
    refine lv_aload_n hx hb dX3_feed_9 rfl (lv_at hl 0 rfl) ?_
    refine lv_ldc hx hb hown (C.w kc_X3_48) dX3_feed_10 ?_
    obtain ⟨⟨v4, z3⟩, hq, h⟩ := p_bd h
    dsimp only at h
    refine w_Vi C hw (As := [.int (-1000001 : Int32)]) (rest := []) (c3_finding l G x m (-1000001 : Int32) (v4, z3) hq) kv_X3_finding ml_X3_49 ⟨rfl, rfl⟩ ⟨Nat.le_of_ble_eq_true rfl, Nat.le_of_ble_eq_true rfl⟩ ⟨Nat.zero_le _, Nat.zero_le _⟩ (w_recv C hw (wk_main G x m) rfl) rfl rfl (Nat.le_of_ble_eq_true rfl) (lv_sub hl [] rfl) dX3_feed_12 (fun H locs hw => ?_)
    replace h := Option.some.inj h
    subst h
    exact w_iret C hw (v := v4) rfl rfl dX3_feed_15

def f3_wipe   (x : St) : Int32 × St :=
  ((x 13 1), (f1_clear x))
set_option maxHeartbeats 4000000 in
set_option maxRecDepth 100000 in
theorem c3_wipe (l : Launch) (G : GT)  (x m : St)  (r : Int32 × St) (h : f3_wipe x = r) : Mt l yX3_wipe cX3_wipe 2 (some .int) (rmF 1 20) G x m [.ref (gq G 0)] (some (.int r.1)) r.2 m := by
  refine Mt.of (by decide) (Nat.le_of_ble_eq_true rfl) ?_
  intro p e s mm args below meth c C ls hl hw
  have hx := C.1
  have hb := C.2.1
  have hown := C.2.2.2.2.1
  replace hl : lv_has ls 2 [(0, .ref (gq G 0))] := hl
  unfold f3_wipe at h
  refine lv_aload_n hx hb dX3_wipe_0 rfl (lv_at hl 0 rfl) ?_
  refine w_get C hw (v := .ref (gq G 13)) (k := 4) (wk_main G x m) rfl it_3 (by decide) fl_X3_25 rfl dX3_wipe_1 ?_
  refine w_getN C hw (v := .int (x 13 1)) (k := 1) (wk_tape G x m) rfl it_1 (by decide) (List.mem_of_getElem? (i := 7) rfl) rfl dX3_wipe_4 ?_
  refine lv_istore_n (lv' := [(1, .int (x 13 1)), (0, .ref (gq G 0))]) hx hb dX3_wipe_7 rfl hl (by decide) rfl (fun ls hl => ?_)
  refine lv_aload_n hx hb dX3_wipe_8 rfl (lv_at hl 1 rfl) ?_
  refine w_get C hw (v := .ref (gq G 13)) (k := 4) (wk_main G x m) rfl it_3 (by decide) fl_X3_25 rfl dX3_wipe_9 ?_
  refine w_Vv C hw (As := []) (rest := []) (c1_clear l G x m _ rfl) kv_X1_clear ml_X3_218 ⟨rfl, rfl⟩ ⟨Nat.le_of_ble_eq_true rfl, Nat.le_of_ble_eq_true rfl⟩ ⟨Nat.zero_le _, Nat.zero_le _⟩ (w_recv C hw (wk_tape G x m) rfl) rfl rfl (Nat.le_of_ble_eq_true rfl) (lv_sub hl [] rfl) dX3_wipe_12 (fun H locs hw => ?_)
  refine lv_iload_n hx hb dX3_wipe_15 rfl (lv_at hl 0 rfl) ?_
  subst h
  exact w_iret C hw (v := (x 13 1)) rfl rfl dX3_wipe_16

def f3_text   (x : St) : Option (Int32 × St) :=
  (f2_become 2 0 x).bind fun z1 =>
  (f1_readItems 2 z1).bind fun q => match q with
  | (v3, z2) =>
    if v3 < 0 then
      some (v3, (f1_clear z2))
    else
      (f2_become 0 2 (f1_clear z2)).bind fun z4 =>
      some (v3, z4)
set_option maxHeartbeats 4000000 in
set_option maxRecDepth 100000 in
theorem c3_text (l : Launch) (G : GT)  (x m : St)  (r : Int32 × St) (h : f3_text x = some r) : Mt l yX3_text cX3_text 2 (some .int) (rmF 9 198) G x m [.ref (gq G 0)] (some (.int r.1)) r.2 m := by
  refine Mt.of (by decide) (Nat.le_of_ble_eq_true rfl) ?_
  intro p e s mm args below meth c C ls hl hw
  have hx := C.1
  have hb := C.2.1
  have hown := C.2.2.2.2.1
  replace hl : lv_has ls 2 [(0, .ref (gq G 0))] := hl
  unfold f3_text at h
  refine lv_aload_n hx hb dX3_text_0 rfl (lv_at hl 0 rfl) ?_
  refine w_get C hw (v := .ref (gq G (1 + 4 * 2))) (k := 2) (wk_main G x m) rfl it_3 (by decide) fl_X3_19 rfl dX3_text_1 ?_
  refine lv_aload_n hx hb dX3_text_4 rfl (lv_at hl 0 rfl) ?_
  refine w_get C hw (v := .ref (gq G (1 + 4 * 0))) (k := 0) (wk_main G x m) rfl it_3 (by decide) fl_X3_10 rfl dX3_text_5 ?_
  obtain ⟨z1, hq, h⟩ := p_bd h
  refine w_Vv C hw (As := [.ref (gq G (1 + 4 * 0))]) (rest := []) (c2_become l G 2 (by decide) 0 (by decide) x m z1 hq) kv_X2_become ml_X3_143 ⟨rfl, rfl⟩ ⟨Nat.le_of_ble_eq_true rfl, Nat.le_of_ble_eq_true rfl⟩ ⟨Nat.zero_le _, Nat.zero_le _⟩ (w_recv C hw (wk_town G x m (by decide)) rfl) rfl rfl (Nat.le_of_ble_eq_true rfl) (lv_sub hl [] rfl) dX3_text_8 (fun H locs hw => ?_)
  refine lv_aload_n hx hb dX3_text_11 rfl (lv_at hl 0 rfl) ?_
  refine w_get C hw (v := .ref (gq G 13)) (k := 4) (wk_main G z1 m) rfl it_3 (by decide) fl_X3_25 rfl dX3_text_12 ?_
  refine lv_aload_n hx hb dX3_text_15 rfl (lv_at hl 0 rfl) ?_
  refine w_get C hw (v := .ref (gq G (1 + 4 * 2))) (k := 2) (wk_main G z1 m) rfl it_3 (by decide) fl_X3_19 rfl dX3_text_16 ?_
  obtain ⟨⟨v3, z2⟩, hq, h⟩ := p_bd h
  dsimp only at h
  refine w_Vi C hw (As := [.ref (gq G (1 + 4 * 2))]) (rest := []) (c1_readItems l G 2 (by decide) z1 m (v3, z2) hq) kv_X1_readItems ml_X3_221 ⟨rfl, rfl⟩ ⟨Nat.le_of_ble_eq_true rfl, Nat.le_of_ble_eq_true rfl⟩ ⟨Nat.zero_le _, Nat.zero_le _⟩ (w_recv C hw (wk_tape G z1 m) rfl) rfl rfl (Nat.le_of_ble_eq_true rfl) (lv_sub hl [] rfl) dX3_text_19 (fun H locs hw => ?_)
  refine lv_istore_n (lv' := [(1, .int v3), (0, .ref (gq G 0))]) hx hb dX3_text_22 rfl hl (by decide) rfl (fun ls hl => ?_)
  refine lv_aload_n hx hb dX3_text_23 rfl (lv_at hl 1 rfl) ?_
  refine w_get C hw (v := .ref (gq G 13)) (k := 4) (wk_main G z2 m) rfl it_3 (by decide) fl_X3_25 rfl dX3_text_24 ?_
  refine w_Vv C hw (As := []) (rest := []) (c1_clear l G z2 m _ rfl) kv_X1_clear ml_X3_218 ⟨rfl, rfl⟩ ⟨Nat.le_of_ble_eq_true rfl, Nat.le_of_ble_eq_true rfl⟩ ⟨Nat.zero_le _, Nat.zero_le _⟩ (w_recv C hw (wk_tape G z2 m) rfl) rfl rfl (Nat.le_of_ble_eq_true rfl) (lv_sub hl [] rfl) dX3_text_27 (fun H locs hw => ?_)
  refine lv_iload_n hx hb dX3_text_30 rfl (lv_at hl 0 rfl) ?_
  refine lv_if_lt (tgt := 45) hx hb dX3_text_31 (by decide) (fun hc => ?_) (fun hc => ?_)
  · replace h := p_t hc h
    refine lv_iload_n hx hb dX3_text_45 rfl (lv_at hl 0 rfl) ?_
    replace h := Option.some.inj h
    subst h
    exact w_iret C hw (v := v3) rfl rfl dX3_text_46
  · replace h := p_f hc h
    refine lv_aload_n hx hb dX3_text_34 rfl (lv_at hl 1 rfl) ?_
    refine w_get C hw (v := .ref (gq G (1 + 4 * 0))) (k := 0) (wk_main G (f1_clear z2) m) rfl it_3 (by decide) fl_X3_10 rfl dX3_text_35 ?_
    refine lv_aload_n hx hb dX3_text_38 rfl (lv_at hl 1 rfl) ?_
    refine w_get C hw (v := .ref (gq G (1 + 4 * 2))) (k := 2) (wk_main G (f1_clear z2) m) rfl it_3 (by decide) fl_X3_19 rfl dX3_text_39 ?_
    obtain ⟨z4, hq, h⟩ := p_bd h
    refine w_Vv C hw (As := [.ref (gq G (1 + 4 * 2))]) (rest := []) (c2_become l G 0 (by decide) 2 (by decide) (f1_clear z2) m z4 hq) kv_X2_become ml_X3_143 ⟨rfl, rfl⟩ ⟨Nat.le_of_ble_eq_true rfl, Nat.le_of_ble_eq_true rfl⟩ ⟨Nat.zero_le _, Nat.zero_le _⟩ (w_recv C hw (wk_town G (f1_clear z2) m (by decide)) rfl) rfl rfl (Nat.le_of_ble_eq_true rfl) (lv_sub hl [] rfl) dX3_text_42 (fun H locs hw => ?_)
    refine lv_iload_n hx hb dX3_text_45 rfl (lv_at hl 0 rfl) ?_
    replace h := Option.some.inj h
    subst h
    exact w_iret C hw (v := v3) rfl rfl dX3_text_46

def f3_hold_b33   (b1 : Int32) (b2 : Int32) (x : St) : Option (Int32 × St) :=
  (f2_setSpot 0 b1 b2 x).bind fun z3 =>
  some ((1 : Int32), z3)
def f3_hold_b26    (x : St) : Option (Int32 × St) :=
  (f3_finding (-1000001 : Int32) x).bind fun q => match q with
  | (v2, z1) =>
    some (v2, z1)
def f3_hold  (a1 : Int32) (a2 : Int32) (x : St) : Option (Int32 × St) :=
  if (f3_isWithin a1 (0 : Int32) (9 : Int32)) = 0 then
    f3_hold_b26 x
  else
    if a2 = (-1 : Int32) then
      f3_hold_b33 a1 a2 x
    else
      if (f2_hasWhisper 0 a2 x) = 0 then
        f3_hold_b26 x
      else
        f3_hold_b33 a1 a2 x
set_option maxHeartbeats 4000000 in
set_option maxRecDepth 100000 in
theorem c3_hold (l : Launch) (G : GT)  (x m : St) (a1 : Int32) (a2 : Int32) (r : Int32 × St) (h : f3_hold a1 a2 x = some r) : Mt l yX3_hold cX3_hold 3 (some .int) (rmF 2 44) G x m [.ref (gq G 0), .int a1, .int a2] (some (.int r.1)) r.2 m := by
  refine Mt.of (by decide) (Nat.le_of_ble_eq_true rfl) ?_
  intro p e s mm args below meth c C ls hl hw
  have hx := C.1
  have hb := C.2.1
  have hown := C.2.2.2.2.1
  replace hl : lv_has ls 3 [(0, .ref (gq G 0)), (1, .int a1), (2, .int a2)] := hl
  have B33 : ∀ (b1 : Int32) (b2 : Int32) (x : St) (H : Heap) (locs : List Loc) (ls : Array Slot), lv_has ls 3 [(0, .ref (gq G 0)), (1, .int b1), (2, .int b2)] → Wd G s x m H locs → f3_hold_b33 b1 b2 x = some r → W p l e (rmF 2 44) s mm args below meth c H locs 0 0 (QE below G (some (.int r.1)) r.2 m args s) (F0 mm 33 ls []) := by
    intro b1 b2 x H locs ls hl hw h
    unfold f3_hold_b33 at h
    refine lv_aload_n hx hb dX3_hold_33 rfl (lv_at hl 0 rfl) ?_
    refine w_get C hw (v := .ref (gq G (1 + 4 * 0))) (k := 0) (wk_main G x m) rfl it_3 (by decide) fl_X3_10 rfl dX3_hold_34 ?_
    refine lv_iload_n hx hb dX3_hold_37 rfl (lv_at hl 1 rfl) ?_
    refine lv_iload_n hx hb dX3_hold_38 rfl (lv_at hl 2 rfl) ?_
    obtain ⟨z3, hq, h⟩ := p_bd h
    refine w_Vv C hw (As := [.int b1, .int b2]) (rest := []) (c2_setSpot l G 0 (by decide) x m b1 b2 z3 hq) kv_X2_setSpot ml_X3_225 ⟨rfl, rfl⟩ ⟨Nat.le_of_ble_eq_true rfl, Nat.le_of_ble_eq_true rfl⟩ ⟨Nat.zero_le _, Nat.zero_le _⟩ (w_recv C hw (wk_town G x m (by decide)) rfl) rfl rfl (Nat.le_of_ble_eq_true rfl) (lv_sub hl [] rfl) dX3_hold_39 (fun H locs hw => ?_)
    refine lv_iconst (v := (1 : Int32)) hx hb dX3_hold_42 (by decide) ?_
    replace h := Option.some.inj h
    subst h
    exact w_iret C hw (v := (1 : Int32)) rfl rfl dX3_hold_43
  have B26 : ∀  (x : St) (H : Heap) (locs : List Loc) (ls : Array Slot), lv_has ls 3 [(0, .ref (gq G 0))] → Wd G s x m H locs → f3_hold_b26 x = some r → W p l e (rmF 2 44) s mm args below meth c H locs 0 0 (QE below G (some (.int r.1)) r.2 m args s) (F0 mm 26 ls []) := by
    intro  x H locs ls hl hw h
    unfold f3_hold_b26 at h
    refine lv_aload_n hx hb dX3_hold_26 rfl (lv_at hl 0 rfl) ?_
    refine lv_ldc hx hb hown (C.w kc_X3_48) dX3_hold_27 ?_
    obtain ⟨⟨v2, z1⟩, hq, h⟩ := p_bd h
    dsimp only at h
    refine w_Vi C hw (As := [.int (-1000001 : Int32)]) (rest := []) (c3_finding l G x m (-1000001 : Int32) (v2, z1) hq) kv_X3_finding ml_X3_49 ⟨rfl, rfl⟩ ⟨Nat.le_of_ble_eq_true rfl, Nat.le_of_ble_eq_true rfl⟩ ⟨Nat.zero_le _, Nat.zero_le _⟩ (w_recv C hw (wk_main G x m) rfl) rfl rfl (Nat.le_of_ble_eq_true rfl) (lv_sub hl [] rfl) dX3_hold_29 (fun H locs hw => ?_)
    replace h := Option.some.inj h
    subst h
    exact w_iret C hw (v := v2) rfl rfl dX3_hold_32
  unfold f3_hold at h
  refine lv_iload_n hx hb dX3_hold_0 rfl (lv_at hl 1 rfl) ?_
  refine lv_iconst (v := (0 : Int32)) hx hb dX3_hold_1 (by decide) ?_
  refine lv_bipush (v := (9 : Int32)) hx hb dX3_hold_2 (by decide) ?_
  refine w_Si C hw (As := [.int a1, .int (0 : Int32), .int (9 : Int32)]) (rest := []) (c3_isWithin l G x m a1 (0 : Int32) (9 : Int32) _ rfl) ks_X3_isWithin ml_X3_44 ⟨rfl, rfl⟩ ⟨Nat.le_of_ble_eq_true rfl, Nat.le_of_ble_eq_true rfl⟩ ⟨Nat.zero_le _, Nat.zero_le _⟩ rfl rfl (Nat.le_of_ble_eq_true rfl) (lv_sub hl [] rfl) dX3_hold_4 (fun H locs hw => ?_)
  refine lv_if_eq (tgt := 26) hx hb dX3_hold_7 (by decide) (fun hc => ?_) (fun hc => ?_)
  · replace h := p_t hc h
    exact B26 x _ _ _ (lv_sub hl [0] rfl) hw h
  · replace h := p_f hc h
    refine lv_iload_n hx hb dX3_hold_10 rfl (lv_at hl 2 rfl) ?_
    refine lv_iconst (v := (-1 : Int32)) hx hb dX3_hold_11 (by decide) ?_
    refine lv_icmp_eq (tgt := 33) hx hb dX3_hold_12 (by decide) (fun hc => ?_) (fun hc => ?_)
    · replace h := p_t hc h
      exact B33 a1 a2 x _ _ _ (lv_sub hl [0, 1, 2] rfl) hw h
    · replace h := p_f hc h
      refine lv_aload_n hx hb dX3_hold_15 rfl (lv_at hl 0 rfl) ?_
      refine w_get C hw (v := .ref (gq G (1 + 4 * 0))) (k := 0) (wk_main G x m) rfl it_3 (by decide) fl_X3_10 rfl dX3_hold_16 ?_
      refine lv_iload_n hx hb dX3_hold_19 rfl (lv_at hl 2 rfl) ?_
      refine w_Vi C hw (As := [.int a2]) (rest := []) (c2_hasWhisper l G 0 (by decide) x m a2 _ rfl) kv_X2_hasWhisper ml_X3_89 ⟨rfl, rfl⟩ ⟨Nat.le_of_ble_eq_true rfl, Nat.le_of_ble_eq_true rfl⟩ ⟨Nat.zero_le _, Nat.zero_le _⟩ (w_recv C hw (wk_town G x m (by decide)) rfl) rfl rfl (Nat.le_of_ble_eq_true rfl) (lv_sub hl [] rfl) dX3_hold_20 (fun H locs hw => ?_)
      refine lv_if_ne (tgt := 33) hx hb dX3_hold_23 (by decide) (fun hc => ?_) (fun hc => ?_)
      · replace h := p_f hc h
        exact B33 a1 a2 x _ _ _ (lv_sub hl [0, 1, 2] rfl) hw h
      · replace h := p_t hc h
        exact B26 x _ _ _ (lv_sub hl [0] rfl) hw h

def f3_isUnder_L4   : Nat → Int32 → Int32 → Int32 → St → Option (Int32)
  | 0, _, _, _, _ => none
  | n + 1, b1, b2, b3, x =>
    if (7 : Int32) ≤ b3 then
      some (0 : Int32)
    else
      if b2 < 0 then
        some (0 : Int32)
      else
        if (7 : Int32) ≤ b2 then
          some (0 : Int32)
        else
          if b2 = b1 then
            some (1 : Int32)
          else
            if b2 < 0 ∨ 7 ≤ b2.toNatClampNeg then none else
            (f3_isUnder_L4 n) b1 (tv 3 b2) (b3 + (1 : Int32)) x
theorem f3_isUnder_L4_0   (b1 : Int32) (b2 : Int32) (b3 : Int32) (x : St) : f3_isUnder_L4  0 b1 b2 b3 x = none := rfl
theorem f3_isUnder_L4_s   (n : Nat) (b1 : Int32) (b2 : Int32) (b3 : Int32) (x : St) : f3_isUnder_L4  (n + 1) b1 b2 b3 x =
    if (7 : Int32) ≤ b3 then
      some (0 : Int32)
    else
      if b2 < 0 then
        some (0 : Int32)
      else
        if (7 : Int32) ≤ b2 then
          some (0 : Int32)
        else
          if b2 = b1 then
            some (1 : Int32)
          else
            if b2 < 0 ∨ 7 ≤ b2.toNatClampNeg then none else
            (f3_isUnder_L4 n) b1 (tv 3 b2) (b3 + (1 : Int32)) x := rfl
def f3_isUnder  (a1 : Int32) (a2 : Int32) (x : St) : Option (Int32) :=
  f3_isUnder_L4 fu a2 a1 (0 : Int32) x
set_option maxHeartbeats 4000000 in
set_option maxRecDepth 100000 in
theorem c3_isUnder (l : Launch) (G : GT)  (x m : St) (a1 : Int32) (a2 : Int32) (r : Int32) (h : f3_isUnder a1 a2 x = some r) : Mt l yX3_isUnder cX3_isUnder 4 (some .boolean) (rmF 0 0) G x m [.int a1, .int a2] (some (.int r)) x m := by
  refine Mt.of (by decide) (Nat.le_of_ble_eq_true rfl) ?_
  intro p e s mm args below meth c C ls hl hw
  have hx := C.1
  have hb := C.2.1
  have hown := C.2.2.2.2.1
  replace hl : lv_has ls 4 [(0, .int a1), (1, .int a2)] := hl
  have L4 : ∀ (n4 : Nat) (b1 : Int32) (b2 : Int32) (b3 : Int32) (H : Heap) (locs : List Loc) (ls : Array Slot), lv_has ls 4 [(1, .int b1), (2, .int b2), (3, .int b3)] → Wd G s x m H locs → f3_isUnder_L4 n4 b1 b2 b3 x = some r → W p l e (rmF 0 0) s mm args below meth c H locs 0 0 (QE below G (some (.int r)) x m args s) (F0 mm 4 ls []) := by
    intro n4
    induction n4 with
    | zero =>
      intro b1 b2 b3  H locs ls hl hw h
      rw [f3_isUnder_L4_0] at h
      exact absurd h.symm (Option.some_ne_none _)
    | succ n4 ih4 =>
      intro b1 b2 b3  H locs ls hl hw h
      rw [f3_isUnder_L4_s] at h
      refine lv_iload_n hx hb dX3_isUnder_4 rfl (lv_at hl 2 rfl) ?_
      refine lv_bipush (v := (7 : Int32)) hx hb dX3_isUnder_5 (by decide) ?_
      refine lv_icmp_ge (tgt := 41) hx hb dX3_isUnder_7 (by decide) (fun hc => ?_) (fun hc => ?_)
      · replace h := p_t hc h
        refine lv_iconst (v := (0 : Int32)) hx hb dX3_isUnder_41 (by decide) ?_
        replace h := Option.some.inj h
        subst h
        exact w_iret C hw (v := (0 : Int32)) rfl rfl dX3_isUnder_42
      · replace h := p_f hc h
        refine lv_iload_n hx hb dX3_isUnder_10 rfl (lv_at hl 1 rfl) ?_
        refine lv_if_lt (tgt := 41) hx hb dX3_isUnder_11 (by decide) (fun hc => ?_) (fun hc => ?_)
        · replace h := p_t hc h
          refine lv_iconst (v := (0 : Int32)) hx hb dX3_isUnder_41 (by decide) ?_
          replace h := Option.some.inj h
          subst h
          exact w_iret C hw (v := (0 : Int32)) rfl rfl dX3_isUnder_42
        · replace h := p_f hc h
          refine lv_iload_n hx hb dX3_isUnder_14 rfl (lv_at hl 1 rfl) ?_
          refine w_gets C hw (i := 3) (by decide) fl_X3_281 dX3_isUnder_15 ?_
          refine w_tlen C hw (i := 3) (by decide) (v := (7 : Int32)) rfl dX3_isUnder_18 ?_
          refine lv_icmp_ge (tgt := 41) hx hb dX3_isUnder_19 (by decide) (fun hc => ?_) (fun hc => ?_)
          · replace h := p_t hc h
            refine lv_iconst (v := (0 : Int32)) hx hb dX3_isUnder_41 (by decide) ?_
            replace h := Option.some.inj h
            subst h
            exact w_iret C hw (v := (0 : Int32)) rfl rfl dX3_isUnder_42
          · replace h := p_f hc h
            refine lv_iload_n hx hb dX3_isUnder_22 rfl (lv_at hl 1 rfl) ?_
            refine lv_iload_n hx hb dX3_isUnder_23 rfl (lv_at hl 0 rfl) ?_
            refine lv_icmp_ne (tgt := 29) hx hb dX3_isUnder_24 (by decide) (fun hc => ?_) (fun hc => ?_)
            · replace h := p_f hc h
              refine w_gets C hw (i := 3) (by decide) fl_X3_281 dX3_isUnder_29 ?_
              refine lv_iload_n hx hb dX3_isUnder_32 rfl (lv_at hl 1 rfl) ?_
              obtain ⟨hq, h⟩ := p_if h
              refine w_tald C hw (i := 3) (by decide) hq dX3_isUnder_33 ?_
              refine lv_istore_n (lv' := [(2, .int (tv 3 b2)), (1, .int b1), (3, .int b3)]) hx hb dX3_isUnder_34 rfl hl (by decide) rfl (fun ls hl => ?_)
              refine lv_iinc (v := (b3 + (1 : Int32))) (lv' := [(3, .int (b3 + (1 : Int32))), (2, .int (tv 3 b2)), (1, .int b1)]) hx hb dX3_isUnder_35 hl (k := 2) rfl rfl (by decide) rfl (fun ls hl => ?_)
              refine lv_goto (tgt := 4) hx hb dX3_isUnder_38 (by decide) ?_
              exact ih4 b1 (tv 3 b2) (b3 + (1 : Int32)) _ _ _ (lv_sub hl [2, 1, 0] rfl) hw h
            · replace h := p_t hc h
              refine lv_iconst (v := (1 : Int32)) hx hb dX3_isUnder_27 (by decide) ?_
              replace h := Option.some.inj h
              subst h
              exact w_iret C hw (v := (1 : Int32)) rfl rfl dX3_isUnder_28
  unfold f3_isUnder at h
  refine lv_iload_n hx hb dX3_isUnder_0 rfl (lv_at hl 0 rfl) ?_
  refine lv_istore_n (lv' := [(2, .int a1), (0, .int a1), (1, .int a2)]) hx hb dX3_isUnder_1 rfl hl (by decide) rfl (fun ls hl => ?_)
  refine lv_iconst (v := (0 : Int32)) hx hb dX3_isUnder_2 (by decide) ?_
  refine lv_istore_n (lv' := [(3, .int (0 : Int32)), (2, .int a1), (0, .int a1), (1, .int a2)]) hx hb dX3_isUnder_3 rfl hl (by decide) rfl (fun ls hl => ?_)
  exact L4 fu a2 a1 (0 : Int32) _ _ _ (lv_sub hl [3, 1, 0] rfl) hw h

def f3_as_b17    (x : St) : Option (Int32 × St) :=
  (f3_finding (-1000001 : Int32) x).bind fun q => match q with
  | (v9, z8) =>
    some (v9, z8)
def f3_as  (a1 : Int32) (a2 : Int32) (x : St) : Option (Int32 × St) :=
  if (f3_isWithin a1 (0 : Int32) (9 : Int32)) = 0 then
    f3_as_b17 x
  else
    if (f3_isKind a2) = 0 then
      f3_as_b17 x
    else
      (f2_heldIn 0 a1 x).bind fun v1 =>
      if 0 ≤ v1 then
        (f2_quality 0 v1 (0 : Int32) x).bind fun v2 =>
        (f3_isUnder v2 a2 x).bind fun v3 =>
        if v3 = 0 then
          (f3_finding (-1000003 : Int32) x).bind fun q => match q with
          | (v5, z4) =>
            some (v5, z4)
        else
          some (v1, x)
      else
        (f3_finding (-1000006 : Int32) x).bind fun q => match q with
        | (v7, z6) =>
          some (v7, z6)
set_option maxHeartbeats 4000000 in
set_option maxRecDepth 100000 in
theorem c3_as (l : Launch) (G : GT)  (x m : St) (a1 : Int32) (a2 : Int32) (r : Int32 × St) (h : f3_as a1 a2 x = some r) : Mt l yX3_as cX3_as 4 (some .int) (rmF 2 42) G x m [.ref (gq G 0), .int a1, .int a2] (some (.int r.1)) r.2 m := by
  refine Mt.of (by decide) (Nat.le_of_ble_eq_true rfl) ?_
  intro p e s mm args below meth c C ls hl hw
  have hx := C.1
  have hb := C.2.1
  have hown := C.2.2.2.2.1
  replace hl : lv_has ls 4 [(0, .ref (gq G 0)), (1, .int a1), (2, .int a2)] := hl
  have B17 : ∀  (x : St) (H : Heap) (locs : List Loc) (ls : Array Slot), lv_has ls 4 [(0, .ref (gq G 0))] → Wd G s x m H locs → f3_as_b17 x = some r → W p l e (rmF 2 42) s mm args below meth c H locs 0 0 (QE below G (some (.int r.1)) r.2 m args s) (F0 mm 17 ls []) := by
    intro  x H locs ls hl hw h
    unfold f3_as_b17 at h
    refine lv_aload_n hx hb dX3_as_17 rfl (lv_at hl 0 rfl) ?_
    refine lv_ldc hx hb hown (C.w kc_X3_48) dX3_as_18 ?_
    obtain ⟨⟨v9, z8⟩, hq, h⟩ := p_bd h
    dsimp only at h
    refine w_Vi C hw (As := [.int (-1000001 : Int32)]) (rest := []) (c3_finding l G x m (-1000001 : Int32) (v9, z8) hq) kv_X3_finding ml_X3_49 ⟨rfl, rfl⟩ ⟨Nat.le_of_ble_eq_true rfl, Nat.le_of_ble_eq_true rfl⟩ ⟨Nat.zero_le _, Nat.zero_le _⟩ (w_recv C hw (wk_main G x m) rfl) rfl rfl (Nat.le_of_ble_eq_true rfl) (lv_sub hl [] rfl) dX3_as_20 (fun H locs hw => ?_)
    replace h := Option.some.inj h
    subst h
    exact w_iret C hw (v := v9) rfl rfl dX3_as_23
  unfold f3_as at h
  refine lv_iload_n hx hb dX3_as_0 rfl (lv_at hl 1 rfl) ?_
  refine lv_iconst (v := (0 : Int32)) hx hb dX3_as_1 (by decide) ?_
  refine lv_bipush (v := (9 : Int32)) hx hb dX3_as_2 (by decide) ?_
  refine w_Si C hw (As := [.int a1, .int (0 : Int32), .int (9 : Int32)]) (rest := []) (c3_isWithin l G x m a1 (0 : Int32) (9 : Int32) _ rfl) ks_X3_isWithin ml_X3_44 ⟨rfl, rfl⟩ ⟨Nat.le_of_ble_eq_true rfl, Nat.le_of_ble_eq_true rfl⟩ ⟨Nat.zero_le _, Nat.zero_le _⟩ rfl rfl (Nat.le_of_ble_eq_true rfl) (lv_sub hl [] rfl) dX3_as_4 (fun H locs hw => ?_)
  refine lv_if_eq (tgt := 17) hx hb dX3_as_7 (by decide) (fun hc => ?_) (fun hc => ?_)
  · replace h := p_t hc h
    exact B17 x _ _ _ (lv_sub hl [0] rfl) hw h
  · replace h := p_f hc h
    refine lv_iload_n hx hb dX3_as_10 rfl (lv_at hl 2 rfl) ?_
    refine w_Si C hw (As := [.int a2]) (rest := []) (c3_isKind l G x m a2 _ rfl) ks_X3_isKind ml_X3_77 ⟨rfl, rfl⟩ ⟨Nat.le_of_ble_eq_true rfl, Nat.le_of_ble_eq_true rfl⟩ ⟨Nat.zero_le _, Nat.zero_le _⟩ rfl rfl (Nat.le_of_ble_eq_true rfl) (lv_sub hl [] rfl) dX3_as_11 (fun H locs hw => ?_)
    refine lv_if_ne (tgt := 24) hx hb dX3_as_14 (by decide) (fun hc => ?_) (fun hc => ?_)
    · replace h := p_f hc h
      refine lv_aload_n hx hb dX3_as_24 rfl (lv_at hl 0 rfl) ?_
      refine w_get C hw (v := .ref (gq G (1 + 4 * 0))) (k := 0) (wk_main G x m) rfl it_3 (by decide) fl_X3_10 rfl dX3_as_25 ?_
      refine lv_iload_n hx hb dX3_as_28 rfl (lv_at hl 1 rfl) ?_
      obtain ⟨v1, hq, h⟩ := p_bd h
      refine w_Vi C hw (As := [.int a1]) (rest := []) (c2_heldIn l G 0 (by decide) x m a1 v1 hq) kv_X2_heldIn ml_X3_229 ⟨rfl, rfl⟩ ⟨Nat.le_of_ble_eq_true rfl, Nat.le_of_ble_eq_true rfl⟩ ⟨Nat.zero_le _, Nat.zero_le _⟩ (w_recv C hw (wk_town G x m (by decide)) rfl) rfl rfl (Nat.le_of_ble_eq_true rfl) (lv_sub hl [] rfl) dX3_as_29 (fun H locs hw => ?_)
      refine lv_istore_n (lv' := [(3, .int v1), (0, .ref (gq G 0)), (1, .int a1), (2, .int a2)]) hx hb dX3_as_32 rfl hl (by decide) rfl (fun ls hl => ?_)
      refine lv_iload_n hx hb dX3_as_33 rfl (lv_at hl 0 rfl) ?_
      refine lv_if_ge (tgt := 44) hx hb dX3_as_34 (by decide) (fun hc => ?_) (fun hc => ?_)
      · replace h := p_t hc h
        refine lv_aload_n hx hb dX3_as_44 rfl (lv_at hl 1 rfl) ?_
        refine w_get C hw (v := .ref (gq G (1 + 4 * 0))) (k := 0) (wk_main G x m) rfl it_3 (by decide) fl_X3_10 rfl dX3_as_45 ?_
        refine lv_iload_n hx hb dX3_as_48 rfl (lv_at hl 0 rfl) ?_
        refine lv_iconst (v := (0 : Int32)) hx hb dX3_as_49 (by decide) ?_
        obtain ⟨v2, hq, h⟩ := p_bd h
        refine w_Vi C hw (As := [.int v1, .int (0 : Int32)]) (rest := []) (c2_quality l G 0 (by decide) x m v1 (0 : Int32) v2 hq) kv_X2_quality ml_X3_98 ⟨rfl, rfl⟩ ⟨Nat.le_of_ble_eq_true rfl, Nat.le_of_ble_eq_true rfl⟩ ⟨Nat.zero_le _, Nat.zero_le _⟩ (w_recv C hw (wk_town G x m (by decide)) rfl) rfl rfl (Nat.le_of_ble_eq_true rfl) (lv_sub hl [] rfl) dX3_as_50 (fun H locs hw => ?_)
        refine lv_iload_n hx hb dX3_as_53 rfl (lv_at hl 3 rfl) ?_
        obtain ⟨v3, hq, h⟩ := p_bd h
        refine w_Si C hw (As := [.int v2, .int a2]) (rest := []) (c3_isUnder l G x m v2 a2 v3 hq) ks_X3_isUnder ml_X3_232 ⟨rfl, rfl⟩ ⟨Nat.le_of_ble_eq_true rfl, Nat.le_of_ble_eq_true rfl⟩ ⟨Nat.zero_le _, Nat.zero_le _⟩ rfl rfl (Nat.le_of_ble_eq_true rfl) (lv_sub hl [] rfl) dX3_as_54 (fun H locs hw => ?_)
        refine lv_if_eq (tgt := 64) hx hb dX3_as_57 (by decide) (fun hc => ?_) (fun hc => ?_)
        · replace h := p_t hc h
          refine lv_aload_n hx hb dX3_as_64 rfl (lv_at hl 1 rfl) ?_
          refine lv_ldc hx hb hown (C.w kc_X3_235) dX3_as_65 ?_
          obtain ⟨⟨v5, z4⟩, hq, h⟩ := p_bd h
          dsimp only at h
          refine w_Vi C hw (As := [.int (-1000003 : Int32)]) (rest := []) (c3_finding l G x m (-1000003 : Int32) (v5, z4) hq) kv_X3_finding ml_X3_49 ⟨rfl, rfl⟩ ⟨Nat.le_of_ble_eq_true rfl, Nat.le_of_ble_eq_true rfl⟩ ⟨Nat.zero_le _, Nat.zero_le _⟩ (w_recv C hw (wk_main G x m) rfl) rfl rfl (Nat.le_of_ble_eq_true rfl) (lv_sub hl [] rfl) dX3_as_67 (fun H locs hw => ?_)
          replace h := Option.some.inj h
          subst h
          exact w_iret C hw (v := v5) rfl rfl dX3_as_70
        · replace h := p_f hc h
          refine lv_iload_n hx hb dX3_as_60 rfl (lv_at hl 0 rfl) ?_
          refine lv_goto (tgt := 70) hx hb dX3_as_61 (by decide) ?_
          replace h := Option.some.inj h
          subst h
          exact w_iret C hw (v := v1) rfl rfl dX3_as_70
      · replace h := p_f hc h
        refine lv_aload_n hx hb dX3_as_37 rfl (lv_at hl 1 rfl) ?_
        refine lv_ldc hx hb hown (C.w kc_X3_198) dX3_as_38 ?_
        obtain ⟨⟨v7, z6⟩, hq, h⟩ := p_bd h
        dsimp only at h
        refine w_Vi C hw (As := [.int (-1000006 : Int32)]) (rest := []) (c3_finding l G x m (-1000006 : Int32) (v7, z6) hq) kv_X3_finding ml_X3_49 ⟨rfl, rfl⟩ ⟨Nat.le_of_ble_eq_true rfl, Nat.le_of_ble_eq_true rfl⟩ ⟨Nat.zero_le _, Nat.zero_le _⟩ (w_recv C hw (wk_main G x m) rfl) rfl rfl (Nat.le_of_ble_eq_true rfl) (lv_sub hl [] rfl) dX3_as_40 (fun H locs hw => ?_)
        replace h := Option.some.inj h
        subst h
        exact w_iret C hw (v := v7) rfl rfl dX3_as_43
    · replace h := p_t hc h
      exact B17 x _ _ _ (lv_sub hl [0] rfl) hw h

def f3_sheet_b77   (jb4 : Nat) (jw0 : Nat) (w1 : Int32) (w2 : Int32) (x : St) : Option (Int32 × St) :=
  (f0_begin jw0 w1 w2 x).bind fun z8 =>
  some ((z8 (16 + 2 * jb4) 2), z8)
def f3_sheet_b41   (b2 : Int32) (b3 : Int32) (jb4 : Nat) (x : St) : Option (Int32 × St) :=
  if 0 ≤ b3 then
    if b3 ≤ (40 : Int32) then
      if b2 = 0 then
        f3_sheet_b77 jb4 jb4 b2 (0 : Int32) x
      else
        f3_sheet_b77 jb4 jb4 b2 b3 x
    else
      (f3_finding (-1000001 : Int32) x).bind fun q => match q with
      | (v5, z4) =>
        some (v5, z4)
  else
    (f3_finding (-1000007 : Int32) x).bind fun q => match q with
    | (v7, z6) =>
      some (v7, z6)
def f3_sheet_b34    (x : St) : Option (Int32 × St) :=
  (f3_finding (-1000001 : Int32) x).bind fun q => match q with
  | (v3, z2) =>
    some (v3, z2)
def f3_sheet  (a1 : Int32) (a2 : Int32) (a3 : Int32) (x : St) : Option (Int32 × St) :=
  if a1 < 0 ∨ 4 ≤ a1.toNatClampNeg then
    f3_sheet_b34 x
  else
    if a2 = 0 then
      f3_sheet_b41 a2 a3 (a1.toNatClampNeg) x
    else
      if a2 = (8 : Int32) then
        f3_sheet_b41 a2 a3 (a1.toNatClampNeg) x
      else
        if a2 = (16 : Int32) then
          f3_sheet_b41 a2 a3 (a1.toNatClampNeg) x
        else
          if a2 = (32 : Int32) then
            f3_sheet_b41 a2 a3 (a1.toNatClampNeg) x
          else
            f3_sheet_b34 x
set_option maxHeartbeats 4000000 in
set_option maxRecDepth 100000 in
theorem c3_sheet (l : Launch) (G : GT)  (x m : St) (a1 : Int32) (a2 : Int32) (a3 : Int32) (r : Int32 × St) (h : f3_sheet a1 a2 a3 x = some r) : Mt l yX3_sheet cX3_sheet 5 (some .int) (rmF 1 23) G x m [.ref (gq G 0), .int a1, .int a2, .int a3] (some (.int r.1)) r.2 m := by
  refine Mt.of (by decide) (Nat.le_of_ble_eq_true rfl) ?_
  intro p e s mm args below meth c C ls hl hw
  have hx := C.1
  have hb := C.2.1
  have hown := C.2.2.2.2.1
  replace hl : lv_has ls 5 [(0, .ref (gq G 0)), (1, .int a1), (2, .int a2), (3, .int a3)] := hl
  have B77 : ∀ (jb4 : Nat) (hjb4 : jb4 < 4) (jw0 : Nat) (hjw0 : jw0 < 4) (w1 : Int32) (w2 : Int32) (x : St) (H : Heap) (locs : List Loc) (ls : Array Slot), lv_has ls 5 [(4, .ref (gq G (16 + 2 * jb4)))] → Wd G s x m H locs → f3_sheet_b77 jb4 jw0 w1 w2 x = some r → W p l e (rmF 1 23) s mm args below meth c H locs 0 0 (QE below G (some (.int r.1)) r.2 m args s) (F0 mm 77 ls [.int w2, .int w1, .ref (gq G (16 + 2 * jw0))]) := by
    intro jb4 hjb4 jw0 hjw0 w1 w2 x H locs ls hl hw h
    unfold f3_sheet_b77 at h
    obtain ⟨z8, hq, h⟩ := p_bd h
    refine w_Vv C hw (As := [.int w1, .int w2]) (rest := []) (c0_begin l G jw0 hjw0 x m w1 w2 z8 hq) kv_X0_begin ml_X3_237 ⟨rfl, rfl⟩ ⟨Nat.le_of_ble_eq_true rfl, Nat.le_of_ble_eq_true rfl⟩ ⟨Nat.zero_le _, Nat.zero_le _⟩ (w_recv C hw (wk_sheet G x m hjw0) rfl) rfl rfl (Nat.le_of_ble_eq_true rfl) (lv_sub hl [] rfl) dX3_sheet_77 (fun H locs hw => ?_)
    refine lv_aload hx hb dX3_sheet_80 (lv_at hl 0 rfl) ?_
    refine w_getN C hw (v := .int (z8 (16 + 2 * jb4) 2)) (k := 2) (wk_sheet G z8 m hjb4) rfl it_0 (by decide) (List.mem_of_getElem? (i := 10) rfl) rfl dX3_sheet_82 ?_
    replace h := Option.some.inj h
    subst h
    exact w_iret C hw (v := (z8 (16 + 2 * jb4) 2)) rfl rfl dX3_sheet_85
  have B41 : ∀ (b2 : Int32) (b3 : Int32) (jb4 : Nat) (hjb4 : jb4 < 4) (x : St) (H : Heap) (locs : List Loc) (ls : Array Slot), lv_has ls 5 [(0, .ref (gq G 0)), (2, .int b2), (3, .int b3), (4, .ref (gq G (16 + 2 * jb4)))] → Wd G s x m H locs → f3_sheet_b41 b2 b3 jb4 x = some r → W p l e (rmF 1 23) s mm args below meth c H locs 0 0 (QE below G (some (.int r.1)) r.2 m args s) (F0 mm 41 ls []) := by
    intro b2 b3 jb4 hjb4 x H locs ls hl hw h
    unfold f3_sheet_b41 at h
    refine lv_iload_n hx hb dX3_sheet_41 rfl (lv_at hl 2 rfl) ?_
    refine lv_if_ge (tgt := 52) hx hb dX3_sheet_42 (by decide) (fun hc => ?_) (fun hc => ?_)
    · replace h := p_t hc h
      refine lv_iload_n hx hb dX3_sheet_52 rfl (lv_at hl 2 rfl) ?_
      refine lv_bipush (v := (40 : Int32)) hx hb dX3_sheet_53 (by decide) ?_
      refine lv_icmp_le (tgt := 65) hx hb dX3_sheet_55 (by decide) (fun hc => ?_) (fun hc => ?_)
      · replace h := p_t hc h
        refine lv_aload hx hb dX3_sheet_65 (lv_at hl 3 rfl) ?_
        refine lv_iload_n hx hb dX3_sheet_67 rfl (lv_at hl 1 rfl) ?_
        refine lv_iload_n hx hb dX3_sheet_68 rfl (lv_at hl 1 rfl) ?_
        refine lv_if_ne (tgt := 76) hx hb dX3_sheet_69 (by decide) (fun hc => ?_) (fun hc => ?_)
        · replace h := p_f hc h
          refine lv_iload_n hx hb dX3_sheet_76 rfl (lv_at hl 2 rfl) ?_
          exact B77 jb4 hjb4 jb4 hjb4 b2 b3 x _ _ _ (lv_sub hl [3] rfl) hw h
        · replace h := p_t hc h
          refine lv_iconst (v := (0 : Int32)) hx hb dX3_sheet_72 (by decide) ?_
          refine lv_goto (tgt := 77) hx hb dX3_sheet_73 (by decide) ?_
          exact B77 jb4 hjb4 jb4 hjb4 b2 (0 : Int32) x _ _ _ (lv_sub hl [3] rfl) hw h
      · replace h := p_f hc h
        refine lv_aload_n hx hb dX3_sheet_58 rfl (lv_at hl 0 rfl) ?_
        refine lv_ldc hx hb hown (C.w kc_X3_48) dX3_sheet_59 ?_
        obtain ⟨⟨v5, z4⟩, hq, h⟩ := p_bd h
        dsimp only at h
        refine w_Vi C hw (As := [.int (-1000001 : Int32)]) (rest := []) (c3_finding l G x m (-1000001 : Int32) (v5, z4) hq) kv_X3_finding ml_X3_49 ⟨rfl, rfl⟩ ⟨Nat.le_of_ble_eq_true rfl, Nat.le_of_ble_eq_true rfl⟩ ⟨Nat.zero_le _, Nat.zero_le _⟩ (w_recv C hw (wk_main G x m) rfl) rfl rfl (Nat.le_of_ble_eq_true rfl) (lv_sub hl [] rfl) dX3_sheet_61 (fun H locs hw => ?_)
        replace h := Option.some.inj h
        subst h
        exact w_iret C hw (v := v5) rfl rfl dX3_sheet_64
    · replace h := p_f hc h
      refine lv_aload_n hx hb dX3_sheet_45 rfl (lv_at hl 0 rfl) ?_
      refine lv_ldc hx hb hown (C.w kc_X3_236) dX3_sheet_46 ?_
      obtain ⟨⟨v7, z6⟩, hq, h⟩ := p_bd h
      dsimp only at h
      refine w_Vi C hw (As := [.int (-1000007 : Int32)]) (rest := []) (c3_finding l G x m (-1000007 : Int32) (v7, z6) hq) kv_X3_finding ml_X3_49 ⟨rfl, rfl⟩ ⟨Nat.le_of_ble_eq_true rfl, Nat.le_of_ble_eq_true rfl⟩ ⟨Nat.zero_le _, Nat.zero_le _⟩ (w_recv C hw (wk_main G x m) rfl) rfl rfl (Nat.le_of_ble_eq_true rfl) (lv_sub hl [] rfl) dX3_sheet_48 (fun H locs hw => ?_)
      replace h := Option.some.inj h
      subst h
      exact w_iret C hw (v := v7) rfl rfl dX3_sheet_51
  have B34 : ∀  (x : St) (H : Heap) (locs : List Loc) (ls : Array Slot), lv_has ls 5 [(0, .ref (gq G 0))] → Wd G s x m H locs → f3_sheet_b34 x = some r → W p l e (rmF 1 23) s mm args below meth c H locs 0 0 (QE below G (some (.int r.1)) r.2 m args s) (F0 mm 34 ls []) := by
    intro  x H locs ls hl hw h
    unfold f3_sheet_b34 at h
    refine lv_aload_n hx hb dX3_sheet_34 rfl (lv_at hl 0 rfl) ?_
    refine lv_ldc hx hb hown (C.w kc_X3_48) dX3_sheet_35 ?_
    obtain ⟨⟨v3, z2⟩, hq, h⟩ := p_bd h
    dsimp only at h
    refine w_Vi C hw (As := [.int (-1000001 : Int32)]) (rest := []) (c3_finding l G x m (-1000001 : Int32) (v3, z2) hq) kv_X3_finding ml_X3_49 ⟨rfl, rfl⟩ ⟨Nat.le_of_ble_eq_true rfl, Nat.le_of_ble_eq_true rfl⟩ ⟨Nat.zero_le _, Nat.zero_le _⟩ (w_recv C hw (wk_main G x m) rfl) rfl rfl (Nat.le_of_ble_eq_true rfl) (lv_sub hl [] rfl) dX3_sheet_37 (fun H locs hw => ?_)
    replace h := Option.some.inj h
    subst h
    exact w_iret C hw (v := v3) rfl rfl dX3_sheet_40
  unfold f3_sheet at h
  refine lv_aload_n hx hb dX3_sheet_0 rfl (lv_at hl 0 rfl) ?_
  refine lv_iload_n hx hb dX3_sheet_1 rfl (lv_at hl 1 rfl) ?_
  by_cases hc : a1 < 0 ∨ 4 ≤ a1.toNatClampNeg
  · replace h := p_t hc h
    refine w_VaN C hw (As := [.int a1]) (rest := []) (c3_sheetAt_n l G x m a1 hc) kv_X3_sheetAt ml_X3_191 ⟨rfl, rfl⟩ ⟨Nat.le_of_ble_eq_true rfl, Nat.le_of_ble_eq_true rfl⟩ ⟨Nat.zero_le _, Nat.zero_le _⟩ (w_recv C hw (wk_main G x m) rfl) rfl rfl (Nat.le_of_ble_eq_true rfl) (lv_sub hl [] rfl) dX3_sheet_2 (fun H locs hw => ?_)
    refine lv_astoreN (lv' := [(4, .null), (0, .ref (gq G 0)), (1, .int a1), (2, .int a2), (3, .int a3)]) hx hb dX3_sheet_5 hl (by decide) rfl (fun ls hl => ?_)
    refine lv_aloadN hx hb dX3_sheet_7 (lv_at hl 0 rfl) ?_
    refine lv_ifnullN (tgt := 34) hx hb dX3_sheet_9 (by decide) ?_
    exact B34 x _ _ _ (lv_sub hl [1] rfl) hw h
  · replace h := p_f hc h
    have hs1 : a1.toNatClampNeg < 4 := Nat.lt_of_not_le (fun z => hc (Or.inr z))
    refine w_Va C hw (As := [.int a1]) (rest := []) (c3_sheetAt_r l G x m a1 hc) kv_X3_sheetAt ml_X3_191 ⟨rfl, rfl⟩ ⟨Nat.le_of_ble_eq_true rfl, Nat.le_of_ble_eq_true rfl⟩ ⟨Nat.zero_le _, Nat.zero_le _⟩ (w_recv C hw (wk_main G x m) rfl) rfl rfl (Nat.le_of_ble_eq_true rfl) (lv_sub hl [] rfl) dX3_sheet_2 (fun H locs hw => ?_)
    refine lv_astore (lv' := [(4, .ref (gq G (16 + 2 * (a1.toNatClampNeg)))), (0, .ref (gq G 0)), (1, .int a1), (2, .int a2), (3, .int a3)]) hx hb dX3_sheet_5 hl (by decide) rfl (fun ls hl => ?_)
    refine lv_aload hx hb dX3_sheet_7 (lv_at hl 0 rfl) ?_
    refine lv_ifnull hx hb dX3_sheet_9 ?_
    refine lv_iload_n hx hb dX3_sheet_12 rfl (lv_at hl 3 rfl) ?_
    refine lv_if_eq (tgt := 41) hx hb dX3_sheet_13 (by decide) (fun hc => ?_) (fun hc => ?_)
    · replace h := p_t hc h
      exact B41 a2 a3 (a1.toNatClampNeg) hs1 x _ _ _ (lv_sub hl [1, 3, 4, 0] rfl) hw h
    · replace h := p_f hc h
      refine lv_iload_n hx hb dX3_sheet_16 rfl (lv_at hl 3 rfl) ?_
      refine lv_bipush (v := (8 : Int32)) hx hb dX3_sheet_17 (by decide) ?_
      refine lv_icmp_eq (tgt := 41) hx hb dX3_sheet_19 (by decide) (fun hc => ?_) (fun hc => ?_)
      · replace h := p_t hc h
        exact B41 a2 a3 (a1.toNatClampNeg) hs1 x _ _ _ (lv_sub hl [1, 3, 4, 0] rfl) hw h
      · replace h := p_f hc h
        refine lv_iload_n hx hb dX3_sheet_22 rfl (lv_at hl 3 rfl) ?_
        refine lv_bipush (v := (16 : Int32)) hx hb dX3_sheet_23 (by decide) ?_
        refine lv_icmp_eq (tgt := 41) hx hb dX3_sheet_25 (by decide) (fun hc => ?_) (fun hc => ?_)
        · replace h := p_t hc h
          exact B41 a2 a3 (a1.toNatClampNeg) hs1 x _ _ _ (lv_sub hl [1, 3, 4, 0] rfl) hw h
        · replace h := p_f hc h
          refine lv_iload_n hx hb dX3_sheet_28 rfl (lv_at hl 3 rfl) ?_
          refine lv_bipush (v := (32 : Int32)) hx hb dX3_sheet_29 (by decide) ?_
          refine lv_icmp_eq (tgt := 41) hx hb dX3_sheet_31 (by decide) (fun hc => ?_) (fun hc => ?_)
          · replace h := p_t hc h
            exact B41 a2 a3 (a1.toNatClampNeg) hs1 x _ _ _ (lv_sub hl [1, 3, 4, 0] rfl) hw h
          · replace h := p_f hc h
            exact B34 x _ _ _ (lv_sub hl [1] rfl) hw h

def f3_write  (a1 : Int32) (a2 : Int32) (a3 : Int32) (x : St) : Option (Int32 × St) :=
  if a1 < 0 ∨ 4 ≤ a1.toNatClampNeg then
    (f3_finding (-1000001 : Int32) x).bind fun q => match q with
    | (v3, z2) =>
      some (v3, z2)
  else
    if (f0_isMissing (a1.toNatClampNeg) x) = 0 then
      if (f3_isWithin a2 (0 : Int32) ((x (16 + 2 * (a1.toNatClampNeg)) 2) - (1 : Int32))) = 0 then
        (f3_finding (-1000001 : Int32) x).bind fun q => match q with
        | (v6, z5) =>
          some (v6, z5)
      else
        (f0_setNumber (a1.toNatClampNeg) a2 a3 x).bind fun z4 =>
        some ((1 : Int32), z4)
    else
      (f3_finding (-1000006 : Int32) x).bind fun q => match q with
      | (v8, z7) =>
        some (v8, z7)
set_option maxHeartbeats 4000000 in
set_option maxRecDepth 100000 in
theorem c3_write (l : Launch) (G : GT)  (x m : St) (a1 : Int32) (a2 : Int32) (a3 : Int32) (r : Int32 × St) (h : f3_write a1 a2 a3 x = some r) : Mt l yX3_write cX3_write 5 (some .int) (rmF 2 44) G x m [.ref (gq G 0), .int a1, .int a2, .int a3] (some (.int r.1)) r.2 m := by
  refine Mt.of (by decide) (Nat.le_of_ble_eq_true rfl) ?_
  intro p e s mm args below meth c C ls hl hw
  have hx := C.1
  have hb := C.2.1
  have hown := C.2.2.2.2.1
  replace hl : lv_has ls 5 [(0, .ref (gq G 0)), (1, .int a1), (2, .int a2), (3, .int a3)] := hl
  unfold f3_write at h
  refine lv_aload_n hx hb dX3_write_0 rfl (lv_at hl 0 rfl) ?_
  refine lv_iload_n hx hb dX3_write_1 rfl (lv_at hl 1 rfl) ?_
  by_cases hc : a1 < 0 ∨ 4 ≤ a1.toNatClampNeg
  · replace h := p_t hc h
    refine w_VaN C hw (As := [.int a1]) (rest := []) (c3_sheetAt_n l G x m a1 hc) kv_X3_sheetAt ml_X3_191 ⟨rfl, rfl⟩ ⟨Nat.le_of_ble_eq_true rfl, Nat.le_of_ble_eq_true rfl⟩ ⟨Nat.zero_le _, Nat.zero_le _⟩ (w_recv C hw (wk_main G x m) rfl) rfl rfl (Nat.le_of_ble_eq_true rfl) (lv_sub hl [] rfl) dX3_write_2 (fun H locs hw => ?_)
    refine lv_astoreN (lv' := [(4, .null), (0, .ref (gq G 0)), (1, .int a1), (2, .int a2), (3, .int a3)]) hx hb dX3_write_5 hl (by decide) rfl (fun ls hl => ?_)
    refine lv_aloadN hx hb dX3_write_7 (lv_at hl 0 rfl) ?_
    refine lv_ifnonnullN hx hb dX3_write_9 ?_
    refine lv_aload_n hx hb dX3_write_12 rfl (lv_at hl 1 rfl) ?_
    refine lv_ldc hx hb hown (C.w kc_X3_48) dX3_write_13 ?_
    obtain ⟨⟨v3, z2⟩, hq, h⟩ := p_bd h
    dsimp only at h
    refine w_Vi C hw (As := [.int (-1000001 : Int32)]) (rest := []) (c3_finding l G x m (-1000001 : Int32) (v3, z2) hq) kv_X3_finding ml_X3_49 ⟨rfl, rfl⟩ ⟨Nat.le_of_ble_eq_true rfl, Nat.le_of_ble_eq_true rfl⟩ ⟨Nat.zero_le _, Nat.zero_le _⟩ (w_recv C hw (wk_main G x m) rfl) rfl rfl (Nat.le_of_ble_eq_true rfl) (lv_sub hl [] rfl) dX3_write_15 (fun H locs hw => ?_)
    replace h := Option.some.inj h
    subst h
    exact w_iret C hw (v := v3) rfl rfl dX3_write_18
  · replace h := p_f hc h
    have hs1 : a1.toNatClampNeg < 4 := Nat.lt_of_not_le (fun z => hc (Or.inr z))
    refine w_Va C hw (As := [.int a1]) (rest := []) (c3_sheetAt_r l G x m a1 hc) kv_X3_sheetAt ml_X3_191 ⟨rfl, rfl⟩ ⟨Nat.le_of_ble_eq_true rfl, Nat.le_of_ble_eq_true rfl⟩ ⟨Nat.zero_le _, Nat.zero_le _⟩ (w_recv C hw (wk_main G x m) rfl) rfl rfl (Nat.le_of_ble_eq_true rfl) (lv_sub hl [] rfl) dX3_write_2 (fun H locs hw => ?_)
    refine lv_astore (lv' := [(4, .ref (gq G (16 + 2 * (a1.toNatClampNeg)))), (0, .ref (gq G 0)), (1, .int a1), (2, .int a2), (3, .int a3)]) hx hb dX3_write_5 hl (by decide) rfl (fun ls hl => ?_)
    refine lv_aload hx hb dX3_write_7 (lv_at hl 0 rfl) ?_
    refine lv_ifnonnull (tgt := 19) hx hb dX3_write_9 (by decide) ?_
    refine lv_aload hx hb dX3_write_19 (lv_at hl 0 rfl) ?_
    refine w_Vi C hw (As := []) (rest := []) (c0_isMissing l G (a1.toNatClampNeg) hs1 x m _ rfl) kv_X0_isMissing ml_X3_195 ⟨rfl, rfl⟩ ⟨Nat.le_of_ble_eq_true rfl, Nat.le_of_ble_eq_true rfl⟩ ⟨Nat.zero_le _, Nat.zero_le _⟩ (w_recv C hw (wk_sheet G x m hs1) rfl) rfl rfl (Nat.le_of_ble_eq_true rfl) (lv_sub hl [] rfl) dX3_write_21 (fun H locs hw => ?_)
    refine lv_if_eq (tgt := 34) hx hb dX3_write_24 (by decide) (fun hc => ?_) (fun hc => ?_)
    · replace h := p_t hc h
      refine lv_iload_n hx hb dX3_write_34 rfl (lv_at hl 3 rfl) ?_
      refine lv_iconst (v := (0 : Int32)) hx hb dX3_write_35 (by decide) ?_
      refine lv_aload hx hb dX3_write_36 (lv_at hl 0 rfl) ?_
      refine w_getN C hw (v := .int (x (16 + 2 * (a1.toNatClampNeg)) 2)) (k := 2) (wk_sheet G x m hs1) rfl it_0 (by decide) (List.mem_of_getElem? (i := 10) rfl) rfl dX3_write_38 ?_
      refine lv_iconst (v := (1 : Int32)) hx hb dX3_write_41 (by decide) ?_
      refine lv_isub hx hb dX3_write_42 ?_
      refine w_Si C hw (As := [.int a2, .int (0 : Int32), .int ((x (16 + 2 * (a1.toNatClampNeg)) 2) - (1 : Int32))]) (rest := []) (c3_isWithin l G x m a2 (0 : Int32) ((x (16 + 2 * (a1.toNatClampNeg)) 2) - (1 : Int32)) _ rfl) ks_X3_isWithin ml_X3_44 ⟨rfl, rfl⟩ ⟨Nat.le_of_ble_eq_true rfl, Nat.le_of_ble_eq_true rfl⟩ ⟨Nat.zero_le _, Nat.zero_le _⟩ rfl rfl (Nat.le_of_ble_eq_true rfl) (lv_sub hl [] rfl) dX3_write_43 (fun H locs hw => ?_)
      refine lv_if_ne (tgt := 56) hx hb dX3_write_46 (by decide) (fun hc => ?_) (fun hc => ?_)
      · replace h := p_f hc h
        refine lv_aload hx hb dX3_write_56 (lv_at hl 0 rfl) ?_
        refine lv_iload_n hx hb dX3_write_58 rfl (lv_at hl 3 rfl) ?_
        refine lv_iload_n hx hb dX3_write_59 rfl (lv_at hl 4 rfl) ?_
        obtain ⟨z4, hq, h⟩ := p_bd h
        refine w_Vv C hw (As := [.int a2, .int a3]) (rest := []) (c0_setNumber l G (a1.toNatClampNeg) hs1 x m a2 a3 z4 hq) kv_X0_setNumber ml_X3_240 ⟨rfl, rfl⟩ ⟨Nat.le_of_ble_eq_true rfl, Nat.le_of_ble_eq_true rfl⟩ ⟨Nat.zero_le _, Nat.zero_le _⟩ (w_recv C hw (wk_sheet G x m hs1) rfl) rfl rfl (Nat.le_of_ble_eq_true rfl) (lv_sub hl [] rfl) dX3_write_60 (fun H locs hw => ?_)
        refine lv_iconst (v := (1 : Int32)) hx hb dX3_write_63 (by decide) ?_
        replace h := Option.some.inj h
        subst h
        exact w_iret C hw (v := (1 : Int32)) rfl rfl dX3_write_64
      · replace h := p_t hc h
        refine lv_aload_n hx hb dX3_write_49 rfl (lv_at hl 1 rfl) ?_
        refine lv_ldc hx hb hown (C.w kc_X3_48) dX3_write_50 ?_
        obtain ⟨⟨v6, z5⟩, hq, h⟩ := p_bd h
        dsimp only at h
        refine w_Vi C hw (As := [.int (-1000001 : Int32)]) (rest := []) (c3_finding l G x m (-1000001 : Int32) (v6, z5) hq) kv_X3_finding ml_X3_49 ⟨rfl, rfl⟩ ⟨Nat.le_of_ble_eq_true rfl, Nat.le_of_ble_eq_true rfl⟩ ⟨Nat.zero_le _, Nat.zero_le _⟩ (w_recv C hw (wk_main G x m) rfl) rfl rfl (Nat.le_of_ble_eq_true rfl) (lv_sub hl [] rfl) dX3_write_52 (fun H locs hw => ?_)
        replace h := Option.some.inj h
        subst h
        exact w_iret C hw (v := v6) rfl rfl dX3_write_55
    · replace h := p_f hc h
      refine lv_aload_n hx hb dX3_write_27 rfl (lv_at hl 1 rfl) ?_
      refine lv_ldc hx hb hown (C.w kc_X3_198) dX3_write_28 ?_
      obtain ⟨⟨v8, z7⟩, hq, h⟩ := p_bd h
      dsimp only at h
      refine w_Vi C hw (As := [.int (-1000006 : Int32)]) (rest := []) (c3_finding l G x m (-1000006 : Int32) (v8, z7) hq) kv_X3_finding ml_X3_49 ⟨rfl, rfl⟩ ⟨Nat.le_of_ble_eq_true rfl, Nat.le_of_ble_eq_true rfl⟩ ⟨Nat.zero_le _, Nat.zero_le _⟩ (w_recv C hw (wk_main G x m) rfl) rfl rfl (Nat.le_of_ble_eq_true rfl) (lv_sub hl [] rfl) dX3_write_30 (fun H locs hw => ?_)
      replace h := Option.some.inj h
      subst h
      exact w_iret C hw (v := v8) rfl rfl dX3_write_33

def f3_copy_b97    (x : St) : Option (Int32 × St) :=
  (f3_finding (-1000001 : Int32) x).bind fun q => match q with
  | (v11, z10) =>
    some (v11, z10)
def f3_copy_b47    (x : St) : Option (Int32 × St) :=
  (f3_finding (-1000006 : Int32) x).bind fun q => match q with
  | (v9, z8) =>
    some (v9, z8)
def f3_copy_b24    (x : St) : Option (Int32 × St) :=
  (f3_finding (-1000001 : Int32) x).bind fun q => match q with
  | (v7, z6) =>
    some (v7, z6)
def f3_copy  (a1 : Int32) (a2 : Int32) (a3 : Int32) (a4 : Int32) (a5 : Int32) (x : St) : Option (Int32 × St) :=
  if a1 < 0 ∨ 4 ≤ a1.toNatClampNeg then
    if a3 < 0 ∨ 4 ≤ a3.toNatClampNeg then
      f3_copy_b24 x
    else
      f3_copy_b24 x
  else
    if a3 < 0 ∨ 4 ≤ a3.toNatClampNeg then
      f3_copy_b24 x
    else
      if (f0_isMissing (a1.toNatClampNeg) x) = 0 then
        if (f0_isMissing (a3.toNatClampNeg) x) = 0 then
          if (x (16 + 2 * (a1.toNatClampNeg)) 1) = (x (16 + 2 * (a3.toNatClampNeg)) 1) then
            if (f0_hasNumbers (a1.toNatClampNeg) a2 a5 x) = 0 then
              f3_copy_b97 x
            else
              if (f0_hasNumbers (a3.toNatClampNeg) a4 a5 x) = 0 then
                f3_copy_b97 x
              else
                if a2 < 0 ∨ a4 < 0 ∨ a5 < 0 ∨ 40 < a2.toNatClampNeg + a5.toNatClampNeg ∨ 40 < a4.toNatClampNeg + a5.toNatClampNeg then none else
                some (a5, (uR x (17 + 2 * (a3.toNatClampNeg)) (va_cpy (x (17 + 2 * (a1.toNatClampNeg))) (x (17 + 2 * (a3.toNatClampNeg))) a2.toNatClampNeg a4.toNatClampNeg a5.toNatClampNeg)))
          else
            (f3_finding (-1000003 : Int32) x).bind fun q => match q with
            | (v5, z4) =>
              some (v5, z4)
        else
          f3_copy_b47 x
      else
        f3_copy_b47 x
set_option maxHeartbeats 4000000 in
set_option maxRecDepth 100000 in
theorem c3_copy (l : Launch) (G : GT)  (x m : St) (a1 : Int32) (a2 : Int32) (a3 : Int32) (a4 : Int32) (a5 : Int32) (r : Int32 × St) (h : f3_copy a1 a2 a3 a4 a5 x = some r) : Mt l yX3_copy cX3_copy 8 (some .int) (rmF 2 60) G x m [.ref (gq G 0), .int a1, .int a2, .int a3, .int a4, .int a5] (some (.int r.1)) r.2 m := by
  refine Mt.of (by decide) (Nat.le_of_ble_eq_true rfl) ?_
  intro p e s mm args below meth c C ls hl hw
  have hx := C.1
  have hb := C.2.1
  have hown := C.2.2.2.2.1
  replace hl : lv_has ls 8 [(0, .ref (gq G 0)), (1, .int a1), (2, .int a2), (3, .int a3), (4, .int a4), (5, .int a5)] := hl
  have B97 : ∀  (x : St) (H : Heap) (locs : List Loc) (ls : Array Slot), lv_has ls 8 [(0, .ref (gq G 0))] → Wd G s x m H locs → f3_copy_b97 x = some r → W p l e (rmF 2 60) s mm args below meth c H locs 0 0 (QE below G (some (.int r.1)) r.2 m args s) (F0 mm 97 ls []) := by
    intro  x H locs ls hl hw h
    unfold f3_copy_b97 at h
    refine lv_aload_n hx hb dX3_copy_97 rfl (lv_at hl 0 rfl) ?_
    refine lv_ldc hx hb hown (C.w kc_X3_48) dX3_copy_98 ?_
    obtain ⟨⟨v11, z10⟩, hq, h⟩ := p_bd h
    dsimp only at h
    refine w_Vi C hw (As := [.int (-1000001 : Int32)]) (rest := []) (c3_finding l G x m (-1000001 : Int32) (v11, z10) hq) kv_X3_finding ml_X3_49 ⟨rfl, rfl⟩ ⟨Nat.le_of_ble_eq_true rfl, Nat.le_of_ble_eq_true rfl⟩ ⟨Nat.zero_le _, Nat.zero_le _⟩ (w_recv C hw (wk_main G x m) rfl) rfl rfl (Nat.le_of_ble_eq_true rfl) (lv_sub hl [] rfl) dX3_copy_100 (fun H locs hw => ?_)
    replace h := Option.some.inj h
    subst h
    exact w_iret C hw (v := v11) rfl rfl dX3_copy_103
  have B47 : ∀  (x : St) (H : Heap) (locs : List Loc) (ls : Array Slot), lv_has ls 8 [(0, .ref (gq G 0))] → Wd G s x m H locs → f3_copy_b47 x = some r → W p l e (rmF 2 60) s mm args below meth c H locs 0 0 (QE below G (some (.int r.1)) r.2 m args s) (F0 mm 47 ls []) := by
    intro  x H locs ls hl hw h
    unfold f3_copy_b47 at h
    refine lv_aload_n hx hb dX3_copy_47 rfl (lv_at hl 0 rfl) ?_
    refine lv_ldc hx hb hown (C.w kc_X3_198) dX3_copy_48 ?_
    obtain ⟨⟨v9, z8⟩, hq, h⟩ := p_bd h
    dsimp only at h
    refine w_Vi C hw (As := [.int (-1000006 : Int32)]) (rest := []) (c3_finding l G x m (-1000006 : Int32) (v9, z8) hq) kv_X3_finding ml_X3_49 ⟨rfl, rfl⟩ ⟨Nat.le_of_ble_eq_true rfl, Nat.le_of_ble_eq_true rfl⟩ ⟨Nat.zero_le _, Nat.zero_le _⟩ (w_recv C hw (wk_main G x m) rfl) rfl rfl (Nat.le_of_ble_eq_true rfl) (lv_sub hl [] rfl) dX3_copy_50 (fun H locs hw => ?_)
    replace h := Option.some.inj h
    subst h
    exact w_iret C hw (v := v9) rfl rfl dX3_copy_53
  have B24 : ∀  (x : St) (H : Heap) (locs : List Loc) (ls : Array Slot), lv_has ls 8 [(0, .ref (gq G 0))] → Wd G s x m H locs → f3_copy_b24 x = some r → W p l e (rmF 2 60) s mm args below meth c H locs 0 0 (QE below G (some (.int r.1)) r.2 m args s) (F0 mm 24 ls []) := by
    intro  x H locs ls hl hw h
    unfold f3_copy_b24 at h
    refine lv_aload_n hx hb dX3_copy_24 rfl (lv_at hl 0 rfl) ?_
    refine lv_ldc hx hb hown (C.w kc_X3_48) dX3_copy_25 ?_
    obtain ⟨⟨v7, z6⟩, hq, h⟩ := p_bd h
    dsimp only at h
    refine w_Vi C hw (As := [.int (-1000001 : Int32)]) (rest := []) (c3_finding l G x m (-1000001 : Int32) (v7, z6) hq) kv_X3_finding ml_X3_49 ⟨rfl, rfl⟩ ⟨Nat.le_of_ble_eq_true rfl, Nat.le_of_ble_eq_true rfl⟩ ⟨Nat.zero_le _, Nat.zero_le _⟩ (w_recv C hw (wk_main G x m) rfl) rfl rfl (Nat.le_of_ble_eq_true rfl) (lv_sub hl [] rfl) dX3_copy_27 (fun H locs hw => ?_)
    replace h := Option.some.inj h
    subst h
    exact w_iret C hw (v := v7) rfl rfl dX3_copy_30
  unfold f3_copy at h
  refine lv_aload_n hx hb dX3_copy_0 rfl (lv_at hl 0 rfl) ?_
  refine lv_iload_n hx hb dX3_copy_1 rfl (lv_at hl 1 rfl) ?_
  by_cases hc : a1 < 0 ∨ 4 ≤ a1.toNatClampNeg
  · replace h := p_t hc h
    refine w_VaN C hw (As := [.int a1]) (rest := []) (c3_sheetAt_n l G x m a1 hc) kv_X3_sheetAt ml_X3_191 ⟨rfl, rfl⟩ ⟨Nat.le_of_ble_eq_true rfl, Nat.le_of_ble_eq_true rfl⟩ ⟨Nat.zero_le _, Nat.zero_le _⟩ (w_recv C hw (wk_main G x m) rfl) rfl rfl (Nat.le_of_ble_eq_true rfl) (lv_sub hl [] rfl) dX3_copy_2 (fun H locs hw => ?_)
    refine lv_astoreN (lv' := [(6, .null), (0, .ref (gq G 0)), (1, .int a1), (2, .int a2), (3, .int a3), (4, .int a4), (5, .int a5)]) hx hb dX3_copy_5 hl (by decide) rfl (fun ls hl => ?_)
    refine lv_aload_n hx hb dX3_copy_7 rfl (lv_at hl 1 rfl) ?_
    refine lv_iload_n hx hb dX3_copy_8 rfl (lv_at hl 4 rfl) ?_
    by_cases hc : a3 < 0 ∨ 4 ≤ a3.toNatClampNeg
    · replace h := p_t hc h
      refine w_VaN C hw (As := [.int a3]) (rest := []) (c3_sheetAt_n l G x m a3 hc) kv_X3_sheetAt ml_X3_191 ⟨rfl, rfl⟩ ⟨Nat.le_of_ble_eq_true rfl, Nat.le_of_ble_eq_true rfl⟩ ⟨Nat.zero_le _, Nat.zero_le _⟩ (w_recv C hw (wk_main G x m) rfl) rfl rfl (Nat.le_of_ble_eq_true rfl) (lv_sub hl [] rfl) dX3_copy_9 (fun H locs hw => ?_)
      refine lv_astoreN (lv' := [(7, .null), (6, .null), (0, .ref (gq G 0)), (1, .int a1), (2, .int a2), (3, .int a3), (4, .int a4), (5, .int a5)]) hx hb dX3_copy_12 hl (by decide) rfl (fun ls hl => ?_)
      refine lv_aloadN hx hb dX3_copy_14 (lv_at hl 1 rfl) ?_
      refine lv_ifnullN (tgt := 24) hx hb dX3_copy_16 (by decide) ?_
      exact B24 x _ _ _ (lv_sub hl [2] rfl) hw h
    · replace h := p_f hc h
      have hs2 : a3.toNatClampNeg < 4 := Nat.lt_of_not_le (fun z => hc (Or.inr z))
      refine w_Va C hw (As := [.int a3]) (rest := []) (c3_sheetAt_r l G x m a3 hc) kv_X3_sheetAt ml_X3_191 ⟨rfl, rfl⟩ ⟨Nat.le_of_ble_eq_true rfl, Nat.le_of_ble_eq_true rfl⟩ ⟨Nat.zero_le _, Nat.zero_le _⟩ (w_recv C hw (wk_main G x m) rfl) rfl rfl (Nat.le_of_ble_eq_true rfl) (lv_sub hl [] rfl) dX3_copy_9 (fun H locs hw => ?_)
      refine lv_astore (lv' := [(7, .ref (gq G (16 + 2 * (a3.toNatClampNeg)))), (6, .null), (0, .ref (gq G 0)), (1, .int a1), (2, .int a2), (3, .int a3), (4, .int a4), (5, .int a5)]) hx hb dX3_copy_12 hl (by decide) rfl (fun ls hl => ?_)
      refine lv_aloadN hx hb dX3_copy_14 (lv_at hl 1 rfl) ?_
      refine lv_ifnullN (tgt := 24) hx hb dX3_copy_16 (by decide) ?_
      exact B24 x _ _ _ (lv_sub hl [2] rfl) hw h
  · replace h := p_f hc h
    have hs1 : a1.toNatClampNeg < 4 := Nat.lt_of_not_le (fun z => hc (Or.inr z))
    refine w_Va C hw (As := [.int a1]) (rest := []) (c3_sheetAt_r l G x m a1 hc) kv_X3_sheetAt ml_X3_191 ⟨rfl, rfl⟩ ⟨Nat.le_of_ble_eq_true rfl, Nat.le_of_ble_eq_true rfl⟩ ⟨Nat.zero_le _, Nat.zero_le _⟩ (w_recv C hw (wk_main G x m) rfl) rfl rfl (Nat.le_of_ble_eq_true rfl) (lv_sub hl [] rfl) dX3_copy_2 (fun H locs hw => ?_)
    refine lv_astore (lv' := [(6, .ref (gq G (16 + 2 * (a1.toNatClampNeg)))), (0, .ref (gq G 0)), (1, .int a1), (2, .int a2), (3, .int a3), (4, .int a4), (5, .int a5)]) hx hb dX3_copy_5 hl (by decide) rfl (fun ls hl => ?_)
    refine lv_aload_n hx hb dX3_copy_7 rfl (lv_at hl 1 rfl) ?_
    refine lv_iload_n hx hb dX3_copy_8 rfl (lv_at hl 4 rfl) ?_
    by_cases hc : a3 < 0 ∨ 4 ≤ a3.toNatClampNeg
    · replace h := p_t hc h
      refine w_VaN C hw (As := [.int a3]) (rest := []) (c3_sheetAt_n l G x m a3 hc) kv_X3_sheetAt ml_X3_191 ⟨rfl, rfl⟩ ⟨Nat.le_of_ble_eq_true rfl, Nat.le_of_ble_eq_true rfl⟩ ⟨Nat.zero_le _, Nat.zero_le _⟩ (w_recv C hw (wk_main G x m) rfl) rfl rfl (Nat.le_of_ble_eq_true rfl) (lv_sub hl [] rfl) dX3_copy_9 (fun H locs hw => ?_)
      refine lv_astoreN (lv' := [(7, .null), (6, .ref (gq G (16 + 2 * (a1.toNatClampNeg)))), (0, .ref (gq G 0)), (1, .int a1), (2, .int a2), (3, .int a3), (4, .int a4), (5, .int a5)]) hx hb dX3_copy_12 hl (by decide) rfl (fun ls hl => ?_)
      refine lv_aload hx hb dX3_copy_14 (lv_at hl 1 rfl) ?_
      refine lv_ifnull hx hb dX3_copy_16 ?_
      refine lv_aloadN hx hb dX3_copy_19 (lv_at hl 0 rfl) ?_
      refine lv_ifnonnullN hx hb dX3_copy_21 ?_
      exact B24 x _ _ _ (lv_sub hl [2] rfl) hw h
    · replace h := p_f hc h
      have hs3 : a3.toNatClampNeg < 4 := Nat.lt_of_not_le (fun z => hc (Or.inr z))
      refine w_Va C hw (As := [.int a3]) (rest := []) (c3_sheetAt_r l G x m a3 hc) kv_X3_sheetAt ml_X3_191 ⟨rfl, rfl⟩ ⟨Nat.le_of_ble_eq_true rfl, Nat.le_of_ble_eq_true rfl⟩ ⟨Nat.zero_le _, Nat.zero_le _⟩ (w_recv C hw (wk_main G x m) rfl) rfl rfl (Nat.le_of_ble_eq_true rfl) (lv_sub hl [] rfl) dX3_copy_9 (fun H locs hw => ?_)
      refine lv_astore (lv' := [(7, .ref (gq G (16 + 2 * (a3.toNatClampNeg)))), (6, .ref (gq G (16 + 2 * (a1.toNatClampNeg)))), (0, .ref (gq G 0)), (1, .int a1), (2, .int a2), (3, .int a3), (4, .int a4), (5, .int a5)]) hx hb dX3_copy_12 hl (by decide) rfl (fun ls hl => ?_)
      refine lv_aload hx hb dX3_copy_14 (lv_at hl 1 rfl) ?_
      refine lv_ifnull hx hb dX3_copy_16 ?_
      refine lv_aload hx hb dX3_copy_19 (lv_at hl 0 rfl) ?_
      refine lv_ifnonnull (tgt := 31) hx hb dX3_copy_21 (by decide) ?_
      refine lv_aload hx hb dX3_copy_31 (lv_at hl 1 rfl) ?_
      refine w_Vi C hw (As := []) (rest := []) (c0_isMissing l G (a1.toNatClampNeg) hs1 x m _ rfl) kv_X0_isMissing ml_X3_195 ⟨rfl, rfl⟩ ⟨Nat.le_of_ble_eq_true rfl, Nat.le_of_ble_eq_true rfl⟩ ⟨Nat.zero_le _, Nat.zero_le _⟩ (w_recv C hw (wk_sheet G x m hs1) rfl) rfl rfl (Nat.le_of_ble_eq_true rfl) (lv_sub hl [] rfl) dX3_copy_33 (fun H locs hw => ?_)
      refine lv_if_ne (tgt := 47) hx hb dX3_copy_36 (by decide) (fun hc => ?_) (fun hc => ?_)
      · replace h := p_f hc h
        exact B47 x _ _ _ (lv_sub hl [2] rfl) hw h
      · replace h := p_t hc h
        refine lv_aload hx hb dX3_copy_39 (lv_at hl 0 rfl) ?_
        refine w_Vi C hw (As := []) (rest := []) (c0_isMissing l G (a3.toNatClampNeg) hs3 x m _ rfl) kv_X0_isMissing ml_X3_195 ⟨rfl, rfl⟩ ⟨Nat.le_of_ble_eq_true rfl, Nat.le_of_ble_eq_true rfl⟩ ⟨Nat.zero_le _, Nat.zero_le _⟩ (w_recv C hw (wk_sheet G x m hs3) rfl) rfl rfl (Nat.le_of_ble_eq_true rfl) (lv_sub hl [] rfl) dX3_copy_41 (fun H locs hw => ?_)
        refine lv_if_eq (tgt := 54) hx hb dX3_copy_44 (by decide) (fun hc => ?_) (fun hc => ?_)
        · replace h := p_t hc h
          refine lv_aload hx hb dX3_copy_54 (lv_at hl 1 rfl) ?_
          refine w_getN C hw (v := .int (x (16 + 2 * (a1.toNatClampNeg)) 1)) (k := 1) (wk_sheet G x m hs1) rfl it_0 (by decide) (List.mem_of_getElem? (i := 9) rfl) rfl dX3_copy_56 ?_
          refine lv_aload hx hb dX3_copy_59 (lv_at hl 0 rfl) ?_
          refine w_getN C hw (v := .int (x (16 + 2 * (a3.toNatClampNeg)) 1)) (k := 1) (wk_sheet G x m hs3) rfl it_0 (by decide) (List.mem_of_getElem? (i := 9) rfl) rfl dX3_copy_61 ?_
          refine lv_icmp_eq (tgt := 74) hx hb dX3_copy_64 (by decide) (fun hc => ?_) (fun hc => ?_)
          · replace h := p_t hc h
            refine lv_aload hx hb dX3_copy_74 (lv_at hl 1 rfl) ?_
            refine lv_iload_n hx hb dX3_copy_76 rfl (lv_at hl 4 rfl) ?_
            refine lv_iload hx hb dX3_copy_77 (lv_at hl 7 rfl) ?_
            refine w_Vi C hw (As := [.int a2, .int a5]) (rest := []) (c0_hasNumbers l G (a1.toNatClampNeg) hs1 x m a2 a5 _ rfl) kv_X0_hasNumbers ml_X3_246 ⟨rfl, rfl⟩ ⟨Nat.le_of_ble_eq_true rfl, Nat.le_of_ble_eq_true rfl⟩ ⟨Nat.zero_le _, Nat.zero_le _⟩ (w_recv C hw (wk_sheet G x m hs1) rfl) rfl rfl (Nat.le_of_ble_eq_true rfl) (lv_sub hl [] rfl) dX3_copy_79 (fun H locs hw => ?_)
            refine lv_if_eq (tgt := 97) hx hb dX3_copy_82 (by decide) (fun hc => ?_) (fun hc => ?_)
            · replace h := p_t hc h
              exact B97 x _ _ _ (lv_sub hl [2] rfl) hw h
            · replace h := p_f hc h
              refine lv_aload hx hb dX3_copy_85 (lv_at hl 0 rfl) ?_
              refine lv_iload hx hb dX3_copy_87 (lv_at hl 6 rfl) ?_
              refine lv_iload hx hb dX3_copy_89 (lv_at hl 7 rfl) ?_
              refine w_Vi C hw (As := [.int a4, .int a5]) (rest := []) (c0_hasNumbers l G (a3.toNatClampNeg) hs3 x m a4 a5 _ rfl) kv_X0_hasNumbers ml_X3_246 ⟨rfl, rfl⟩ ⟨Nat.le_of_ble_eq_true rfl, Nat.le_of_ble_eq_true rfl⟩ ⟨Nat.zero_le _, Nat.zero_le _⟩ (w_recv C hw (wk_sheet G x m hs3) rfl) rfl rfl (Nat.le_of_ble_eq_true rfl) (lv_sub hl [] rfl) dX3_copy_91 (fun H locs hw => ?_)
              refine lv_if_ne (tgt := 104) hx hb dX3_copy_94 (by decide) (fun hc => ?_) (fun hc => ?_)
              · replace h := p_f hc h
                refine lv_aload hx hb dX3_copy_104 (lv_at hl 1 rfl) ?_
                refine w_getN C hw (v := .ref (gq G (17 + 2 * (a1.toNatClampNeg)))) (k := 0) (wk_sheet G x m hs1) rfl it_0 (by decide) (List.mem_of_getElem? (i := 8) rfl) rfl dX3_copy_106 ?_
                refine lv_iload_n hx hb dX3_copy_109 rfl (lv_at hl 4 rfl) ?_
                refine lv_aload hx hb dX3_copy_110 (lv_at hl 0 rfl) ?_
                refine w_getN C hw (v := .ref (gq G (17 + 2 * (a3.toNatClampNeg)))) (k := 0) (wk_sheet G x m hs3) rfl it_0 (by decide) (List.mem_of_getElem? (i := 8) rfl) rfl dX3_copy_112 ?_
                refine lv_iload hx hb dX3_copy_115 (lv_at hl 6 rfl) ?_
                refine lv_iload hx hb dX3_copy_117 (lv_at hl 7 rfl) ?_
                obtain ⟨hq, h⟩ := p_if h
                refine w_copy C hw (lv_sub hl [] rfl) (ax_nu hs1) (ax_nu hs3) hq ml_X3_252 ⟨Nat.le_of_ble_eq_true rfl, Nat.le_of_ble_eq_true rfl⟩  (Nat.le_of_ble_eq_true rfl) dX3_copy_119 (fun H locs hw => ?_)
                refine lv_iload hx hb dX3_copy_122 (lv_at hl 7 rfl) ?_
                replace h := Option.some.inj h
                subst h
                exact w_iret C hw (v := a5) rfl rfl dX3_copy_124
              · replace h := p_t hc h
                exact B97 x _ _ _ (lv_sub hl [2] rfl) hw h
          · replace h := p_f hc h
            refine lv_aload_n hx hb dX3_copy_67 rfl (lv_at hl 2 rfl) ?_
            refine lv_ldc hx hb hown (C.w kc_X3_235) dX3_copy_68 ?_
            obtain ⟨⟨v5, z4⟩, hq, h⟩ := p_bd h
            dsimp only at h
            refine w_Vi C hw (As := [.int (-1000003 : Int32)]) (rest := []) (c3_finding l G x m (-1000003 : Int32) (v5, z4) hq) kv_X3_finding ml_X3_49 ⟨rfl, rfl⟩ ⟨Nat.le_of_ble_eq_true rfl, Nat.le_of_ble_eq_true rfl⟩ ⟨Nat.zero_le _, Nat.zero_le _⟩ (w_recv C hw (wk_main G x m) rfl) rfl rfl (Nat.le_of_ble_eq_true rfl) (lv_sub hl [] rfl) dX3_copy_70 (fun H locs hw => ?_)
            replace h := Option.some.inj h
            subst h
            exact w_iret C hw (v := v5) rfl rfl dX3_copy_73
        · replace h := p_f hc h
          exact B47 x _ _ _ (lv_sub hl [2] rfl) hw h

def f3_load_L36   : Nat → Nat → Int32 → Int32 → St → Option (Int32 × St)
  | 0, _, _, _, _ => none
  | n + 1, jb2, b3, b4, x =>
    if (x (16 + 2 * jb2) 2) ≤ b4 then
      some (b3, x)
    else
      if (f3_isCorner b4) = 0 then
        some (b3, x)
      else
        (f0_number jb2 b4 x).bind fun v6 =>
        (f3_isTrait (0 : Int32) v6 x).bind fun v7 =>
        if v7 = 0 then
          some (b3, x)
        else
          (f0_number jb2 b4 x).bind fun v8 =>
          (f2_setTrait 0 b4 (0 : Int32) v8 x).bind fun z9 =>
          (f3_load_L36 n) jb2 (b3 + (1 : Int32)) (b4 + (1 : Int32)) z9
theorem f3_load_L36_0   (jb2 : Nat) (b3 : Int32) (b4 : Int32) (x : St) : f3_load_L36  0 jb2 b3 b4 x = none := rfl
theorem f3_load_L36_s   (n : Nat) (jb2 : Nat) (b3 : Int32) (b4 : Int32) (x : St) : f3_load_L36  (n + 1) jb2 b3 b4 x =
    if (x (16 + 2 * jb2) 2) ≤ b4 then
      some (b3, x)
    else
      if (f3_isCorner b4) = 0 then
        some (b3, x)
      else
        (f0_number jb2 b4 x).bind fun v6 =>
        (f3_isTrait (0 : Int32) v6 x).bind fun v7 =>
        if v7 = 0 then
          some (b3, x)
        else
          (f0_number jb2 b4 x).bind fun v8 =>
          (f2_setTrait 0 b4 (0 : Int32) v8 x).bind fun z9 =>
          (f3_load_L36 n) jb2 (b3 + (1 : Int32)) (b4 + (1 : Int32)) z9 := rfl
def f3_load  (a1 : Int32) (x : St) : Option (Int32 × St) :=
  if a1 < 0 ∨ 4 ≤ a1.toNatClampNeg then
    (f3_finding (-1000001 : Int32) x).bind fun q => match q with
    | (v3, z2) =>
      some (v3, z2)
  else
    if (f0_isMissing (a1.toNatClampNeg) x) = 0 then
      f3_load_L36 fu (a1.toNatClampNeg) (0 : Int32) (0 : Int32) x
    else
      (f3_finding (-1000006 : Int32) x).bind fun q => match q with
      | (v5, z4) =>
        some (v5, z4)
set_option maxHeartbeats 4000000 in
set_option maxRecDepth 100000 in
theorem c3_load (l : Launch) (G : GT)  (x m : St) (a1 : Int32) (r : Int32 × St) (h : f3_load a1 x = some r) : Mt l yX3_load cX3_load 5 (some .int) (rmF 2 45) G x m [.ref (gq G 0), .int a1] (some (.int r.1)) r.2 m := by
  refine Mt.of (by decide) (Nat.le_of_ble_eq_true rfl) ?_
  intro p e s mm args below meth c C ls hl hw
  have hx := C.1
  have hb := C.2.1
  have hown := C.2.2.2.2.1
  replace hl : lv_has ls 5 [(0, .ref (gq G 0)), (1, .int a1)] := hl
  have L36 : ∀ (n36 : Nat) (jb2 : Nat) (hjb2 : jb2 < 4) (b3 : Int32) (b4 : Int32) (x : St) (H : Heap) (locs : List Loc) (ls : Array Slot), lv_has ls 5 [(0, .ref (gq G 0)), (2, .ref (gq G (16 + 2 * jb2))), (3, .int b3), (4, .int b4)] → Wd G s x m H locs → f3_load_L36 n36 jb2 b3 b4 x = some r → W p l e (rmF 2 45) s mm args below meth c H locs 0 0 (QE below G (some (.int r.1)) r.2 m args s) (F0 mm 36 ls []) := by
    intro n36
    induction n36 with
    | zero =>
      intro jb2 hjb2 b3 b4 x H locs ls hl hw h
      rw [f3_load_L36_0] at h
      exact absurd h.symm (Option.some_ne_none _)
    | succ n36 ih36 =>
      intro jb2 hjb2 b3 b4 x H locs ls hl hw h
      rw [f3_load_L36_s] at h
      refine lv_iload hx hb dX3_load_36 (lv_at hl 3 rfl) ?_
      refine lv_aload_n hx hb dX3_load_38 rfl (lv_at hl 1 rfl) ?_
      refine w_getN C hw (v := .int (x (16 + 2 * jb2) 2)) (k := 2) (wk_sheet G x m hjb2) rfl it_0 (by decide) (List.mem_of_getElem? (i := 10) rfl) rfl dX3_load_39 ?_
      refine lv_icmp_ge (tgt := 91) hx hb dX3_load_42 (by decide) (fun hc => ?_) (fun hc => ?_)
      · replace h := p_t hc h
        refine lv_iload_n hx hb dX3_load_91 rfl (lv_at hl 2 rfl) ?_
        replace h := Option.some.inj h
        subst h
        exact w_iret C hw (v := b3) rfl rfl dX3_load_92
      · replace h := p_f hc h
        refine lv_iload hx hb dX3_load_45 (lv_at hl 3 rfl) ?_
        refine w_Si C hw (As := [.int b4]) (rest := []) (c3_isCorner l G x m b4 _ rfl) ks_X3_isCorner ml_X3_40 ⟨rfl, rfl⟩ ⟨Nat.le_of_ble_eq_true rfl, Nat.le_of_ble_eq_true rfl⟩ ⟨Nat.zero_le _, Nat.zero_le _⟩ rfl rfl (Nat.le_of_ble_eq_true rfl) (lv_sub hl [] rfl) dX3_load_47 (fun H locs hw => ?_)
        refine lv_if_eq (tgt := 91) hx hb dX3_load_50 (by decide) (fun hc => ?_) (fun hc => ?_)
        · replace h := p_t hc h
          refine lv_iload_n hx hb dX3_load_91 rfl (lv_at hl 2 rfl) ?_
          replace h := Option.some.inj h
          subst h
          exact w_iret C hw (v := b3) rfl rfl dX3_load_92
        · replace h := p_f hc h
          refine lv_iconst (v := (0 : Int32)) hx hb dX3_load_53 (by decide) ?_
          refine lv_aload_n hx hb dX3_load_54 rfl (lv_at hl 1 rfl) ?_
          refine lv_iload hx hb dX3_load_55 (lv_at hl 3 rfl) ?_
          obtain ⟨v6, hq, h⟩ := p_bd h
          refine w_Vi C hw (As := [.int b4]) (rest := [.int (0 : Int32)]) (c0_number l G jb2 hjb2 x m b4 v6 hq) kv_X0_number ml_X3_202 ⟨rfl, rfl⟩ ⟨Nat.le_of_ble_eq_true rfl, Nat.le_of_ble_eq_true rfl⟩ ⟨Nat.zero_le _, Nat.zero_le _⟩ (w_recv C hw (wk_sheet G x m hjb2) rfl) rfl rfl (Nat.le_of_ble_eq_true rfl) (lv_sub hl [] rfl) dX3_load_57 (fun H locs hw => ?_)
          obtain ⟨v7, hq, h⟩ := p_bd h
          refine w_Si C hw (As := [.int (0 : Int32), .int v6]) (rest := []) (c3_isTrait l G x m (0 : Int32) v6 v7 hq) ks_X3_isTrait ml_X3_69 ⟨rfl, rfl⟩ ⟨Nat.le_of_ble_eq_true rfl, Nat.le_of_ble_eq_true rfl⟩ ⟨Nat.zero_le _, Nat.zero_le _⟩ rfl rfl (Nat.le_of_ble_eq_true rfl) (lv_sub hl [] rfl) dX3_load_60 (fun H locs hw => ?_)
          refine lv_if_eq (tgt := 91) hx hb dX3_load_63 (by decide) (fun hc => ?_) (fun hc => ?_)
          · replace h := p_t hc h
            refine lv_iload_n hx hb dX3_load_91 rfl (lv_at hl 2 rfl) ?_
            replace h := Option.some.inj h
            subst h
            exact w_iret C hw (v := b3) rfl rfl dX3_load_92
          · replace h := p_f hc h
            refine lv_aload_n hx hb dX3_load_66 rfl (lv_at hl 0 rfl) ?_
            refine w_get C hw (v := .ref (gq G (1 + 4 * 0))) (k := 0) (wk_main G x m) rfl it_3 (by decide) fl_X3_10 rfl dX3_load_67 ?_
            refine lv_iload hx hb dX3_load_70 (lv_at hl 3 rfl) ?_
            refine lv_iconst (v := (0 : Int32)) hx hb dX3_load_72 (by decide) ?_
            refine lv_aload_n hx hb dX3_load_73 rfl (lv_at hl 1 rfl) ?_
            refine lv_iload hx hb dX3_load_74 (lv_at hl 3 rfl) ?_
            obtain ⟨v8, hq, h⟩ := p_bd h
            refine w_Vi C hw (As := [.int b4]) (rest := [.int (0 : Int32), .int b4, .ref (gq G (1 + 4 * 0))]) (c0_number l G jb2 hjb2 x m b4 v8 hq) kv_X0_number ml_X3_202 ⟨rfl, rfl⟩ ⟨Nat.le_of_ble_eq_true rfl, Nat.le_of_ble_eq_true rfl⟩ ⟨Nat.zero_le _, Nat.zero_le _⟩ (w_recv C hw (wk_sheet G x m hjb2) rfl) rfl rfl (Nat.le_of_ble_eq_true rfl) (lv_sub hl [] rfl) dX3_load_76 (fun H locs hw => ?_)
            obtain ⟨z9, hq, h⟩ := p_bd h
            refine w_Vv C hw (As := [.int b4, .int (0 : Int32), .int v8]) (rest := []) (c2_setTrait l G 0 (by decide) x m b4 (0 : Int32) v8 z9 hq) kv_X2_setTrait ml_X3_73 ⟨rfl, rfl⟩ ⟨Nat.le_of_ble_eq_true rfl, Nat.le_of_ble_eq_true rfl⟩ ⟨Nat.zero_le _, Nat.zero_le _⟩ (w_recv C hw (wk_town G x m (by decide)) rfl) rfl rfl (Nat.le_of_ble_eq_true rfl) (lv_sub hl [] rfl) dX3_load_79 (fun H locs hw => ?_)
            refine lv_iinc (v := (b3 + (1 : Int32))) (lv' := [(3, .int (b3 + (1 : Int32))), (0, .ref (gq G 0)), (2, .ref (gq G (16 + 2 * jb2))), (4, .int b4)]) hx hb dX3_load_82 hl (k := 2) rfl rfl (by decide) rfl (fun ls hl => ?_)
            refine lv_iinc (v := (b4 + (1 : Int32))) (lv' := [(4, .int (b4 + (1 : Int32))), (3, .int (b3 + (1 : Int32))), (0, .ref (gq G 0)), (2, .ref (gq G (16 + 2 * jb2)))]) hx hb dX3_load_85 hl (k := 3) rfl rfl (by decide) rfl (fun ls hl => ?_)
            refine lv_goto (tgt := 36) hx hb dX3_load_88 (by decide) ?_
            exact ih36 jb2 hjb2 (b3 + (1 : Int32)) (b4 + (1 : Int32)) z9 _ _ _ (lv_sub hl [2, 3, 1, 0] rfl) hw h
  unfold f3_load at h
  refine lv_aload_n hx hb dX3_load_0 rfl (lv_at hl 0 rfl) ?_
  refine lv_iload_n hx hb dX3_load_1 rfl (lv_at hl 1 rfl) ?_
  by_cases hc : a1 < 0 ∨ 4 ≤ a1.toNatClampNeg
  · replace h := p_t hc h
    refine w_VaN C hw (As := [.int a1]) (rest := []) (c3_sheetAt_n l G x m a1 hc) kv_X3_sheetAt ml_X3_191 ⟨rfl, rfl⟩ ⟨Nat.le_of_ble_eq_true rfl, Nat.le_of_ble_eq_true rfl⟩ ⟨Nat.zero_le _, Nat.zero_le _⟩ (w_recv C hw (wk_main G x m) rfl) rfl rfl (Nat.le_of_ble_eq_true rfl) (lv_sub hl [] rfl) dX3_load_2 (fun H locs hw => ?_)
    refine lv_astore_nN (lv' := [(2, .null), (0, .ref (gq G 0)), (1, .int a1)]) hx hb dX3_load_5 rfl hl (by decide) rfl (fun ls hl => ?_)
    refine lv_aload_nN hx hb dX3_load_6 rfl (lv_at hl 0 rfl) ?_
    refine lv_ifnonnullN hx hb dX3_load_7 ?_
    refine lv_aload_n hx hb dX3_load_10 rfl (lv_at hl 1 rfl) ?_
    refine lv_ldc hx hb hown (C.w kc_X3_48) dX3_load_11 ?_
    obtain ⟨⟨v3, z2⟩, hq, h⟩ := p_bd h
    dsimp only at h
    refine w_Vi C hw (As := [.int (-1000001 : Int32)]) (rest := []) (c3_finding l G x m (-1000001 : Int32) (v3, z2) hq) kv_X3_finding ml_X3_49 ⟨rfl, rfl⟩ ⟨Nat.le_of_ble_eq_true rfl, Nat.le_of_ble_eq_true rfl⟩ ⟨Nat.zero_le _, Nat.zero_le _⟩ (w_recv C hw (wk_main G x m) rfl) rfl rfl (Nat.le_of_ble_eq_true rfl) (lv_sub hl [] rfl) dX3_load_13 (fun H locs hw => ?_)
    replace h := Option.some.inj h
    subst h
    exact w_iret C hw (v := v3) rfl rfl dX3_load_16
  · replace h := p_f hc h
    have hs1 : a1.toNatClampNeg < 4 := Nat.lt_of_not_le (fun z => hc (Or.inr z))
    refine w_Va C hw (As := [.int a1]) (rest := []) (c3_sheetAt_r l G x m a1 hc) kv_X3_sheetAt ml_X3_191 ⟨rfl, rfl⟩ ⟨Nat.le_of_ble_eq_true rfl, Nat.le_of_ble_eq_true rfl⟩ ⟨Nat.zero_le _, Nat.zero_le _⟩ (w_recv C hw (wk_main G x m) rfl) rfl rfl (Nat.le_of_ble_eq_true rfl) (lv_sub hl [] rfl) dX3_load_2 (fun H locs hw => ?_)
    refine lv_astore_n (lv' := [(2, .ref (gq G (16 + 2 * (a1.toNatClampNeg)))), (0, .ref (gq G 0)), (1, .int a1)]) hx hb dX3_load_5 rfl hl (by decide) rfl (fun ls hl => ?_)
    refine lv_aload_n hx hb dX3_load_6 rfl (lv_at hl 0 rfl) ?_
    refine lv_ifnonnull (tgt := 17) hx hb dX3_load_7 (by decide) ?_
    refine lv_aload_n hx hb dX3_load_17 rfl (lv_at hl 0 rfl) ?_
    refine w_Vi C hw (As := []) (rest := []) (c0_isMissing l G (a1.toNatClampNeg) hs1 x m _ rfl) kv_X0_isMissing ml_X3_195 ⟨rfl, rfl⟩ ⟨Nat.le_of_ble_eq_true rfl, Nat.le_of_ble_eq_true rfl⟩ ⟨Nat.zero_le _, Nat.zero_le _⟩ (w_recv C hw (wk_sheet G x m hs1) rfl) rfl rfl (Nat.le_of_ble_eq_true rfl) (lv_sub hl [] rfl) dX3_load_18 (fun H locs hw => ?_)
    refine lv_if_eq (tgt := 31) hx hb dX3_load_21 (by decide) (fun hc => ?_) (fun hc => ?_)
    · replace h := p_t hc h
      refine lv_iconst (v := (0 : Int32)) hx hb dX3_load_31 (by decide) ?_
      refine lv_istore_n (lv' := [(3, .int (0 : Int32)), (2, .ref (gq G (16 + 2 * (a1.toNatClampNeg)))), (0, .ref (gq G 0)), (1, .int a1)]) hx hb dX3_load_32 rfl hl (by decide) rfl (fun ls hl => ?_)
      refine lv_iconst (v := (0 : Int32)) hx hb dX3_load_33 (by decide) ?_
      refine lv_istore (lv' := [(4, .int (0 : Int32)), (3, .int (0 : Int32)), (2, .ref (gq G (16 + 2 * (a1.toNatClampNeg)))), (0, .ref (gq G 0)), (1, .int a1)]) hx hb dX3_load_34 hl (by decide) rfl (fun ls hl => ?_)
      exact L36 fu (a1.toNatClampNeg) hs1 (0 : Int32) (0 : Int32) x _ _ _ (lv_sub hl [3, 2, 1, 0] rfl) hw h
    · replace h := p_f hc h
      refine lv_aload_n hx hb dX3_load_24 rfl (lv_at hl 1 rfl) ?_
      refine lv_ldc hx hb hown (C.w kc_X3_198) dX3_load_25 ?_
      obtain ⟨⟨v5, z4⟩, hq, h⟩ := p_bd h
      dsimp only at h
      refine w_Vi C hw (As := [.int (-1000006 : Int32)]) (rest := []) (c3_finding l G x m (-1000006 : Int32) (v5, z4) hq) kv_X3_finding ml_X3_49 ⟨rfl, rfl⟩ ⟨Nat.le_of_ble_eq_true rfl, Nat.le_of_ble_eq_true rfl⟩ ⟨Nat.zero_le _, Nat.zero_le _⟩ (w_recv C hw (wk_main G x m) rfl) rfl rfl (Nat.le_of_ble_eq_true rfl) (lv_sub hl [] rfl) dX3_load_27 (fun H locs hw => ?_)
      replace h := Option.some.inj h
      subst h
      exact w_iret C hw (v := v5) rfl rfl dX3_load_30

def f3_judge_b64   (b3 : Int32) (x : St) : Option (Int32 × St) :=
  some (((1 : Int32) + b3), x)
def f3_judge_L33   : Nat → Nat → Int32 → St → Option (Int32 × St)
  | 0, _, _, _ => none
  | n + 1, jb2, b3, x =>
    if (x (16 + 2 * jb2) 2) ≤ b3 then
      some ((0 : Int32), x)
    else
      if (f3_isCorner b3) = 0 then
        f3_judge_b64 b3 x
      else
        (f0_number jb2 b3 x).bind fun v6 =>
        (f2_loudAt 0 b3 x).bind fun v7 =>
        if v6 = v7 then
          (f3_judge_L33 n) jb2 (b3 + (1 : Int32)) x
        else
          f3_judge_b64 b3 x
theorem f3_judge_L33_0   (jb2 : Nat) (b3 : Int32) (x : St) : f3_judge_L33  0 jb2 b3 x = none := rfl
theorem f3_judge_L33_s   (n : Nat) (jb2 : Nat) (b3 : Int32) (x : St) : f3_judge_L33  (n + 1) jb2 b3 x =
    if (x (16 + 2 * jb2) 2) ≤ b3 then
      some ((0 : Int32), x)
    else
      if (f3_isCorner b3) = 0 then
        f3_judge_b64 b3 x
      else
        (f0_number jb2 b3 x).bind fun v6 =>
        (f2_loudAt 0 b3 x).bind fun v7 =>
        if v6 = v7 then
          (f3_judge_L33 n) jb2 (b3 + (1 : Int32)) x
        else
          f3_judge_b64 b3 x := rfl
def f3_judge  (a1 : Int32) (x : St) : Option (Int32 × St) :=
  if a1 < 0 ∨ 4 ≤ a1.toNatClampNeg then
    (f3_finding (-1000001 : Int32) x).bind fun q => match q with
    | (v3, z2) =>
      some (v3, z2)
  else
    if (f0_isMissing (a1.toNatClampNeg) x) = 0 then
      f3_judge_L33 fu (a1.toNatClampNeg) (0 : Int32) x
    else
      (f3_finding (-1000006 : Int32) x).bind fun q => match q with
      | (v5, z4) =>
        some (v5, z4)
set_option maxHeartbeats 4000000 in
set_option maxRecDepth 100000 in
theorem c3_judge (l : Launch) (G : GT)  (x m : St) (a1 : Int32) (r : Int32 × St) (h : f3_judge a1 x = some r) : Mt l yX3_judge cX3_judge 4 (some .int) (rmF 3 68) G x m [.ref (gq G 0), .int a1] (some (.int r.1)) r.2 m := by
  refine Mt.of (by decide) (Nat.le_of_ble_eq_true rfl) ?_
  intro p e s mm args below meth c C ls hl hw
  have hx := C.1
  have hb := C.2.1
  have hown := C.2.2.2.2.1
  replace hl : lv_has ls 4 [(0, .ref (gq G 0)), (1, .int a1)] := hl
  have B64 : ∀ (b3 : Int32) (x : St) (H : Heap) (locs : List Loc) (ls : Array Slot), lv_has ls 4 [(3, .int b3)] → Wd G s x m H locs → f3_judge_b64 b3 x = some r → W p l e (rmF 3 68) s mm args below meth c H locs 0 0 (QE below G (some (.int r.1)) r.2 m args s) (F0 mm 64 ls []) := by
    intro b3 x H locs ls hl hw h
    unfold f3_judge_b64 at h
    refine lv_iconst (v := (1 : Int32)) hx hb dX3_judge_64 (by decide) ?_
    refine lv_iload_n hx hb dX3_judge_65 rfl (lv_at hl 0 rfl) ?_
    refine lv_iadd hx hb dX3_judge_66 ?_
    replace h := Option.some.inj h
    subst h
    exact w_iret C hw (v := ((1 : Int32) + b3)) rfl rfl dX3_judge_67
  have L33 : ∀ (n33 : Nat) (jb2 : Nat) (hjb2 : jb2 < 4) (b3 : Int32) (x : St) (H : Heap) (locs : List Loc) (ls : Array Slot), lv_has ls 4 [(0, .ref (gq G 0)), (2, .ref (gq G (16 + 2 * jb2))), (3, .int b3)] → Wd G s x m H locs → f3_judge_L33 n33 jb2 b3 x = some r → W p l e (rmF 3 68) s mm args below meth c H locs 0 0 (QE below G (some (.int r.1)) r.2 m args s) (F0 mm 33 ls []) := by
    intro n33
    induction n33 with
    | zero =>
      intro jb2 hjb2 b3 x H locs ls hl hw h
      rw [f3_judge_L33_0] at h
      exact absurd h.symm (Option.some_ne_none _)
    | succ n33 ih33 =>
      intro jb2 hjb2 b3 x H locs ls hl hw h
      rw [f3_judge_L33_s] at h
      refine lv_iload_n hx hb dX3_judge_33 rfl (lv_at hl 2 rfl) ?_
      refine lv_aload_n hx hb dX3_judge_34 rfl (lv_at hl 1 rfl) ?_
      refine w_getN C hw (v := .int (x (16 + 2 * jb2) 2)) (k := 2) (wk_sheet G x m hjb2) rfl it_0 (by decide) (List.mem_of_getElem? (i := 10) rfl) rfl dX3_judge_35 ?_
      refine lv_icmp_ge (tgt := 74) hx hb dX3_judge_38 (by decide) (fun hc => ?_) (fun hc => ?_)
      · replace h := p_t hc h
        refine lv_iconst (v := (0 : Int32)) hx hb dX3_judge_74 (by decide) ?_
        replace h := Option.some.inj h
        subst h
        exact w_iret C hw (v := (0 : Int32)) rfl rfl dX3_judge_75
      · replace h := p_f hc h
        refine lv_iload_n hx hb dX3_judge_41 rfl (lv_at hl 2 rfl) ?_
        refine w_Si C hw (As := [.int b3]) (rest := []) (c3_isCorner l G x m b3 _ rfl) ks_X3_isCorner ml_X3_40 ⟨rfl, rfl⟩ ⟨Nat.le_of_ble_eq_true rfl, Nat.le_of_ble_eq_true rfl⟩ ⟨Nat.zero_le _, Nat.zero_le _⟩ rfl rfl (Nat.le_of_ble_eq_true rfl) (lv_sub hl [] rfl) dX3_judge_42 (fun H locs hw => ?_)
        refine lv_if_eq (tgt := 64) hx hb dX3_judge_45 (by decide) (fun hc => ?_) (fun hc => ?_)
        · replace h := p_t hc h
          exact B64 b3 x _ _ _ (lv_sub hl [2] rfl) hw h
        · replace h := p_f hc h
          refine lv_aload_n hx hb dX3_judge_48 rfl (lv_at hl 1 rfl) ?_
          refine lv_iload_n hx hb dX3_judge_49 rfl (lv_at hl 2 rfl) ?_
          obtain ⟨v6, hq, h⟩ := p_bd h
          refine w_Vi C hw (As := [.int b3]) (rest := []) (c0_number l G jb2 hjb2 x m b3 v6 hq) kv_X0_number ml_X3_202 ⟨rfl, rfl⟩ ⟨Nat.le_of_ble_eq_true rfl, Nat.le_of_ble_eq_true rfl⟩ ⟨Nat.zero_le _, Nat.zero_le _⟩ (w_recv C hw (wk_sheet G x m hjb2) rfl) rfl rfl (Nat.le_of_ble_eq_true rfl) (lv_sub hl [] rfl) dX3_judge_50 (fun H locs hw => ?_)
          refine lv_aload_n hx hb dX3_judge_53 rfl (lv_at hl 0 rfl) ?_
          refine w_get C hw (v := .ref (gq G (1 + 4 * 0))) (k := 0) (wk_main G x m) rfl it_3 (by decide) fl_X3_10 rfl dX3_judge_54 ?_
          refine lv_iload_n hx hb dX3_judge_57 rfl (lv_at hl 2 rfl) ?_
          obtain ⟨v7, hq, h⟩ := p_bd h
          refine w_Vi C hw (As := [.int b3]) (rest := [.int v6]) (c2_loudAt l G 0 (by decide) x m b3 v7 hq) kv_X2_loudAt ml_X3_56 ⟨rfl, rfl⟩ ⟨Nat.le_of_ble_eq_true rfl, Nat.le_of_ble_eq_true rfl⟩ ⟨Nat.zero_le _, Nat.zero_le _⟩ (w_recv C hw (wk_town G x m (by decide)) rfl) rfl rfl (Nat.le_of_ble_eq_true rfl) (lv_sub hl [] rfl) dX3_judge_58 (fun H locs hw => ?_)
          refine lv_icmp_eq (tgt := 68) hx hb dX3_judge_61 (by decide) (fun hc => ?_) (fun hc => ?_)
          · replace h := p_t hc h
            refine lv_iinc (v := (b3 + (1 : Int32))) (lv' := [(3, .int (b3 + (1 : Int32))), (0, .ref (gq G 0)), (2, .ref (gq G (16 + 2 * jb2)))]) hx hb dX3_judge_68 hl (k := 2) rfl rfl (by decide) rfl (fun ls hl => ?_)
            refine lv_goto (tgt := 33) hx hb dX3_judge_71 (by decide) ?_
            exact ih33 jb2 hjb2 (b3 + (1 : Int32)) x _ _ _ (lv_sub hl [1, 2, 0] rfl) hw h
          · replace h := p_f hc h
            exact B64 b3 x _ _ _ (lv_sub hl [2] rfl) hw h
  unfold f3_judge at h
  refine lv_aload_n hx hb dX3_judge_0 rfl (lv_at hl 0 rfl) ?_
  refine lv_iload_n hx hb dX3_judge_1 rfl (lv_at hl 1 rfl) ?_
  by_cases hc : a1 < 0 ∨ 4 ≤ a1.toNatClampNeg
  · replace h := p_t hc h
    refine w_VaN C hw (As := [.int a1]) (rest := []) (c3_sheetAt_n l G x m a1 hc) kv_X3_sheetAt ml_X3_191 ⟨rfl, rfl⟩ ⟨Nat.le_of_ble_eq_true rfl, Nat.le_of_ble_eq_true rfl⟩ ⟨Nat.zero_le _, Nat.zero_le _⟩ (w_recv C hw (wk_main G x m) rfl) rfl rfl (Nat.le_of_ble_eq_true rfl) (lv_sub hl [] rfl) dX3_judge_2 (fun H locs hw => ?_)
    refine lv_astore_nN (lv' := [(2, .null), (0, .ref (gq G 0)), (1, .int a1)]) hx hb dX3_judge_5 rfl hl (by decide) rfl (fun ls hl => ?_)
    refine lv_aload_nN hx hb dX3_judge_6 rfl (lv_at hl 0 rfl) ?_
    refine lv_ifnonnullN hx hb dX3_judge_7 ?_
    refine lv_aload_n hx hb dX3_judge_10 rfl (lv_at hl 1 rfl) ?_
    refine lv_ldc hx hb hown (C.w kc_X3_48) dX3_judge_11 ?_
    obtain ⟨⟨v3, z2⟩, hq, h⟩ := p_bd h
    dsimp only at h
    refine w_Vi C hw (As := [.int (-1000001 : Int32)]) (rest := []) (c3_finding l G x m (-1000001 : Int32) (v3, z2) hq) kv_X3_finding ml_X3_49 ⟨rfl, rfl⟩ ⟨Nat.le_of_ble_eq_true rfl, Nat.le_of_ble_eq_true rfl⟩ ⟨Nat.zero_le _, Nat.zero_le _⟩ (w_recv C hw (wk_main G x m) rfl) rfl rfl (Nat.le_of_ble_eq_true rfl) (lv_sub hl [] rfl) dX3_judge_13 (fun H locs hw => ?_)
    replace h := Option.some.inj h
    subst h
    exact w_iret C hw (v := v3) rfl rfl dX3_judge_16
  · replace h := p_f hc h
    have hs1 : a1.toNatClampNeg < 4 := Nat.lt_of_not_le (fun z => hc (Or.inr z))
    refine w_Va C hw (As := [.int a1]) (rest := []) (c3_sheetAt_r l G x m a1 hc) kv_X3_sheetAt ml_X3_191 ⟨rfl, rfl⟩ ⟨Nat.le_of_ble_eq_true rfl, Nat.le_of_ble_eq_true rfl⟩ ⟨Nat.zero_le _, Nat.zero_le _⟩ (w_recv C hw (wk_main G x m) rfl) rfl rfl (Nat.le_of_ble_eq_true rfl) (lv_sub hl [] rfl) dX3_judge_2 (fun H locs hw => ?_)
    refine lv_astore_n (lv' := [(2, .ref (gq G (16 + 2 * (a1.toNatClampNeg)))), (0, .ref (gq G 0)), (1, .int a1)]) hx hb dX3_judge_5 rfl hl (by decide) rfl (fun ls hl => ?_)
    refine lv_aload_n hx hb dX3_judge_6 rfl (lv_at hl 0 rfl) ?_
    refine lv_ifnonnull (tgt := 17) hx hb dX3_judge_7 (by decide) ?_
    refine lv_aload_n hx hb dX3_judge_17 rfl (lv_at hl 0 rfl) ?_
    refine w_Vi C hw (As := []) (rest := []) (c0_isMissing l G (a1.toNatClampNeg) hs1 x m _ rfl) kv_X0_isMissing ml_X3_195 ⟨rfl, rfl⟩ ⟨Nat.le_of_ble_eq_true rfl, Nat.le_of_ble_eq_true rfl⟩ ⟨Nat.zero_le _, Nat.zero_le _⟩ (w_recv C hw (wk_sheet G x m hs1) rfl) rfl rfl (Nat.le_of_ble_eq_true rfl) (lv_sub hl [] rfl) dX3_judge_18 (fun H locs hw => ?_)
    refine lv_if_eq (tgt := 31) hx hb dX3_judge_21 (by decide) (fun hc => ?_) (fun hc => ?_)
    · replace h := p_t hc h
      refine lv_iconst (v := (0 : Int32)) hx hb dX3_judge_31 (by decide) ?_
      refine lv_istore_n (lv' := [(3, .int (0 : Int32)), (2, .ref (gq G (16 + 2 * (a1.toNatClampNeg)))), (0, .ref (gq G 0)), (1, .int a1)]) hx hb dX3_judge_32 rfl hl (by decide) rfl (fun ls hl => ?_)
      exact L33 fu (a1.toNatClampNeg) hs1 (0 : Int32) x _ _ _ (lv_sub hl [2, 1, 0] rfl) hw h
    · replace h := p_f hc h
      refine lv_aload_n hx hb dX3_judge_24 rfl (lv_at hl 1 rfl) ?_
      refine lv_ldc hx hb hown (C.w kc_X3_198) dX3_judge_25 ?_
      obtain ⟨⟨v5, z4⟩, hq, h⟩ := p_bd h
      dsimp only at h
      refine w_Vi C hw (As := [.int (-1000006 : Int32)]) (rest := []) (c3_finding l G x m (-1000006 : Int32) (v5, z4) hq) kv_X3_finding ml_X3_49 ⟨rfl, rfl⟩ ⟨Nat.le_of_ble_eq_true rfl, Nat.le_of_ble_eq_true rfl⟩ ⟨Nat.zero_le _, Nat.zero_le _⟩ (w_recv C hw (wk_main G x m) rfl) rfl rfl (Nat.le_of_ble_eq_true rfl) (lv_sub hl [] rfl) dX3_judge_27 (fun H locs hw => ?_)
      replace h := Option.some.inj h
      subst h
      exact w_iret C hw (v := v5) rfl rfl dX3_judge_30

def f3_image   (x : St) : Option (Int32 × St) :=
  (f2_become 1 0 x).bind fun z1 =>
  some ((1 : Int32), (up z1 0 3 (1 : Int32)))
set_option maxHeartbeats 4000000 in
set_option maxRecDepth 100000 in
theorem c3_image (l : Launch) (G : GT)  (x m : St)  (r : Int32 × St) (h : f3_image x = some r) : Mt l yX3_image cX3_image 1 (some .int) (rmF 3 102) G x m [.ref (gq G 0)] (some (.int r.1)) r.2 m := by
  refine Mt.of (by decide) (Nat.le_of_ble_eq_true rfl) ?_
  intro p e s mm args below meth c C ls hl hw
  have hx := C.1
  have hb := C.2.1
  have hown := C.2.2.2.2.1
  replace hl : lv_has ls 1 [(0, .ref (gq G 0))] := hl
  unfold f3_image at h
  refine lv_aload_n hx hb dX3_image_0 rfl (lv_at hl 0 rfl) ?_
  refine w_get C hw (v := .ref (gq G (1 + 4 * 1))) (k := 1) (wk_main G x m) rfl it_3 (by decide) fl_X3_16 rfl dX3_image_1 ?_
  refine lv_aload_n hx hb dX3_image_4 rfl (lv_at hl 0 rfl) ?_
  refine w_get C hw (v := .ref (gq G (1 + 4 * 0))) (k := 0) (wk_main G x m) rfl it_3 (by decide) fl_X3_10 rfl dX3_image_5 ?_
  obtain ⟨z1, hq, h⟩ := p_bd h
  refine w_Vv C hw (As := [.ref (gq G (1 + 4 * 0))]) (rest := []) (c2_become l G 1 (by decide) 0 (by decide) x m z1 hq) kv_X2_become ml_X3_143 ⟨rfl, rfl⟩ ⟨Nat.le_of_ble_eq_true rfl, Nat.le_of_ble_eq_true rfl⟩ ⟨Nat.zero_le _, Nat.zero_le _⟩ (w_recv C hw (wk_town G x m (by decide)) rfl) rfl rfl (Nat.le_of_ble_eq_true rfl) (lv_sub hl [] rfl) dX3_image_8 (fun H locs hw => ?_)
  refine lv_aload_n hx hb dX3_image_11 rfl (lv_at hl 0 rfl) ?_
  refine lv_iconst (v := (1 : Int32)) hx hb dX3_image_12 (by decide) ?_
  refine w_put C hw (k := 3) tyX3 tyX3_ok nmX3 (wk_main G z1 m) rfl it_3 (by decide) fl_X3_258 rfl (ty := .boolean) rfl rfl rfl (Nat.le_of_ble_eq_true rfl) (ws_main_3 G z1 m _) dX3_image_13 (fun H locs hw => ?_)
  refine lv_iconst (v := (1 : Int32)) hx hb dX3_image_16 (by decide) ?_
  replace h := Option.some.inj h
  subst h
  exact w_iret C hw (v := (1 : Int32)) rfl rfl dX3_image_17

def f3_undo   (x : St) : Option (Int32 × St) :=
  if (x 0 3) = 0 then
    (f3_finding (-1000004 : Int32) x).bind fun q => match q with
    | (v3, z2) =>
      some (v3, z2)
  else
    (f2_become 0 1 x).bind fun z1 =>
    some ((z1 (1 + 4 * 0) 6), z1)
set_option maxHeartbeats 4000000 in
set_option maxRecDepth 100000 in
theorem c3_undo (l : Launch) (G : GT)  (x m : St)  (r : Int32 × St) (h : f3_undo x = some r) : Mt l yX3_undo cX3_undo 1 (some .int) (rmF 3 102) G x m [.ref (gq G 0)] (some (.int r.1)) r.2 m := by
  refine Mt.of (by decide) (Nat.le_of_ble_eq_true rfl) ?_
  intro p e s mm args below meth c C ls hl hw
  have hx := C.1
  have hb := C.2.1
  have hown := C.2.2.2.2.1
  replace hl : lv_has ls 1 [(0, .ref (gq G 0))] := hl
  unfold f3_undo at h
  refine lv_aload_n hx hb dX3_undo_0 rfl (lv_at hl 0 rfl) ?_
  refine w_get C hw (v := .int (x 0 3)) (k := 3) (wk_main G x m) rfl it_3 (by decide) fl_X3_258 rfl dX3_undo_1 ?_
  refine lv_if_ne (tgt := 14) hx hb dX3_undo_4 (by decide) (fun hc => ?_) (fun hc => ?_)
  · replace h := p_f hc h
    refine lv_aload_n hx hb dX3_undo_14 rfl (lv_at hl 0 rfl) ?_
    refine w_get C hw (v := .ref (gq G (1 + 4 * 0))) (k := 0) (wk_main G x m) rfl it_3 (by decide) fl_X3_10 rfl dX3_undo_15 ?_
    refine lv_aload_n hx hb dX3_undo_18 rfl (lv_at hl 0 rfl) ?_
    refine w_get C hw (v := .ref (gq G (1 + 4 * 1))) (k := 1) (wk_main G x m) rfl it_3 (by decide) fl_X3_16 rfl dX3_undo_19 ?_
    obtain ⟨z1, hq, h⟩ := p_bd h
    refine w_Vv C hw (As := [.ref (gq G (1 + 4 * 1))]) (rest := []) (c2_become l G 0 (by decide) 1 (by decide) x m z1 hq) kv_X2_become ml_X3_143 ⟨rfl, rfl⟩ ⟨Nat.le_of_ble_eq_true rfl, Nat.le_of_ble_eq_true rfl⟩ ⟨Nat.zero_le _, Nat.zero_le _⟩ (w_recv C hw (wk_town G x m (by decide)) rfl) rfl rfl (Nat.le_of_ble_eq_true rfl) (lv_sub hl [] rfl) dX3_undo_22 (fun H locs hw => ?_)
    refine lv_aload_n hx hb dX3_undo_25 rfl (lv_at hl 0 rfl) ?_
    refine w_get C hw (v := .ref (gq G (1 + 4 * 0))) (k := 0) (wk_main G z1 m) rfl it_3 (by decide) fl_X3_10 rfl dX3_undo_26 ?_
    refine w_getN C hw (v := .int (z1 (1 + 4 * 0) 6)) (k := 6) (wk_town G z1 m (by decide)) rfl it_2 (by decide) (List.mem_of_getElem? (i := 5) rfl) rfl dX3_undo_29 ?_
    replace h := Option.some.inj h
    subst h
    exact w_iret C hw (v := (z1 (1 + 4 * 0) 6)) rfl rfl dX3_undo_32
  · replace h := p_t hc h
    refine lv_aload_n hx hb dX3_undo_7 rfl (lv_at hl 0 rfl) ?_
    refine lv_ldc hx hb hown (C.w kc_X3_138) dX3_undo_8 ?_
    obtain ⟨⟨v3, z2⟩, hq, h⟩ := p_bd h
    dsimp only at h
    refine w_Vi C hw (As := [.int (-1000004 : Int32)]) (rest := []) (c3_finding l G x m (-1000004 : Int32) (v3, z2) hq) kv_X3_finding ml_X3_49 ⟨rfl, rfl⟩ ⟨Nat.le_of_ble_eq_true rfl, Nat.le_of_ble_eq_true rfl⟩ ⟨Nat.zero_le _, Nat.zero_le _⟩ (w_recv C hw (wk_main G x m) rfl) rfl rfl (Nat.le_of_ble_eq_true rfl) (lv_sub hl [] rfl) dX3_undo_10 (fun H locs hw => ?_)
    replace h := Option.some.inj h
    subst h
    exact w_iret C hw (v := v3) rfl rfl dX3_undo_13

def f3_tear_b12   (w0 : Int32) (x : St) : Int32 × St :=
  (w0, (up x 0 3 (0 : Int32)))
def f3_tear   (x : St) : Int32 × St :=
  if (x 0 3) = 0 then
    f3_tear_b12 (0 : Int32) x
  else
    f3_tear_b12 (1 : Int32) x
set_option maxHeartbeats 4000000 in
set_option maxRecDepth 100000 in
theorem c3_tear (l : Launch) (G : GT)  (x m : St)  (r : Int32 × St) (h : f3_tear x = r) : Mt l yX3_tear cX3_tear 2 (some .int) (rmF 0 0) G x m [.ref (gq G 0)] (some (.int r.1)) r.2 m := by
  refine Mt.of (by decide) (Nat.le_of_ble_eq_true rfl) ?_
  intro p e s mm args below meth c C ls hl hw
  have hx := C.1
  have hb := C.2.1
  have hown := C.2.2.2.2.1
  replace hl : lv_has ls 2 [(0, .ref (gq G 0))] := hl
  have B12 : ∀ (w0 : Int32) (x : St) (H : Heap) (locs : List Loc) (ls : Array Slot), lv_has ls 2 [(0, .ref (gq G 0))] → Wd G s x m H locs → f3_tear_b12 w0 x = r → W p l e (rmF 0 0) s mm args below meth c H locs 0 0 (QE below G (some (.int r.1)) r.2 m args s) (F0 mm 12 ls [.int w0]) := by
    intro w0 x H locs ls hl hw h
    unfold f3_tear_b12 at h
    refine lv_istore_n (lv' := [(1, .int w0), (0, .ref (gq G 0))]) hx hb dX3_tear_12 rfl hl (by decide) rfl (fun ls hl => ?_)
    refine lv_aload_n hx hb dX3_tear_13 rfl (lv_at hl 1 rfl) ?_
    refine lv_iconst (v := (0 : Int32)) hx hb dX3_tear_14 (by decide) ?_
    refine w_put C hw (k := 3) tyX3 tyX3_ok nmX3 (wk_main G x m) rfl it_3 (by decide) fl_X3_258 rfl (ty := .boolean) rfl rfl rfl (Nat.le_of_ble_eq_true rfl) (ws_main_3 G x m _) dX3_tear_15 (fun H locs hw => ?_)
    refine lv_iload_n hx hb dX3_tear_18 rfl (lv_at hl 0 rfl) ?_
    subst h
    exact w_iret C hw (v := w0) rfl rfl dX3_tear_19
  unfold f3_tear at h
  refine lv_aload_n hx hb dX3_tear_0 rfl (lv_at hl 0 rfl) ?_
  refine w_get C hw (v := .int (x 0 3)) (k := 3) (wk_main G x m) rfl it_3 (by decide) fl_X3_258 rfl dX3_tear_1 ?_
  refine lv_if_eq (tgt := 11) hx hb dX3_tear_4 (by decide) (fun hc => ?_) (fun hc => ?_)
  · replace h := p_t hc h
    refine lv_iconst (v := (0 : Int32)) hx hb dX3_tear_11 (by decide) ?_
    exact B12 (0 : Int32) x _ _ _ (lv_sub hl [0] rfl) hw h
  · replace h := p_f hc h
    refine lv_iconst (v := (1 : Int32)) hx hb dX3_tear_7 (by decide) ?_
    refine lv_goto (tgt := 12) hx hb dX3_tear_8 (by decide) ?_
    exact B12 (1 : Int32) x _ _ _ (lv_sub hl [0] rfl) hw h

def f3_count  (a1 : Int32) (x : St) : Option (Int32 × St) :=
  if a1 = (0 : Int32) then
    some ((x (1 + 4 * 0) 6), x)
  else
  if a1 = (1 : Int32) then
    some ((x (1 + 4 * 0) 3), x)
  else
  if a1 = (2 : Int32) then
    (f2_whispersAt 0 (15 : Int32) x).bind fun v1 =>
    some (v1, x)
  else
  if a1 = (3 : Int32) then
    (f2_weightOfAll 0 x).bind fun v2 =>
    some (v2, x)
  else
  if a1 = (4 : Int32) then
    (f2_sandOfAll 0 x).bind fun v3 =>
    some (v3, x)
  else
  if a1 = (5 : Int32) then
    some ((x 13 1), x)
  else
  if a1 = (6 : Int32) then
    some ((x (1 + 4 * 0) 7), x)
  else
  if a1 = (7 : Int32) then
    (f2_spotsInUse 0 x).bind fun v4 =>
    some (v4, x)
  else
    (f3_finding (-1000001 : Int32) x).bind fun q => match q with
    | (v6, z5) =>
      some (v6, z5)
set_option maxHeartbeats 4000000 in
set_option maxRecDepth 100000 in
theorem c3_count (l : Launch) (G : GT)  (x m : St) (a1 : Int32) (r : Int32 × St) (h : f3_count a1 x = some r) : Mt l yX3_count cX3_count 2 (some .int) (rmF 2 46) G x m [.ref (gq G 0), .int a1] (some (.int r.1)) r.2 m := by
  refine Mt.of (by decide) (Nat.le_of_ble_eq_true rfl) ?_
  intro p e s mm args below meth c C ls hl hw
  have hx := C.1
  have hb := C.2.1
  have hown := C.2.2.2.2.1
  replace hl : lv_has ls 2 [(0, .ref (gq G 0)), (1, .int a1)] := hl
  unfold f3_count at h
  refine lv_iload_n hx hb dX3_count_0 rfl (lv_at hl 1 rfl) ?_
  by_cases hc0 : a1 = (0 : Int32)
  · replace h := p_t hc0 h
    refine lv_tableIn (tgt := 48) hx hb dX3_count_1 (by rw [hc0]; decide) (by rw [hc0]; decide) (by rw [hc0]; rfl) (by decide) ?_
    refine lv_aload_n hx hb dX3_count_48 rfl (lv_at hl 0 rfl) ?_
    refine w_get C hw (v := .ref (gq G (1 + 4 * 0))) (k := 0) (wk_main G x m) rfl it_3 (by decide) fl_X3_10 rfl dX3_count_49 ?_
    refine w_getN C hw (v := .int (x (1 + 4 * 0) 6)) (k := 6) (wk_town G x m (by decide)) rfl it_2 (by decide) (List.mem_of_getElem? (i := 5) rfl) rfl dX3_count_52 ?_
    replace h := Option.some.inj h
    subst h
    exact w_iret C hw (v := (x (1 + 4 * 0) 6)) rfl rfl dX3_count_55
  · replace h := p_f hc0 h
    by_cases hc1 : a1 = (1 : Int32)
    · replace h := p_t hc1 h
      refine lv_tableIn (tgt := 56) hx hb dX3_count_1 (by rw [hc1]; decide) (by rw [hc1]; decide) (by rw [hc1]; rfl) (by decide) ?_
      refine lv_aload_n hx hb dX3_count_56 rfl (lv_at hl 0 rfl) ?_
      refine w_get C hw (v := .ref (gq G (1 + 4 * 0))) (k := 0) (wk_main G x m) rfl it_3 (by decide) fl_X3_10 rfl dX3_count_57 ?_
      refine w_getN C hw (v := .int (x (1 + 4 * 0) 3)) (k := 3) (wk_town G x m (by decide)) rfl it_2 (by decide) (List.mem_of_getElem? (i := 0) rfl) rfl dX3_count_60 ?_
      replace h := Option.some.inj h
      subst h
      exact w_iret C hw (v := (x (1 + 4 * 0) 3)) rfl rfl dX3_count_63
    · replace h := p_f hc1 h
      by_cases hc2 : a1 = (2 : Int32)
      · replace h := p_t hc2 h
        refine lv_tableIn (tgt := 64) hx hb dX3_count_1 (by rw [hc2]; decide) (by rw [hc2]; decide) (by rw [hc2]; rfl) (by decide) ?_
        refine lv_aload_n hx hb dX3_count_64 rfl (lv_at hl 0 rfl) ?_
        refine w_get C hw (v := .ref (gq G (1 + 4 * 0))) (k := 0) (wk_main G x m) rfl it_3 (by decide) fl_X3_10 rfl dX3_count_65 ?_
        refine lv_bipush (v := (15 : Int32)) hx hb dX3_count_68 (by decide) ?_
        obtain ⟨v1, hq, h⟩ := p_bd h
        refine w_Vi C hw (As := [.int (15 : Int32)]) (rest := []) (c2_whispersAt l G 0 (by decide) x m (15 : Int32) v1 hq) kv_X2_whispersAt ml_X3_135 ⟨rfl, rfl⟩ ⟨Nat.le_of_ble_eq_true rfl, Nat.le_of_ble_eq_true rfl⟩ ⟨Nat.zero_le _, Nat.zero_le _⟩ (w_recv C hw (wk_town G x m (by decide)) rfl) rfl rfl (Nat.le_of_ble_eq_true rfl) (lv_sub hl [] rfl) dX3_count_70 (fun H locs hw => ?_)
        replace h := Option.some.inj h
        subst h
        exact w_iret C hw (v := v1) rfl rfl dX3_count_73
      · replace h := p_f hc2 h
        by_cases hc3 : a1 = (3 : Int32)
        · replace h := p_t hc3 h
          refine lv_tableIn (tgt := 74) hx hb dX3_count_1 (by rw [hc3]; decide) (by rw [hc3]; decide) (by rw [hc3]; rfl) (by decide) ?_
          refine lv_aload_n hx hb dX3_count_74 rfl (lv_at hl 0 rfl) ?_
          refine w_get C hw (v := .ref (gq G (1 + 4 * 0))) (k := 0) (wk_main G x m) rfl it_3 (by decide) fl_X3_10 rfl dX3_count_75 ?_
          obtain ⟨v2, hq, h⟩ := p_bd h
          refine w_Vi C hw (As := []) (rest := []) (c2_weightOfAll l G 0 (by decide) x m v2 hq) kv_X2_weightOfAll ml_X3_129 ⟨rfl, rfl⟩ ⟨Nat.le_of_ble_eq_true rfl, Nat.le_of_ble_eq_true rfl⟩ ⟨Nat.zero_le _, Nat.zero_le _⟩ (w_recv C hw (wk_town G x m (by decide)) rfl) rfl rfl (Nat.le_of_ble_eq_true rfl) (lv_sub hl [] rfl) dX3_count_78 (fun H locs hw => ?_)
          replace h := Option.some.inj h
          subst h
          exact w_iret C hw (v := v2) rfl rfl dX3_count_81
        · replace h := p_f hc3 h
          by_cases hc4 : a1 = (4 : Int32)
          · replace h := p_t hc4 h
            refine lv_tableIn (tgt := 82) hx hb dX3_count_1 (by rw [hc4]; decide) (by rw [hc4]; decide) (by rw [hc4]; rfl) (by decide) ?_
            refine lv_aload_n hx hb dX3_count_82 rfl (lv_at hl 0 rfl) ?_
            refine w_get C hw (v := .ref (gq G (1 + 4 * 0))) (k := 0) (wk_main G x m) rfl it_3 (by decide) fl_X3_10 rfl dX3_count_83 ?_
            obtain ⟨v3, hq, h⟩ := p_bd h
            refine w_Vi C hw (As := []) (rest := []) (c2_sandOfAll l G 0 (by decide) x m v3 hq) kv_X2_sandOfAll ml_X3_265 ⟨rfl, rfl⟩ ⟨Nat.le_of_ble_eq_true rfl, Nat.le_of_ble_eq_true rfl⟩ ⟨Nat.zero_le _, Nat.zero_le _⟩ (w_recv C hw (wk_town G x m (by decide)) rfl) rfl rfl (Nat.le_of_ble_eq_true rfl) (lv_sub hl [] rfl) dX3_count_86 (fun H locs hw => ?_)
            replace h := Option.some.inj h
            subst h
            exact w_iret C hw (v := v3) rfl rfl dX3_count_89
          · replace h := p_f hc4 h
            by_cases hc5 : a1 = (5 : Int32)
            · replace h := p_t hc5 h
              refine lv_tableIn (tgt := 90) hx hb dX3_count_1 (by rw [hc5]; decide) (by rw [hc5]; decide) (by rw [hc5]; rfl) (by decide) ?_
              refine lv_aload_n hx hb dX3_count_90 rfl (lv_at hl 0 rfl) ?_
              refine w_get C hw (v := .ref (gq G 13)) (k := 4) (wk_main G x m) rfl it_3 (by decide) fl_X3_25 rfl dX3_count_91 ?_
              refine w_getN C hw (v := .int (x 13 1)) (k := 1) (wk_tape G x m) rfl it_1 (by decide) (List.mem_of_getElem? (i := 7) rfl) rfl dX3_count_94 ?_
              replace h := Option.some.inj h
              subst h
              exact w_iret C hw (v := (x 13 1)) rfl rfl dX3_count_97
            · replace h := p_f hc5 h
              by_cases hc6 : a1 = (6 : Int32)
              · replace h := p_t hc6 h
                refine lv_tableIn (tgt := 98) hx hb dX3_count_1 (by rw [hc6]; decide) (by rw [hc6]; decide) (by rw [hc6]; rfl) (by decide) ?_
                refine lv_aload_n hx hb dX3_count_98 rfl (lv_at hl 0 rfl) ?_
                refine w_get C hw (v := .ref (gq G (1 + 4 * 0))) (k := 0) (wk_main G x m) rfl it_3 (by decide) fl_X3_10 rfl dX3_count_99 ?_
                refine w_getN C hw (v := .int (x (1 + 4 * 0) 7)) (k := 7) (wk_town G x m (by decide)) rfl it_2 (by decide) (List.mem_of_getElem? (i := 6) rfl) rfl dX3_count_102 ?_
                replace h := Option.some.inj h
                subst h
                exact w_iret C hw (v := (x (1 + 4 * 0) 7)) rfl rfl dX3_count_105
              · replace h := p_f hc6 h
                by_cases hc7 : a1 = (7 : Int32)
                · replace h := p_t hc7 h
                  refine lv_tableIn (tgt := 106) hx hb dX3_count_1 (by rw [hc7]; decide) (by rw [hc7]; decide) (by rw [hc7]; rfl) (by decide) ?_
                  refine lv_aload_n hx hb dX3_count_106 rfl (lv_at hl 0 rfl) ?_
                  refine w_get C hw (v := .ref (gq G (1 + 4 * 0))) (k := 0) (wk_main G x m) rfl it_3 (by decide) fl_X3_10 rfl dX3_count_107 ?_
                  obtain ⟨v4, hq, h⟩ := p_bd h
                  refine w_Vi C hw (As := []) (rest := []) (c2_spotsInUse l G 0 (by decide) x m v4 hq) kv_X2_spotsInUse ml_X3_268 ⟨rfl, rfl⟩ ⟨Nat.le_of_ble_eq_true rfl, Nat.le_of_ble_eq_true rfl⟩ ⟨Nat.zero_le _, Nat.zero_le _⟩ (w_recv C hw (wk_town G x m (by decide)) rfl) rfl rfl (Nat.le_of_ble_eq_true rfl) (lv_sub hl [] rfl) dX3_count_110 (fun H locs hw => ?_)
                  replace h := Option.some.inj h
                  subst h
                  exact w_iret C hw (v := v4) rfl rfl dX3_count_113
                · replace h := p_f hc7 h
                  refine lv_tableOut (tgt := 114) hx hb dX3_count_1 (by have q0 : ¬ a1.toInt = 0 := lv_neT hc0 rfl; have q1 : ¬ a1.toInt = 1 := lv_neT hc1 rfl; have q2 : ¬ a1.toInt = 2 := lv_neT hc2 rfl; have q3 : ¬ a1.toInt = 3 := lv_neT hc3 rfl; have q4 : ¬ a1.toInt = 4 := lv_neT hc4 rfl; have q5 : ¬ a1.toInt = 5 := lv_neT hc5 rfl; have q6 : ¬ a1.toInt = 6 := lv_neT hc6 rfl; have q7 : ¬ a1.toInt = 7 := lv_neT hc7 rfl; omega) (by decide) ?_
                  refine lv_aload_n hx hb dX3_count_114 rfl (lv_at hl 0 rfl) ?_
                  refine lv_ldc hx hb hown (C.w kc_X3_48) dX3_count_115 ?_
                  obtain ⟨⟨v6, z5⟩, hq, h⟩ := p_bd h
                  dsimp only at h
                  refine w_Vi C hw (As := [.int (-1000001 : Int32)]) (rest := []) (c3_finding l G x m (-1000001 : Int32) (v6, z5) hq) kv_X3_finding ml_X3_49 ⟨rfl, rfl⟩ ⟨Nat.le_of_ble_eq_true rfl, Nat.le_of_ble_eq_true rfl⟩ ⟨Nat.zero_le _, Nat.zero_le _⟩ (w_recv C hw (wk_main G x m) rfl) rfl rfl (Nat.le_of_ble_eq_true rfl) (lv_sub hl [] rfl) dX3_count_117 (fun H locs hw => ?_)
                  replace h := Option.some.inj h
                  subst h
                  exact w_iret C hw (v := v6) rfl rfl dX3_count_120

def f3_status_b54  (k26 : Int32 → Int32 → Int32 → St → Option (Int32 × St)) (b1 : Int32) (b2 : Int32) (b3 : Int32) (x : St) : Option (Int32 × St) :=
  k26 b1 b2 (b3 + (1 : Int32)) x
def f3_status_b45  (k26 : Int32 → Int32 → Int32 → St → Option (Int32 × St)) (b1 : Int32) (b2 : Int32) (b3 : Int32) (x : St) : Option (Int32 × St) :=
  if b3 < 0 ∨ 7 ≤ b3.toNatClampNeg then none else
  f3_status_b54 k26 b1 (b2 + (x 24 b3.toNatClampNeg)) b3 x
def f3_status_L26   : Nat → Int32 → Int32 → Int32 → St → Option (Int32 × St)
  | 0, _, _, _, _ => none
  | n + 1, b1, b2, b3, x =>
    if (7 : Int32) ≤ b3 then
      some (b2, x)
    else
      if b1 = (-1 : Int32) then
        f3_status_b45 (f3_status_L26 n) b1 b2 b3 x
      else
        if b1 = b3 then
          f3_status_b45 (f3_status_L26 n) b1 b2 b3 x
        else
          f3_status_b54 (f3_status_L26 n) b1 b2 b3 x
theorem f3_status_L26_0   (b1 : Int32) (b2 : Int32) (b3 : Int32) (x : St) : f3_status_L26  0 b1 b2 b3 x = none := rfl
theorem f3_status_L26_s   (n : Nat) (b1 : Int32) (b2 : Int32) (b3 : Int32) (x : St) : f3_status_L26  (n + 1) b1 b2 b3 x =
    if (7 : Int32) ≤ b3 then
      some (b2, x)
    else
      if b1 = (-1 : Int32) then
        f3_status_b45 (f3_status_L26 n) b1 b2 b3 x
      else
        if b1 = b3 then
          f3_status_b45 (f3_status_L26 n) b1 b2 b3 x
        else
          f3_status_b54 (f3_status_L26 n) b1 b2 b3 x := rfl
def f3_status  (a1 : Int32) (x : St) : Option (Int32 × St) :=
  if (f3_isWithin a1 (-1 : Int32) ((7 : Int32) - (1 : Int32))) = 0 then
    (f3_finding (-1000001 : Int32) x).bind fun q => match q with
    | (v2, z1) =>
      some (v2, z1)
  else
    f3_status_L26 fu a1 (0 : Int32) (0 : Int32) x
set_option maxHeartbeats 4000000 in
set_option maxRecDepth 100000 in
theorem c3_status (l : Launch) (G : GT)  (x m : St) (a1 : Int32) (r : Int32 × St) (h : f3_status a1 x = some r) : Mt l yX3_status cX3_status 4 (some .int) (rmF 1 22) G x m [.ref (gq G 0), .int a1] (some (.int r.1)) r.2 m := by
  refine Mt.of (by decide) (Nat.le_of_ble_eq_true rfl) ?_
  intro p e s mm args below meth c C ls hl hw
  have hx := C.1
  have hb := C.2.1
  have hown := C.2.2.2.2.1
  replace hl : lv_has ls 4 [(0, .ref (gq G 0)), (1, .int a1)] := hl
  have L26 : ∀ (n26 : Nat) (b1 : Int32) (b2 : Int32) (b3 : Int32) (x : St) (H : Heap) (locs : List Loc) (ls : Array Slot), lv_has ls 4 [(0, .ref (gq G 0)), (1, .int b1), (2, .int b2), (3, .int b3)] → Wd G s x m H locs → f3_status_L26 n26 b1 b2 b3 x = some r → W p l e (rmF 1 22) s mm args below meth c H locs 0 0 (QE below G (some (.int r.1)) r.2 m args s) (F0 mm 26 ls []) := by
    intro n26
    induction n26 with
    | zero =>
      intro b1 b2 b3 x H locs ls hl hw h
      rw [f3_status_L26_0] at h
      exact absurd h.symm (Option.some_ne_none _)
    | succ n26 ih26 =>
      have B54 : ∀ (b1 : Int32) (b2 : Int32) (b3 : Int32) (x : St) (H : Heap) (locs : List Loc) (ls : Array Slot), lv_has ls 4 [(0, .ref (gq G 0)), (1, .int b1), (2, .int b2), (3, .int b3)] → Wd G s x m H locs → f3_status_b54 (f3_status_L26 n26) b1 b2 b3 x = some r → W p l e (rmF 1 22) s mm args below meth c H locs 0 0 (QE below G (some (.int r.1)) r.2 m args s) (F0 mm 54 ls []) := by
        intro b1 b2 b3 x H locs ls hl hw h
        unfold f3_status_b54 at h
        refine lv_iinc (v := (b3 + (1 : Int32))) (lv' := [(3, .int (b3 + (1 : Int32))), (0, .ref (gq G 0)), (1, .int b1), (2, .int b2)]) hx hb dX3_status_54 hl (k := 3) rfl rfl (by decide) rfl (fun ls hl => ?_)
        refine lv_goto (tgt := 26) hx hb dX3_status_57 (by decide) ?_
        exact ih26 b1 b2 (b3 + (1 : Int32)) x _ _ _ (lv_sub hl [1, 2, 3, 0] rfl) hw h
      have B45 : ∀ (b1 : Int32) (b2 : Int32) (b3 : Int32) (x : St) (H : Heap) (locs : List Loc) (ls : Array Slot), lv_has ls 4 [(0, .ref (gq G 0)), (1, .int b1), (2, .int b2), (3, .int b3)] → Wd G s x m H locs → f3_status_b45 (f3_status_L26 n26) b1 b2 b3 x = some r → W p l e (rmF 1 22) s mm args below meth c H locs 0 0 (QE below G (some (.int r.1)) r.2 m args s) (F0 mm 45 ls []) := by
        intro b1 b2 b3 x H locs ls hl hw h
        unfold f3_status_b45 at h
        refine lv_iload_n hx hb dX3_status_45 rfl (lv_at hl 2 rfl) ?_
        refine lv_aload_n hx hb dX3_status_46 rfl (lv_at hl 0 rfl) ?_
        refine w_get C hw (v := .ref (gq G 24)) (k := 6) (wk_main G x m) rfl it_3 (by decide) fl_X3_36 rfl dX3_status_47 ?_
        refine lv_iload_n hx hb dX3_status_50 rfl (lv_at hl 3 rfl) ?_
        obtain ⟨hq, h⟩ := p_if h
        refine w_ald C hw (ax_24 G x m).1 hq dX3_status_51 ?_
        refine lv_iadd hx hb dX3_status_52 ?_
        refine lv_istore_n (lv' := [(2, .int (b2 + (x 24 b3.toNatClampNeg))), (0, .ref (gq G 0)), (1, .int b1), (3, .int b3)]) hx hb dX3_status_53 rfl hl (by decide) rfl (fun ls hl => ?_)
        exact B54 b1 (b2 + (x 24 b3.toNatClampNeg)) b3 x _ _ _ (lv_sub hl [1, 2, 0, 3] rfl) hw h
      intro b1 b2 b3 x H locs ls hl hw h
      rw [f3_status_L26_s] at h
      refine lv_iload_n hx hb dX3_status_26 rfl (lv_at hl 3 rfl) ?_
      refine lv_aload_n hx hb dX3_status_27 rfl (lv_at hl 0 rfl) ?_
      refine w_get C hw (v := .ref (gq G 24)) (k := 6) (wk_main G x m) rfl it_3 (by decide) fl_X3_36 rfl dX3_status_28 ?_
      refine w_alen C hw (v := (7 : Int32)) (ax_24 G x m).1 rfl dX3_status_31 ?_
      refine lv_icmp_ge (tgt := 60) hx hb dX3_status_32 (by decide) (fun hc => ?_) (fun hc => ?_)
      · replace h := p_t hc h
        refine lv_iload_n hx hb dX3_status_60 rfl (lv_at hl 2 rfl) ?_
        replace h := Option.some.inj h
        subst h
        exact w_iret C hw (v := b2) rfl rfl dX3_status_61
      · replace h := p_f hc h
        refine lv_iload_n hx hb dX3_status_35 rfl (lv_at hl 1 rfl) ?_
        refine lv_iconst (v := (-1 : Int32)) hx hb dX3_status_36 (by decide) ?_
        refine lv_icmp_eq (tgt := 45) hx hb dX3_status_37 (by decide) (fun hc => ?_) (fun hc => ?_)
        · replace h := p_t hc h
          exact B45 b1 b2 b3 x _ _ _ (lv_sub hl [0, 1, 2, 3] rfl) hw h
        · replace h := p_f hc h
          refine lv_iload_n hx hb dX3_status_40 rfl (lv_at hl 1 rfl) ?_
          refine lv_iload_n hx hb dX3_status_41 rfl (lv_at hl 3 rfl) ?_
          refine lv_icmp_ne (tgt := 54) hx hb dX3_status_42 (by decide) (fun hc => ?_) (fun hc => ?_)
          · replace h := p_f hc h
            exact B54 b1 b2 b3 x _ _ _ (lv_sub hl [0, 1, 2, 3] rfl) hw h
          · replace h := p_t hc h
            exact B45 b1 b2 b3 x _ _ _ (lv_sub hl [0, 1, 2, 3] rfl) hw h
  unfold f3_status at h
  refine lv_iload_n hx hb dX3_status_0 rfl (lv_at hl 1 rfl) ?_
  refine lv_iconst (v := (-1 : Int32)) hx hb dX3_status_1 (by decide) ?_
  refine lv_aload_n hx hb dX3_status_2 rfl (lv_at hl 0 rfl) ?_
  refine w_get C hw (v := .ref (gq G 24)) (k := 6) (wk_main G x m) rfl it_3 (by decide) fl_X3_36 rfl dX3_status_3 ?_
  refine w_alen C hw (v := (7 : Int32)) (ax_24 G x m).1 rfl dX3_status_6 ?_
  refine lv_iconst (v := (1 : Int32)) hx hb dX3_status_7 (by decide) ?_
  refine lv_isub hx hb dX3_status_8 ?_
  refine w_Si C hw (As := [.int a1, .int (-1 : Int32), .int ((7 : Int32) - (1 : Int32))]) (rest := []) (c3_isWithin l G x m a1 (-1 : Int32) ((7 : Int32) - (1 : Int32)) _ rfl) ks_X3_isWithin ml_X3_44 ⟨rfl, rfl⟩ ⟨Nat.le_of_ble_eq_true rfl, Nat.le_of_ble_eq_true rfl⟩ ⟨Nat.zero_le _, Nat.zero_le _⟩ rfl rfl (Nat.le_of_ble_eq_true rfl) (lv_sub hl [] rfl) dX3_status_9 (fun H locs hw => ?_)
  refine lv_if_ne (tgt := 22) hx hb dX3_status_12 (by decide) (fun hc => ?_) (fun hc => ?_)
  · replace h := p_f hc h
    refine lv_iconst (v := (0 : Int32)) hx hb dX3_status_22 (by decide) ?_
    refine lv_istore_n (lv' := [(2, .int (0 : Int32)), (0, .ref (gq G 0)), (1, .int a1)]) hx hb dX3_status_23 rfl hl (by decide) rfl (fun ls hl => ?_)
    refine lv_iconst (v := (0 : Int32)) hx hb dX3_status_24 (by decide) ?_
    refine lv_istore_n (lv' := [(3, .int (0 : Int32)), (2, .int (0 : Int32)), (0, .ref (gq G 0)), (1, .int a1)]) hx hb dX3_status_25 rfl hl (by decide) rfl (fun ls hl => ?_)
    exact L26 fu a1 (0 : Int32) (0 : Int32) x _ _ _ (lv_sub hl [2, 3, 1, 0] rfl) hw h
  · replace h := p_t hc h
    refine lv_aload_n hx hb dX3_status_15 rfl (lv_at hl 0 rfl) ?_
    refine lv_ldc hx hb hown (C.w kc_X3_48) dX3_status_16 ?_
    obtain ⟨⟨v2, z1⟩, hq, h⟩ := p_bd h
    dsimp only at h
    refine w_Vi C hw (As := [.int (-1000001 : Int32)]) (rest := []) (c3_finding l G x m (-1000001 : Int32) (v2, z1) hq) kv_X3_finding ml_X3_49 ⟨rfl, rfl⟩ ⟨Nat.le_of_ble_eq_true rfl, Nat.le_of_ble_eq_true rfl⟩ ⟨Nat.zero_le _, Nat.zero_le _⟩ (w_recv C hw (wk_main G x m) rfl) rfl rfl (Nat.le_of_ble_eq_true rfl) (lv_sub hl [] rfl) dX3_status_18 (fun H locs hw => ?_)
    replace h := Option.some.inj h
    subst h
    exact w_iret C hw (v := v2) rfl rfl dX3_status_21
