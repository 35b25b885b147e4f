def f2_hasWhisper (t : Nat) (a1 : Int32) (x : St) : Int32 :=
  if a1 < 0 then
    (0 : Int32)
  else
    if (x (1 + 4 * t) 3) ≤ a1 then
      (0 : Int32)
    else
      (1 : Int32)
theorem bz_X2_hasWhisper (t : Nat) (a1 : Int32) (x : St) : f2_hasWhisper t a1 x = 0 ∨ f2_hasWhisper t a1 x = 1 := by
  unfold f2_hasWhisper
  repeat' split
  all_goals first | exact Or.inl rfl | exact Or.inr rfl
set_option maxHeartbeats 4000000 in
set_option maxRecDepth 100000 in
theorem c2_hasWhisper (l : Launch) (G : GT) (t : Nat) (ht : t < 3) (x m : St) (a1 : Int32) (r : Int32) (h : f2_hasWhisper t a1 x = r) : Mt l yX2_hasWhisper cX2_hasWhisper 2 (some .boolean) (rmF 0 0) G x m [.ref (gq G (1 + 4 * t)), .int a1] (some (.int r)) x m := by
  refine Mt.of (by decide) (Nat.le_of_ble_eq_true rfl) ?_
  intro p e s mm args below meth c C ls hl hw
  have hx := C.1
  have hb := C.2.1
  have hown := C.2.2.2.2.1
  replace hl : lv_has ls 2 [(0, .ref (gq G (1 + 4 * t))), (1, .int a1)] := hl
  unfold f2_hasWhisper at h
  refine lv_iload_n hx hb dX2_hasWhisper_0 rfl (lv_at hl 1 rfl) ?_
  refine lv_if_lt (tgt := 16) hx hb dX2_hasWhisper_1 (by decide) (fun hc => ?_) (fun hc => ?_)
  · replace h := p_t hc h
    refine lv_iconst (v := (0 : Int32)) hx hb dX2_hasWhisper_16 (by decide) ?_
    subst h
    exact w_iret C hw (v := (0 : Int32)) rfl rfl dX2_hasWhisper_17
  · replace h := p_f hc h
    refine lv_iload_n hx hb dX2_hasWhisper_4 rfl (lv_at hl 1 rfl) ?_
    refine lv_aload_n hx hb dX2_hasWhisper_5 rfl (lv_at hl 0 rfl) ?_
    refine w_get C hw (v := .int (x (1 + 4 * t) 3)) (k := 3) (wk_town G x m ht) rfl it_2 (by decide) fl_X2_39 rfl dX2_hasWhisper_6 ?_
    refine lv_icmp_ge (tgt := 16) hx hb dX2_hasWhisper_9 (by decide) (fun hc => ?_) (fun hc => ?_)
    · replace h := p_t hc h
      refine lv_iconst (v := (0 : Int32)) hx hb dX2_hasWhisper_16 (by decide) ?_
      subst h
      exact w_iret C hw (v := (0 : Int32)) rfl rfl dX2_hasWhisper_17
    · replace h := p_f hc h
      refine lv_iconst (v := (1 : Int32)) hx hb dX2_hasWhisper_12 (by decide) ?_
      refine lv_goto (tgt := 17) hx hb dX2_hasWhisper_13 (by decide) ?_
      subst h
      exact w_iret C hw (v := (1 : Int32)) rfl rfl dX2_hasWhisper_17

def f2_steepAt (t : Nat) (a1 : Int32) (x : St) : Option (Int32) :=
  (f2_trait t a1 (0 : Int32) x).bind fun v1 =>
  (f2_trait t a1 (1 : Int32) x).bind fun v2 =>
  (f2_trait t v2 (0 : Int32) x).bind fun v3 =>
  some (if (0 : Int32) < (v1 - v3) then (v1 - v3) else (0 : Int32))
set_option maxHeartbeats 4000000 in
set_option maxRecDepth 100000 in
theorem c2_steepAt (l : Launch) (G : GT) (t : Nat) (ht : t < 3) (x m : St) (a1 : Int32) (r : Int32) (h : f2_steepAt t a1 x = some r) : Mt l yX2_steepAt cX2_steepAt 2 (some .int) (rmF 1 23) G x m [.ref (gq G (1 + 4 * t)), .int a1] (some (.int r)) x m := by
  refine Mt.of (by decide) (Nat.le_of_ble_eq_true rfl) ?_
  intro p e s mm args below meth c C ls hl hw
  have hx := C.1
  have hb := C.2.1
  have hown := C.2.2.2.2.1
  replace hl : lv_has ls 2 [(0, .ref (gq G (1 + 4 * t))), (1, .int a1)] := hl
  unfold f2_steepAt at h
  refine lv_iconst (v := (0 : Int32)) hx hb dX2_steepAt_0 (by decide) ?_
  refine lv_aload_n hx hb dX2_steepAt_1 rfl (lv_at hl 0 rfl) ?_
  refine lv_iload_n hx hb dX2_steepAt_2 rfl (lv_at hl 1 rfl) ?_
  refine lv_iconst (v := (0 : Int32)) hx hb dX2_steepAt_3 (by decide) ?_
  obtain ⟨v1, hq, h⟩ := p_bd h
  refine w_Vi C hw (As := [.int a1, .int (0 : Int32)]) (rest := [.int (0 : Int32)]) (c2_trait l G t ht x m a1 (0 : Int32) v1 hq) kv_X2_trait ml_X2_62 ⟨rfl, rfl⟩ ⟨Nat.le_of_ble_eq_true rfl, Nat.le_of_ble_eq_true rfl⟩ ⟨Nat.zero_le _, Nat.zero_le _⟩ (w_recv C hw (wk_town G x m ht) rfl) rfl rfl (Nat.le_of_ble_eq_true rfl) (lv_sub hl [] rfl) dX2_steepAt_4 (fun H locs hw => ?_)
  refine lv_aload_n hx hb dX2_steepAt_7 rfl (lv_at hl 0 rfl) ?_
  refine lv_aload_n hx hb dX2_steepAt_8 rfl (lv_at hl 0 rfl) ?_
  refine lv_iload_n hx hb dX2_steepAt_9 rfl (lv_at hl 1 rfl) ?_
  refine lv_iconst (v := (1 : Int32)) hx hb dX2_steepAt_10 (by decide) ?_
  obtain ⟨v2, hq, h⟩ := p_bd h
  refine w_Vi C hw (As := [.int a1, .int (1 : Int32)]) (rest := [.ref (gq G (1 + 4 * t)), .int v1, .int (0 : Int32)]) (c2_trait l G t ht x m a1 (1 : Int32) v2 hq) kv_X2_trait ml_X2_62 ⟨rfl, rfl⟩ ⟨Nat.le_of_ble_eq_true rfl, Nat.le_of_ble_eq_true rfl⟩ ⟨Nat.zero_le _, Nat.zero_le _⟩ (w_recv C hw (wk_town G x m ht) rfl) rfl rfl (Nat.le_of_ble_eq_true rfl) (lv_sub hl [] rfl) dX2_steepAt_11 (fun H locs hw => ?_)
  refine lv_iconst (v := (0 : Int32)) hx hb dX2_steepAt_14 (by decide) ?_
  obtain ⟨v3, hq, h⟩ := p_bd h
  refine w_Vi C hw (As := [.int v2, .int (0 : Int32)]) (rest := [.int v1, .int (0 : Int32)]) (c2_trait l G t ht x m v2 (0 : Int32) v3 hq) kv_X2_trait ml_X2_62 ⟨rfl, rfl⟩ ⟨Nat.le_of_ble_eq_true rfl, Nat.le_of_ble_eq_true rfl⟩ ⟨Nat.zero_le _, Nat.zero_le _⟩ (w_recv C hw (wk_town G x m ht) rfl) rfl rfl (Nat.le_of_ble_eq_true rfl) (lv_sub hl [] rfl) dX2_steepAt_15 (fun H locs hw => ?_)
  refine lv_isub hx hb dX2_steepAt_18 ?_
  refine w_max C (lv_sub hl [] rfl) ml_X2_65 k_max ⟨Nat.le_of_ble_eq_true rfl, Nat.le_of_ble_eq_true rfl⟩ ⟨Nat.zero_le _, Nat.zero_le _⟩ (Nat.le_of_ble_eq_true rfl) dX2_steepAt_19 ?_
  replace h := Option.some.inj h
  subst h
  exact w_iret C hw (v := (if (0 : Int32) < (v1 - v3) then (v1 - v3) else (0 : Int32))) rfl rfl dX2_steepAt_22

def f2_runningCorners_b24 (t : Nat) (k4 : Int32 → Int32 → St → Option (Int32)) (b1 : Int32) (b2 : Int32) (x : St) : Option (Int32) :=
  k4 b1 (b2 + (1 : Int32)) x
def f2_runningCorners_L4 (t : Nat)  : Nat → Int32 → Int32 → St → Option (Int32)
  | 0, _, _, _ => none
  | n + 1, b1, b2, x =>
    if (16 : Int32) ≤ b2 then
      some b1
    else
      (f2_steepAt t b2 x).bind fun v1 =>
      if v1 ≤ 0 then
        f2_runningCorners_b24 t (f2_runningCorners_L4 t n) b1 b2 x
      else
        f2_runningCorners_b24 t (f2_runningCorners_L4 t n) (b1 ||| ((1 : Int32) <<< (b2 &&& 31))) b2 x
theorem f2_runningCorners_L4_0 (t : Nat)  (b1 : Int32) (b2 : Int32) (x : St) : f2_runningCorners_L4 t 0 b1 b2 x = none := rfl
theorem f2_runningCorners_L4_s (t : Nat)  (n : Nat) (b1 : Int32) (b2 : Int32) (x : St) : f2_runningCorners_L4 t (n + 1) b1 b2 x =
    if (16 : Int32) ≤ b2 then
      some b1
    else
      (f2_steepAt t b2 x).bind fun v1 =>
      if v1 ≤ 0 then
        f2_runningCorners_b24 t (f2_runningCorners_L4 t n) b1 b2 x
      else
        f2_runningCorners_b24 t (f2_runningCorners_L4 t n) (b1 ||| ((1 : Int32) <<< (b2 &&& 31))) b2 x := rfl
def f2_runningCorners (t : Nat)  (x : St) : Option (Int32) :=
  f2_runningCorners_L4 t fu (0 : Int32) (0 : Int32) x
set_option maxHeartbeats 4000000 in
set_option maxRecDepth 100000 in
theorem c2_runningCorners (l : Launch) (G : GT) (t : Nat) (ht : t < 3) (x m : St)  (r : Int32) (h : f2_runningCorners t x = some r) : Mt l yX2_runningCorners cX2_runningCorners 3 (some .int) (rmF 2 44) G x m [.ref (gq G (1 + 4 * t))] (some (.int r)) x m := by
  refine Mt.of (by decide) (Nat.le_of_ble_eq_true rfl) ?_
  intro p e s mm args below meth c C ls hl hw
  have hx := C.1
  have hb := C.2.1
  have hown := C.2.2.2.2.1
  replace hl : lv_has ls 3 [(0, .ref (gq G (1 + 4 * t)))] := hl
  have L4 : ∀ (n4 : Nat) (b1 : Int32) (b2 : Int32) (H : Heap) (locs : List Loc) (ls : Array Slot), lv_has ls 3 [(0, .ref (gq G (1 + 4 * t))), (1, .int b1), (2, .int b2)] → Wd G s x m H locs → f2_runningCorners_L4 t n4 b1 b2 x = some r → W p l e (rmF 2 44) s mm args below meth c H locs 0 0 (QE below G (some (.int r)) x m args s) (F0 mm 4 ls []) := by
    intro n4
    induction n4 with
    | zero =>
      intro b1 b2  H locs ls hl hw h
      rw [f2_runningCorners_L4_0] at h
      exact absurd h.symm (Option.some_ne_none _)
    | succ n4 ih4 =>
      have B24 : ∀ (b1 : Int32) (b2 : Int32) (H : Heap) (locs : List Loc) (ls : Array Slot), lv_has ls 3 [(0, .ref (gq G (1 + 4 * t))), (1, .int b1), (2, .int b2)] → Wd G s x m H locs → f2_runningCorners_b24 t (f2_runningCorners_L4 t n4) b1 b2 x = some r → W p l e (rmF 2 44) s mm args below meth c H locs 0 0 (QE below G (some (.int r)) x m args s) (F0 mm 24 ls []) := by
        intro b1 b2  H locs ls hl hw h
        unfold f2_runningCorners_b24 at h
        refine lv_iinc (v := (b2 + (1 : Int32))) (lv' := [(2, .int (b2 + (1 : Int32))), (0, .ref (gq G (1 + 4 * t))), (1, .int b1)]) hx hb dX2_runningCorners_24 hl (k := 2) rfl rfl (by decide) rfl (fun ls hl => ?_)
        refine lv_goto (tgt := 4) hx hb dX2_runningCorners_27 (by decide) ?_
        exact ih4 b1 (b2 + (1 : Int32)) _ _ _ (lv_sub hl [1, 2, 0] rfl) hw h
      intro b1 b2  H locs ls hl hw h
      rw [f2_runningCorners_L4_s] at h
      refine lv_iload_n hx hb dX2_runningCorners_4 rfl (lv_at hl 2 rfl) ?_
      refine lv_bipush (v := (16 : Int32)) hx hb dX2_runningCorners_5 (by decide) ?_
      refine lv_icmp_ge (tgt := 30) hx hb dX2_runningCorners_7 (by decide) (fun hc => ?_) (fun hc => ?_)
      · replace h := p_t hc h
        refine lv_iload_n hx hb dX2_runningCorners_30 rfl (lv_at hl 1 rfl) ?_
        replace h := Option.some.inj h
        subst h
        exact w_iret C hw (v := b1) rfl rfl dX2_runningCorners_31
      · replace h := p_f hc h
        refine lv_aload_n hx hb dX2_runningCorners_10 rfl (lv_at hl 0 rfl) ?_
        refine lv_iload_n hx hb dX2_runningCorners_11 rfl (lv_at hl 2 rfl) ?_
        obtain ⟨v1, hq, h⟩ := p_bd h
        refine w_Vi C hw (As := [.int b2]) (rest := []) (c2_steepAt l G t ht x m b2 v1 hq) kv_X2_steepAt ml_X2_68 ⟨rfl, rfl⟩ ⟨Nat.le_of_ble_eq_true rfl, Nat.le_of_ble_eq_true rfl⟩ ⟨Nat.zero_le _, Nat.zero_le _⟩ (w_recv C hw (wk_town G x m ht) rfl) rfl rfl (Nat.le_of_ble_eq_true rfl) (lv_sub hl [] rfl) dX2_runningCorners_12 (fun H locs hw => ?_)
        refine lv_if_le (tgt := 24) hx hb dX2_runningCorners_15 (by decide) (fun hc => ?_) (fun hc => ?_)
        · replace h := p_t hc h
          exact B24 b1 b2 _ _ _ (lv_sub hl [0, 1, 2] rfl) hw h
        · replace h := p_f hc h
          refine lv_iload_n hx hb dX2_runningCorners_18 rfl (lv_at hl 1 rfl) ?_
          refine lv_iconst (v := (1 : Int32)) hx hb dX2_runningCorners_19 (by decide) ?_
          refine lv_iload_n hx hb dX2_runningCorners_20 rfl (lv_at hl 2 rfl) ?_
          refine lv_ishl hx hb dX2_runningCorners_21 ?_
          refine lv_ior hx hb dX2_runningCorners_22 ?_
          refine lv_istore_n (lv' := [(1, .int (b1 ||| ((1 : Int32) <<< (b2 &&& 31)))), (0, .ref (gq G (1 + 4 * t))), (2, .int b2)]) hx hb dX2_runningCorners_23 rfl hl (by decide) rfl (fun ls hl => ?_)
          exact B24 (b1 ||| ((1 : Int32) <<< (b2 &&& 31))) b2 _ _ _ (lv_sub hl [1, 0, 2] rfl) hw h
  unfold f2_runningCorners at h
  refine lv_iconst (v := (0 : Int32)) hx hb dX2_runningCorners_0 (by decide) ?_
  refine lv_istore_n (lv' := [(1, .int (0 : Int32)), (0, .ref (gq G (1 + 4 * t)))]) hx hb dX2_runningCorners_1 rfl hl (by decide) rfl (fun ls hl => ?_)
  refine lv_iconst (v := (0 : Int32)) hx hb dX2_runningCorners_2 (by decide) ?_
  refine lv_istore_n (lv' := [(2, .int (0 : Int32)), (1, .int (0 : Int32)), (0, .ref (gq G (1 + 4 * t)))]) hx hb dX2_runningCorners_3 rfl hl (by decide) rfl (fun ls hl => ?_)
  exact L4 fu (0 : Int32) (0 : Int32) _ _ _ (lv_sub hl [2, 1, 0] rfl) hw h

def f2_weightAt (t : Nat) (a1 : Int32) (a2 : Int32) (x : St) : Option (Int32) :=
  (f2_quality t a1 (1 : Int32) x).bind fun v1 =>
  if v1 = a2 then
    (f2_quality t a1 (2 : Int32) x).bind fun v2 =>
    some v2
  else
    some (0 : Int32)
set_option maxHeartbeats 4000000 in
set_option maxRecDepth 100000 in
theorem c2_weightAt (l : Launch) (G : GT) (t : Nat) (ht : t < 3) (x m : St) (a1 : Int32) (a2 : Int32) (r : Int32) (h : f2_weightAt t a1 a2 x = some r) : Mt l yX2_weightAt cX2_weightAt 3 (some .int) (rmF 1 23) G x m [.ref (gq G (1 + 4 * t)), .int a1, .int a2] (some (.int r)) x m := by
  refine Mt.of (by decide) (Nat.le_of_ble_eq_true rfl) ?_
  intro p e s mm args below meth c C ls hl hw
  have hx := C.1
  have hb := C.2.1
  have hown := C.2.2.2.2.1
  replace hl : lv_has ls 3 [(0, .ref (gq G (1 + 4 * t))), (1, .int a1), (2, .int a2)] := hl
  unfold f2_weightAt at h
  refine lv_aload_n hx hb dX2_weightAt_0 rfl (lv_at hl 0 rfl) ?_
  refine lv_iload_n hx hb dX2_weightAt_1 rfl (lv_at hl 1 rfl) ?_
  refine lv_iconst (v := (1 : Int32)) hx hb dX2_weightAt_2 (by decide) ?_
  obtain ⟨v1, hq, h⟩ := p_bd h
  refine w_Vi C hw (As := [.int a1, .int (1 : Int32)]) (rest := []) (c2_quality l G t ht x m a1 (1 : Int32) v1 hq) kv_X2_quality ml_X2_72 ⟨rfl, rfl⟩ ⟨Nat.le_of_ble_eq_true rfl, Nat.le_of_ble_eq_true rfl⟩ ⟨Nat.zero_le _, Nat.zero_le _⟩ (w_recv C hw (wk_town G x m ht) rfl) rfl rfl (Nat.le_of_ble_eq_true rfl) (lv_sub hl [] rfl) dX2_weightAt_3 (fun H locs hw => ?_)
  refine lv_iload_n hx hb dX2_weightAt_6 rfl (lv_at hl 2 rfl) ?_
  refine lv_icmp_ne (tgt := 19) hx hb dX2_weightAt_7 (by decide) (fun hc => ?_) (fun hc => ?_)
  · replace h := p_f hc h
    refine lv_iconst (v := (0 : Int32)) hx hb dX2_weightAt_19 (by decide) ?_
    replace h := Option.some.inj h
    subst h
    exact w_iret C hw (v := (0 : Int32)) rfl rfl dX2_weightAt_20
  · replace h := p_t hc h
    refine lv_aload_n hx hb dX2_weightAt_10 rfl (lv_at hl 0 rfl) ?_
    refine lv_iload_n hx hb dX2_weightAt_11 rfl (lv_at hl 1 rfl) ?_
    refine lv_iconst (v := (2 : Int32)) hx hb dX2_weightAt_12 (by decide) ?_
    obtain ⟨v2, hq, h⟩ := p_bd h
    refine w_Vi C hw (As := [.int a1, .int (2 : Int32)]) (rest := []) (c2_quality l G t ht x m a1 (2 : Int32) v2 hq) kv_X2_quality ml_X2_72 ⟨rfl, rfl⟩ ⟨Nat.le_of_ble_eq_true rfl, Nat.le_of_ble_eq_true rfl⟩ ⟨Nat.zero_le _, Nat.zero_le _⟩ (w_recv C hw (wk_town G x m ht) rfl) rfl rfl (Nat.le_of_ble_eq_true rfl) (lv_sub hl [] rfl) dX2_weightAt_13 (fun H locs hw => ?_)
    refine lv_goto (tgt := 20) hx hb dX2_weightAt_16 (by decide) ?_
    replace h := Option.some.inj h
    subst h
    exact w_iret C hw (v := v2) rfl rfl dX2_weightAt_20

def f2_loudAt_L4 (t : Nat)  : Nat → Int32 → Int32 → Int32 → St → Option (Int32)
  | 0, _, _, _, _ => none
  | n + 1, b1, b2, b3, x =>
    if (x (1 + 4 * t) 3) ≤ b3 then
      some b2
    else
      (f2_weightAt t b3 b1 x).bind fun v1 =>
      (f2_loudAt_L4 t n) b1 (b2 + v1) (b3 + (1 : Int32)) x
theorem f2_loudAt_L4_0 (t : Nat)  (b1 : Int32) (b2 : Int32) (b3 : Int32) (x : St) : f2_loudAt_L4 t 0 b1 b2 b3 x = none := rfl
theorem f2_loudAt_L4_s (t : Nat)  (n : Nat) (b1 : Int32) (b2 : Int32) (b3 : Int32) (x : St) : f2_loudAt_L4 t (n + 1) b1 b2 b3 x =
    if (x (1 + 4 * t) 3) ≤ b3 then
      some b2
    else
      (f2_weightAt t b3 b1 x).bind fun v1 =>
      (f2_loudAt_L4 t n) b1 (b2 + v1) (b3 + (1 : Int32)) x := rfl
def f2_loudAt (t : Nat) (a1 : Int32) (x : St) : Option (Int32) :=
  f2_loudAt_L4 t fu a1 (0 : Int32) (0 : Int32) x
set_option maxHeartbeats 4000000 in
set_option maxRecDepth 100000 in
theorem c2_loudAt (l : Launch) (G : GT) (t : Nat) (ht : t < 3) (x m : St) (a1 : Int32) (r : Int32) (h : f2_loudAt t a1 x = some r) : Mt l yX2_loudAt cX2_loudAt 4 (some .int) (rmF 2 45) G x m [.ref (gq G (1 + 4 * t)), .int a1] (some (.int r)) x m := by
  refine Mt.of (by decide) (Nat.le_of_ble_eq_true rfl) ?_
  intro p e s mm args below meth c C ls hl hw
  have hx := C.1
  have hb := C.2.1
  have hown := C.2.2.2.2.1
  replace hl : lv_has ls 4 [(0, .ref (gq G (1 + 4 * t))), (1, .int a1)] := hl
  have L4 : ∀ (n4 : Nat) (b1 : Int32) (b2 : Int32) (b3 : Int32) (H : Heap) (locs : List Loc) (ls : Array Slot), lv_has ls 4 [(0, .ref (gq G (1 + 4 * t))), (1, .int b1), (2, .int b2), (3, .int b3)] → Wd G s x m H locs → f2_loudAt_L4 t n4 b1 b2 b3 x = some r → W p l e (rmF 2 45) s mm args below meth c H locs 0 0 (QE below G (some (.int r)) x m args s) (F0 mm 4 ls []) := by
    intro n4
    induction n4 with
    | zero =>
      intro b1 b2 b3  H locs ls hl hw h
      rw [f2_loudAt_L4_0] at h
      exact absurd h.symm (Option.some_ne_none _)
    | succ n4 ih4 =>
      intro b1 b2 b3  H locs ls hl hw h
      rw [f2_loudAt_L4_s] at h
      refine lv_iload_n hx hb dX2_loudAt_4 rfl (lv_at hl 3 rfl) ?_
      refine lv_aload_n hx hb dX2_loudAt_5 rfl (lv_at hl 0 rfl) ?_
      refine w_get C hw (v := .int (x (1 + 4 * t) 3)) (k := 3) (wk_town G x m ht) rfl it_2 (by decide) fl_X2_39 rfl dX2_loudAt_6 ?_
      refine lv_icmp_ge (tgt := 27) hx hb dX2_loudAt_9 (by decide) (fun hc => ?_) (fun hc => ?_)
      · replace h := p_t hc h
        refine lv_iload_n hx hb dX2_loudAt_27 rfl (lv_at hl 2 rfl) ?_
        replace h := Option.some.inj h
        subst h
        exact w_iret C hw (v := b2) rfl rfl dX2_loudAt_28
      · replace h := p_f hc h
        refine lv_iload_n hx hb dX2_loudAt_12 rfl (lv_at hl 2 rfl) ?_
        refine lv_aload_n hx hb dX2_loudAt_13 rfl (lv_at hl 0 rfl) ?_
        refine lv_iload_n hx hb dX2_loudAt_14 rfl (lv_at hl 3 rfl) ?_
        refine lv_iload_n hx hb dX2_loudAt_15 rfl (lv_at hl 1 rfl) ?_
        obtain ⟨v1, hq, h⟩ := p_bd h
        refine w_Vi C hw (As := [.int b3, .int b1]) (rest := [.int b2]) (c2_weightAt l G t ht x m b3 b1 v1 hq) kv_X2_weightAt ml_X2_75 ⟨rfl, rfl⟩ ⟨Nat.le_of_ble_eq_true rfl, Nat.le_of_ble_eq_true rfl⟩ ⟨Nat.zero_le _, Nat.zero_le _⟩ (w_recv C hw (wk_town G x m ht) rfl) rfl rfl (Nat.le_of_ble_eq_true rfl) (lv_sub hl [] rfl) dX2_loudAt_16 (fun H locs hw => ?_)
        refine lv_iadd hx hb dX2_loudAt_19 ?_
        refine lv_istore_n (lv' := [(2, .int (b2 + v1)), (0, .ref (gq G (1 + 4 * t))), (1, .int b1), (3, .int b3)]) hx hb dX2_loudAt_20 rfl hl (by decide) rfl (fun ls hl => ?_)
        refine lv_iinc (v := (b3 + (1 : Int32))) (lv' := [(3, .int (b3 + (1 : Int32))), (2, .int (b2 + v1)), (0, .ref (gq G (1 + 4 * t))), (1, .int b1)]) hx hb dX2_loudAt_21 hl (k := 3) rfl rfl (by decide) rfl (fun ls hl => ?_)
        refine lv_goto (tgt := 4) hx hb dX2_loudAt_24 (by decide) ?_
        exact ih4 b1 (b2 + v1) (b3 + (1 : Int32)) _ _ _ (lv_sub hl [2, 3, 1, 0] rfl) hw h
  unfold f2_loudAt at h
  refine lv_iconst (v := (0 : Int32)) hx hb dX2_loudAt_0 (by decide) ?_
  refine lv_istore_n (lv' := [(2, .int (0 : Int32)), (0, .ref (gq G (1 + 4 * t))), (1, .int a1)]) hx hb dX2_loudAt_1 rfl hl (by decide) rfl (fun ls hl => ?_)
  refine lv_iconst (v := (0 : Int32)) hx hb dX2_loudAt_2 (by decide) ?_
  refine lv_istore_n (lv' := [(3, .int (0 : Int32)), (2, .int (0 : Int32)), (0, .ref (gq G (1 + 4 * t))), (1, .int a1)]) hx hb dX2_loudAt_3 rfl hl (by decide) rfl (fun ls hl => ?_)
  exact L4 fu a1 (0 : Int32) (0 : Int32) _ _ _ (lv_sub hl [2, 3, 1, 0] rfl) hw h

def f2_isHeardAt (t : Nat) (a1 : Int32) (x : St) : Option (Int32) :=
  (f2_loudAt t a1 x).bind fun v1 =>
  (f2_trait t a1 (4 : Int32) x).bind fun v2 =>
  if v1 < v2 then
    some (0 : Int32)
  else
    some (1 : Int32)
set_option maxHeartbeats 4000000 in
set_option maxRecDepth 100000 in
theorem c2_isHeardAt (l : Launch) (G : GT) (t : Nat) (ht : t < 3) (x m : St) (a1 : Int32) (r : Int32) (h : f2_isHeardAt t a1 x = some r) : Mt l yX2_isHeardAt cX2_isHeardAt 2 (some .boolean) (rmF 3 68) G x m [.ref (gq G (1 + 4 * t)), .int a1] (some (.int r)) x m := by
  refine Mt.of (by decide) (Nat.le_of_ble_eq_true rfl) ?_
  intro p e s mm args below meth c C ls hl hw
  have hx := C.1
  have hb := C.2.1
  have hown := C.2.2.2.2.1
  replace hl : lv_has ls 2 [(0, .ref (gq G (1 + 4 * t))), (1, .int a1)] := hl
  unfold f2_isHeardAt at h
  refine lv_aload_n hx hb dX2_isHeardAt_0 rfl (lv_at hl 0 rfl) ?_
  refine lv_iload_n hx hb dX2_isHeardAt_1 rfl (lv_at hl 1 rfl) ?_
  obtain ⟨v1, hq, h⟩ := p_bd h
  refine w_Vi C hw (As := [.int a1]) (rest := []) (c2_loudAt l G t ht x m a1 v1 hq) kv_X2_loudAt ml_X2_78 ⟨rfl, rfl⟩ ⟨Nat.le_of_ble_eq_true rfl, Nat.le_of_ble_eq_true rfl⟩ ⟨Nat.zero_le _, Nat.zero_le _⟩ (w_recv C hw (wk_town G x m ht) rfl) rfl rfl (Nat.le_of_ble_eq_true rfl) (lv_sub hl [] rfl) dX2_isHeardAt_2 (fun H locs hw => ?_)
  refine lv_aload_n hx hb dX2_isHeardAt_5 rfl (lv_at hl 0 rfl) ?_
  refine lv_iload_n hx hb dX2_isHeardAt_6 rfl (lv_at hl 1 rfl) ?_
  refine lv_iconst (v := (4 : Int32)) hx hb dX2_isHeardAt_7 (by decide) ?_
  obtain ⟨v2, hq, h⟩ := p_bd h
  refine w_Vi C hw (As := [.int a1, .int (4 : Int32)]) (rest := [.int v1]) (c2_trait l G t ht x m a1 (4 : Int32) v2 hq) kv_X2_trait ml_X2_62 ⟨rfl, rfl⟩ ⟨Nat.le_of_ble_eq_true rfl, Nat.le_of_ble_eq_true rfl⟩ ⟨Nat.zero_le _, Nat.zero_le _⟩ (w_recv C hw (wk_town G x m ht) rfl) rfl rfl (Nat.le_of_ble_eq_true rfl) (lv_sub hl [] rfl) dX2_isHeardAt_8 (fun H locs hw => ?_)
  refine lv_icmp_lt (tgt := 18) hx hb dX2_isHeardAt_11 (by decide) (fun hc => ?_) (fun hc => ?_)
  · replace h := p_t hc h
    refine lv_iconst (v := (0 : Int32)) hx hb dX2_isHeardAt_18 (by decide) ?_
    replace h := Option.some.inj h
    subst h
    exact w_iret C hw (v := (0 : Int32)) rfl rfl dX2_isHeardAt_19
  · replace h := p_f hc h
    refine lv_iconst (v := (1 : Int32)) hx hb dX2_isHeardAt_14 (by decide) ?_
    refine lv_goto (tgt := 19) hx hb dX2_isHeardAt_15 (by decide) ?_
    replace h := Option.some.inj h
    subst h
    exact w_iret C hw (v := (1 : Int32)) rfl rfl dX2_isHeardAt_19

def f2_heardCorners_b24 (t : Nat) (k4 : Int32 → Int32 → St → Option (Int32)) (b1 : Int32) (b2 : Int32) (x : St) : Option (Int32) :=
  k4 b1 (b2 + (1 : Int32)) x
def f2_heardCorners_L4 (t : Nat)  : Nat → Int32 → Int32 → St → Option (Int32)
  | 0, _, _, _ => none
  | n + 1, b1, b2, x =>
    if (16 : Int32) ≤ b2 then
      some b1
    else
      (f2_isHeardAt t b2 x).bind fun v1 =>
      if v1 = 0 then
        f2_heardCorners_b24 t (f2_heardCorners_L4 t n) b1 b2 x
      else
        f2_heardCorners_b24 t (f2_heardCorners_L4 t n) (b1 ||| ((1 : Int32) <<< (b2 &&& 31))) b2 x
theorem f2_heardCorners_L4_0 (t : Nat)  (b1 : Int32) (b2 : Int32) (x : St) : f2_heardCorners_L4 t 0 b1 b2 x = none := rfl
theorem f2_heardCorners_L4_s (t : Nat)  (n : Nat) (b1 : Int32) (b2 : Int32) (x : St) : f2_heardCorners_L4 t (n + 1) b1 b2 x =
    if (16 : Int32) ≤ b2 then
      some b1
    else
      (f2_isHeardAt t b2 x).bind fun v1 =>
      if v1 = 0 then
        f2_heardCorners_b24 t (f2_heardCorners_L4 t n) b1 b2 x
      else
        f2_heardCorners_b24 t (f2_heardCorners_L4 t n) (b1 ||| ((1 : Int32) <<< (b2 &&& 31))) b2 x := rfl
def f2_heardCorners (t : Nat)  (x : St) : Option (Int32) :=
  f2_heardCorners_L4 t fu (0 : Int32) (0 : Int32) x
set_option maxHeartbeats 4000000 in
set_option maxRecDepth 100000 in
theorem c2_heardCorners (l : Launch) (G : GT) (t : Nat) (ht : t < 3) (x m : St)  (r : Int32) (h : f2_heardCorners t x = some r) : Mt l yX2_heardCorners cX2_heardCorners 3 (some .int) (rmF 4 89) G x m [.ref (gq G (1 + 4 * t))] (some (.int r)) x m := by
  refine Mt.of (by decide) (Nat.le_of_ble_eq_true rfl) ?_
  intro p e s mm args below meth c C ls hl hw
  have hx := C.1
  have hb := C.2.1
  have hown := C.2.2.2.2.1
  replace hl : lv_has ls 3 [(0, .ref (gq G (1 + 4 * t)))] := hl
  have L4 : ∀ (n4 : Nat) (b1 : Int32) (b2 : Int32) (H : Heap) (locs : List Loc) (ls : Array Slot), lv_has ls 3 [(0, .ref (gq G (1 + 4 * t))), (1, .int b1), (2, .int b2)] → Wd G s x m H locs → f2_heardCorners_L4 t n4 b1 b2 x = some r → W p l e (rmF 4 89) s mm args below meth c H locs 0 0 (QE below G (some (.int r)) x m args s) (F0 mm 4 ls []) := by
    intro n4
    induction n4 with
    | zero =>
      intro b1 b2  H locs ls hl hw h
      rw [f2_heardCorners_L4_0] at h
      exact absurd h.symm (Option.some_ne_none _)
    | succ n4 ih4 =>
      have B24 : ∀ (b1 : Int32) (b2 : Int32) (H : Heap) (locs : List Loc) (ls : Array Slot), lv_has ls 3 [(0, .ref (gq G (1 + 4 * t))), (1, .int b1), (2, .int b2)] → Wd G s x m H locs → f2_heardCorners_b24 t (f2_heardCorners_L4 t n4) b1 b2 x = some r → W p l e (rmF 4 89) s mm args below meth c H locs 0 0 (QE below G (some (.int r)) x m args s) (F0 mm 24 ls []) := by
        intro b1 b2  H locs ls hl hw h
        unfold f2_heardCorners_b24 at h
        refine lv_iinc (v := (b2 + (1 : Int32))) (lv' := [(2, .int (b2 + (1 : Int32))), (0, .ref (gq G (1 + 4 * t))), (1, .int b1)]) hx hb dX2_heardCorners_24 hl (k := 2) rfl rfl (by decide) rfl (fun ls hl => ?_)
        refine lv_goto (tgt := 4) hx hb dX2_heardCorners_27 (by decide) ?_
        exact ih4 b1 (b2 + (1 : Int32)) _ _ _ (lv_sub hl [1, 2, 0] rfl) hw h
      intro b1 b2  H locs ls hl hw h
      rw [f2_heardCorners_L4_s] at h
      refine lv_iload_n hx hb dX2_heardCorners_4 rfl (lv_at hl 2 rfl) ?_
      refine lv_bipush (v := (16 : Int32)) hx hb dX2_heardCorners_5 (by decide) ?_
      refine lv_icmp_ge (tgt := 30) hx hb dX2_heardCorners_7 (by decide) (fun hc => ?_) (fun hc => ?_)
      · replace h := p_t hc h
        refine lv_iload_n hx hb dX2_heardCorners_30 rfl (lv_at hl 1 rfl) ?_
        replace h := Option.some.inj h
        subst h
        exact w_iret C hw (v := b1) rfl rfl dX2_heardCorners_31
      · replace h := p_f hc h
        refine lv_aload_n hx hb dX2_heardCorners_10 rfl (lv_at hl 0 rfl) ?_
        refine lv_iload_n hx hb dX2_heardCorners_11 rfl (lv_at hl 2 rfl) ?_
        obtain ⟨v1, hq, h⟩ := p_bd h
        refine w_Vi C hw (As := [.int b2]) (rest := []) (c2_isHeardAt l G t ht x m b2 v1 hq) kv_X2_isHeardAt ml_X2_81 ⟨rfl, rfl⟩ ⟨Nat.le_of_ble_eq_true rfl, Nat.le_of_ble_eq_true rfl⟩ ⟨Nat.zero_le _, Nat.zero_le _⟩ (w_recv C hw (wk_town G x m ht) rfl) rfl rfl (Nat.le_of_ble_eq_true rfl) (lv_sub hl [] rfl) dX2_heardCorners_12 (fun H locs hw => ?_)
        refine lv_if_eq (tgt := 24) hx hb dX2_heardCorners_15 (by decide) (fun hc => ?_) (fun hc => ?_)
        · replace h := p_t hc h
          exact B24 b1 b2 _ _ _ (lv_sub hl [0, 1, 2] rfl) hw h
        · replace h := p_f hc h
          refine lv_iload_n hx hb dX2_heardCorners_18 rfl (lv_at hl 1 rfl) ?_
          refine lv_iconst (v := (1 : Int32)) hx hb dX2_heardCorners_19 (by decide) ?_
          refine lv_iload_n hx hb dX2_heardCorners_20 rfl (lv_at hl 2 rfl) ?_
          refine lv_ishl hx hb dX2_heardCorners_21 ?_
          refine lv_ior hx hb dX2_heardCorners_22 ?_
          refine lv_istore_n (lv' := [(1, .int (b1 ||| ((1 : Int32) <<< (b2 &&& 31)))), (0, .ref (gq G (1 + 4 * t))), (2, .int b2)]) hx hb dX2_heardCorners_23 rfl hl (by decide) rfl (fun ls hl => ?_)
          exact B24 (b1 ||| ((1 : Int32) <<< (b2 &&& 31))) b2 _ _ _ (lv_sub hl [1, 0, 2] rfl) hw h
  unfold f2_heardCorners at h
  refine lv_iconst (v := (0 : Int32)) hx hb dX2_heardCorners_0 (by decide) ?_
  refine lv_istore_n (lv' := [(1, .int (0 : Int32)), (0, .ref (gq G (1 + 4 * t)))]) hx hb dX2_heardCorners_1 rfl hl (by decide) rfl (fun ls hl => ?_)
  refine lv_iconst (v := (0 : Int32)) hx hb dX2_heardCorners_2 (by decide) ?_
  refine lv_istore_n (lv' := [(2, .int (0 : Int32)), (1, .int (0 : Int32)), (0, .ref (gq G (1 + 4 * t)))]) hx hb dX2_heardCorners_3 rfl hl (by decide) rfl (fun ls hl => ?_)
  exact L4 fu (0 : Int32) (0 : Int32) _ _ _ (lv_sub hl [2, 1, 0] rfl) hw h

def f2_rentOf (t : Nat) (a1 : Int32) (x : St) : Option (Int32) :=
  (f2_trait t a1 (0 : Int32) x).bind fun v1 =>
  (f2_loudAt t a1 x).bind fun v2 =>
  some (v1 + (if (0 : Int32) < ((50 : Int32) - v2) then ((50 : Int32) - v2) else (0 : Int32)))
set_option maxHeartbeats 4000000 in
set_option maxRecDepth 100000 in
theorem c2_rentOf (l : Launch) (G : GT) (t : Nat) (ht : t < 3) (x m : St) (a1 : Int32) (r : Int32) (h : f2_rentOf t a1 x = some r) : Mt l yX2_rentOf cX2_rentOf 2 (some .int) (rmF 3 68) G x m [.ref (gq G (1 + 4 * t)), .int a1] (some (.int r)) x m := by
  refine Mt.of (by decide) (Nat.le_of_ble_eq_true rfl) ?_
  intro p e s mm args below meth c C ls hl hw
  have hx := C.1
  have hb := C.2.1
  have hown := C.2.2.2.2.1
  replace hl : lv_has ls 2 [(0, .ref (gq G (1 + 4 * t))), (1, .int a1)] := hl
  unfold f2_rentOf at h
  refine lv_aload_n hx hb dX2_rentOf_0 rfl (lv_at hl 0 rfl) ?_
  refine lv_iload_n hx hb dX2_rentOf_1 rfl (lv_at hl 1 rfl) ?_
  refine lv_iconst (v := (0 : Int32)) hx hb dX2_rentOf_2 (by decide) ?_
  obtain ⟨v1, hq, h⟩ := p_bd h
  refine w_Vi C hw (As := [.int a1, .int (0 : Int32)]) (rest := []) (c2_trait l G t ht x m a1 (0 : Int32) v1 hq) kv_X2_trait ml_X2_62 ⟨rfl, rfl⟩ ⟨Nat.le_of_ble_eq_true rfl, Nat.le_of_ble_eq_true rfl⟩ ⟨Nat.zero_le _, Nat.zero_le _⟩ (w_recv C hw (wk_town G x m ht) rfl) rfl rfl (Nat.le_of_ble_eq_true rfl) (lv_sub hl [] rfl) dX2_rentOf_3 (fun H locs hw => ?_)
  refine lv_iconst (v := (0 : Int32)) hx hb dX2_rentOf_6 (by decide) ?_
  refine lv_bipush (v := (50 : Int32)) hx hb dX2_rentOf_7 (by decide) ?_
  refine lv_aload_n hx hb dX2_rentOf_9 rfl (lv_at hl 0 rfl) ?_
  refine lv_iload_n hx hb dX2_rentOf_10 rfl (lv_at hl 1 rfl) ?_
  obtain ⟨v2, hq, h⟩ := p_bd h
  refine w_Vi C hw (As := [.int a1]) (rest := [.int (50 : Int32), .int (0 : Int32), .int v1]) (c2_loudAt l G t ht x m a1 v2 hq) kv_X2_loudAt ml_X2_78 ⟨rfl, rfl⟩ ⟨Nat.le_of_ble_eq_true rfl, Nat.le_of_ble_eq_true rfl⟩ ⟨Nat.zero_le _, Nat.zero_le _⟩ (w_recv C hw (wk_town G x m ht) rfl) rfl rfl (Nat.le_of_ble_eq_true rfl) (lv_sub hl [] rfl) dX2_rentOf_11 (fun H locs hw => ?_)
  refine lv_isub hx hb dX2_rentOf_14 ?_
  refine w_max C (lv_sub hl [] rfl) ml_X2_65 k_max ⟨Nat.le_of_ble_eq_true rfl, Nat.le_of_ble_eq_true rfl⟩ ⟨Nat.zero_le _, Nat.zero_le _⟩ (Nat.le_of_ble_eq_true rfl) dX2_rentOf_15 ?_
  refine lv_iadd hx hb dX2_rentOf_18 ?_
  replace h := Option.some.inj h
  subst h
  exact w_iret C hw (v := (v1 + (if (0 : Int32) < ((50 : Int32) - v2) then ((50 : Int32) - v2) else (0 : Int32)))) rfl rfl dX2_rentOf_19

def f2_heightOf (t : Nat) (a1 : Int32) (x : St) : Option (Int32) :=
  (f2_quality t a1 (1 : Int32) x).bind fun v1 =>
  (f2_trait t v1 (0 : Int32) x).bind fun v2 =>
  some v2
set_option maxHeartbeats 4000000 in
set_option maxRecDepth 100000 in
theorem c2_heightOf (l : Launch) (G : GT) (t : Nat) (ht : t < 3) (x m : St) (a1 : Int32) (r : Int32) (h : f2_heightOf t a1 x = some r) : Mt l yX2_heightOf cX2_heightOf 2 (some .int) (rmF 1 23) G x m [.ref (gq G (1 + 4 * t)), .int a1] (some (.int r)) x m := by
  refine Mt.of (by decide) (Nat.le_of_ble_eq_true rfl) ?_
  intro p e s mm args below meth c C ls hl hw
  have hx := C.1
  have hb := C.2.1
  have hown := C.2.2.2.2.1
  replace hl : lv_has ls 2 [(0, .ref (gq G (1 + 4 * t))), (1, .int a1)] := hl
  unfold f2_heightOf at h
  refine lv_aload_n hx hb dX2_heightOf_0 rfl (lv_at hl 0 rfl) ?_
  refine lv_aload_n hx hb dX2_heightOf_1 rfl (lv_at hl 0 rfl) ?_
  refine lv_iload_n hx hb dX2_heightOf_2 rfl (lv_at hl 1 rfl) ?_
  refine lv_iconst (v := (1 : Int32)) hx hb dX2_heightOf_3 (by decide) ?_
  obtain ⟨v1, hq, h⟩ := p_bd h
  refine w_Vi C hw (As := [.int a1, .int (1 : Int32)]) (rest := [.ref (gq G (1 + 4 * t))]) (c2_quality l G t ht x m a1 (1 : Int32) v1 hq) kv_X2_quality ml_X2_72 ⟨rfl, rfl⟩ ⟨Nat.le_of_ble_eq_true rfl, Nat.le_of_ble_eq_true rfl⟩ ⟨Nat.zero_le _, Nat.zero_le _⟩ (w_recv C hw (wk_town G x m ht) rfl) rfl rfl (Nat.le_of_ble_eq_true rfl) (lv_sub hl [] rfl) dX2_heightOf_4 (fun H locs hw => ?_)
  refine lv_iconst (v := (0 : Int32)) hx hb dX2_heightOf_7 (by decide) ?_
  obtain ⟨v2, hq, h⟩ := p_bd h
  refine w_Vi C hw (As := [.int v1, .int (0 : Int32)]) (rest := []) (c2_trait l G t ht x m v1 (0 : Int32) v2 hq) kv_X2_trait ml_X2_62 ⟨rfl, rfl⟩ ⟨Nat.le_of_ble_eq_true rfl, Nat.le_of_ble_eq_true rfl⟩ ⟨Nat.zero_le _, Nat.zero_le _⟩ (w_recv C hw (wk_town G x m ht) rfl) rfl rfl (Nat.le_of_ble_eq_true rfl) (lv_sub hl [] rfl) dX2_heightOf_8 (fun H locs hw => ?_)
  replace h := Option.some.inj h
  subst h
  exact w_iret C hw (v := v2) rfl rfl dX2_heightOf_11

def f2_whispersAt_b25 (t : Nat) (k4 : Int32 → Int32 → Int32 → St → Option (Int32)) (b1 : Int32) (b2 : Int32) (b3 : Int32) (x : St) : Option (Int32) :=
  k4 b1 b2 (b3 + (1 : Int32)) x
def f2_whispersAt_L4 (t : Nat)  : Nat → Int32 → Int32 → Int32 → St → Option (Int32)
  | 0, _, _, _, _ => none
  | n + 1, b1, b2, b3, x =>
    if (x (1 + 4 * t) 3) ≤ b3 then
      some b2
    else
      (f2_quality t b3 (1 : Int32) x).bind fun v1 =>
      if v1 = b1 then
        f2_whispersAt_b25 t (f2_whispersAt_L4 t n) b1 (b2 + (1 : Int32)) b3 x
      else
        f2_whispersAt_b25 t (f2_whispersAt_L4 t n) b1 b2 b3 x
theorem f2_whispersAt_L4_0 (t : Nat)  (b1 : Int32) (b2 : Int32) (b3 : Int32) (x : St) : f2_whispersAt_L4 t 0 b1 b2 b3 x = none := rfl
theorem f2_whispersAt_L4_s (t : Nat)  (n : Nat) (b1 : Int32) (b2 : Int32) (b3 : Int32) (x : St) : f2_whispersAt_L4 t (n + 1) b1 b2 b3 x =
    if (x (1 + 4 * t) 3) ≤ b3 then
      some b2
    else
      (f2_quality t b3 (1 : Int32) x).bind fun v1 =>
      if v1 = b1 then
        f2_whispersAt_b25 t (f2_whispersAt_L4 t n) b1 (b2 + (1 : Int32)) b3 x
      else
        f2_whispersAt_b25 t (f2_whispersAt_L4 t n) b1 b2 b3 x := rfl
def f2_whispersAt (t : Nat) (a1 : Int32) (x : St) : Option (Int32) :=
  f2_whispersAt_L4 t fu a1 (0 : Int32) (0 : Int32) x
set_option maxHeartbeats 4000000 in
set_option maxRecDepth 100000 in
theorem c2_whispersAt (l : Launch) (G : GT) (t : Nat) (ht : t < 3) (x m : St) (a1 : Int32) (r : Int32) (h : f2_whispersAt t a1 x = some r) : Mt l yX2_whispersAt cX2_whispersAt 4 (some .int) (rmF 1 23) G x m [.ref (gq G (1 + 4 * t)), .int a1] (some (.int r)) x m := by
  refine Mt.of (by decide) (Nat.le_of_ble_eq_true rfl) ?_
  intro p e s mm args below meth c C ls hl hw
  have hx := C.1
  have hb := C.2.1
  have hown := C.2.2.2.2.1
  replace hl : lv_has ls 4 [(0, .ref (gq G (1 + 4 * t))), (1, .int a1)] := hl
  have L4 : ∀ (n4 : Nat) (b1 : Int32) (b2 : Int32) (b3 : Int32) (H : Heap) (locs : List Loc) (ls : Array Slot), lv_has ls 4 [(0, .ref (gq G (1 + 4 * t))), (1, .int b1), (2, .int b2), (3, .int b3)] → Wd G s x m H locs → f2_whispersAt_L4 t n4 b1 b2 b3 x = some r → W p l e (rmF 1 23) s mm args below meth c H locs 0 0 (QE below G (some (.int r)) x m args s) (F0 mm 4 ls []) := by
    intro n4
    induction n4 with
    | zero =>
      intro b1 b2 b3  H locs ls hl hw h
      rw [f2_whispersAt_L4_0] at h
      exact absurd h.symm (Option.some_ne_none _)
    | succ n4 ih4 =>
      have B25 : ∀ (b1 : Int32) (b2 : Int32) (b3 : Int32) (H : Heap) (locs : List Loc) (ls : Array Slot), lv_has ls 4 [(0, .ref (gq G (1 + 4 * t))), (1, .int b1), (2, .int b2), (3, .int b3)] → Wd G s x m H locs → f2_whispersAt_b25 t (f2_whispersAt_L4 t n4) b1 b2 b3 x = some r → W p l e (rmF 1 23) s mm args below meth c H locs 0 0 (QE below G (some (.int r)) x m args s) (F0 mm 25 ls []) := by
        intro b1 b2 b3  H locs ls hl hw h
        unfold f2_whispersAt_b25 at h
        refine lv_iinc (v := (b3 + (1 : Int32))) (lv' := [(3, .int (b3 + (1 : Int32))), (0, .ref (gq G (1 + 4 * t))), (1, .int b1), (2, .int b2)]) hx hb dX2_whispersAt_25 hl (k := 3) rfl rfl (by decide) rfl (fun ls hl => ?_)
        refine lv_goto (tgt := 4) hx hb dX2_whispersAt_28 (by decide) ?_
        exact ih4 b1 b2 (b3 + (1 : Int32)) _ _ _ (lv_sub hl [1, 2, 3, 0] rfl) hw h
      intro b1 b2 b3  H locs ls hl hw h
      rw [f2_whispersAt_L4_s] at h
      refine lv_iload_n hx hb dX2_whispersAt_4 rfl (lv_at hl 3 rfl) ?_
      refine lv_aload_n hx hb dX2_whispersAt_5 rfl (lv_at hl 0 rfl) ?_
      refine w_get C hw (v := .int (x (1 + 4 * t) 3)) (k := 3) (wk_town G x m ht) rfl it_2 (by decide) fl_X2_39 rfl dX2_whispersAt_6 ?_
      refine lv_icmp_ge (tgt := 31) hx hb dX2_whispersAt_9 (by decide) (fun hc => ?_) (fun hc => ?_)
      · replace h := p_t hc h
        refine lv_iload_n hx hb dX2_whispersAt_31 rfl (lv_at hl 2 rfl) ?_
        replace h := Option.some.inj h
        subst h
        exact w_iret C hw (v := b2) rfl rfl dX2_whispersAt_32
      · replace h := p_f hc h
        refine lv_aload_n hx hb dX2_whispersAt_12 rfl (lv_at hl 0 rfl) ?_
        refine lv_iload_n hx hb dX2_whispersAt_13 rfl (lv_at hl 3 rfl) ?_
        refine lv_iconst (v := (1 : Int32)) hx hb dX2_whispersAt_14 (by decide) ?_
        obtain ⟨v1, hq, h⟩ := p_bd h
        refine w_Vi C hw (As := [.int b3, .int (1 : Int32)]) (rest := []) (c2_quality l G t ht x m b3 (1 : Int32) v1 hq) kv_X2_quality ml_X2_72 ⟨rfl, rfl⟩ ⟨Nat.le_of_ble_eq_true rfl, Nat.le_of_ble_eq_true rfl⟩ ⟨Nat.zero_le _, Nat.zero_le _⟩ (w_recv C hw (wk_town G x m ht) rfl) rfl rfl (Nat.le_of_ble_eq_true rfl) (lv_sub hl [] rfl) dX2_whispersAt_15 (fun H locs hw => ?_)
        refine lv_iload_n hx hb dX2_whispersAt_18 rfl (lv_at hl 1 rfl) ?_
        refine lv_icmp_ne (tgt := 25) hx hb dX2_whispersAt_19 (by decide) (fun hc => ?_) (fun hc => ?_)
        · replace h := p_f hc h
          exact B25 b1 b2 b3 _ _ _ (lv_sub hl [0, 1, 2, 3] rfl) hw h
        · replace h := p_t hc h
          refine lv_iinc (v := (b2 + (1 : Int32))) (lv' := [(2, .int (b2 + (1 : Int32))), (0, .ref (gq G (1 + 4 * t))), (1, .int b1), (3, .int b3)]) hx hb dX2_whispersAt_22 hl (k := 2) rfl rfl (by decide) rfl (fun ls hl => ?_)
          exact B25 b1 (b2 + (1 : Int32)) b3 _ _ _ (lv_sub hl [1, 2, 0, 3] rfl) hw h
  unfold f2_whispersAt at h
  refine lv_iconst (v := (0 : Int32)) hx hb dX2_whispersAt_0 (by decide) ?_
  refine lv_istore_n (lv' := [(2, .int (0 : Int32)), (0, .ref (gq G (1 + 4 * t))), (1, .int a1)]) hx hb dX2_whispersAt_1 rfl hl (by decide) rfl (fun ls hl => ?_)
  refine lv_iconst (v := (0 : Int32)) hx hb dX2_whispersAt_2 (by decide) ?_
  refine lv_istore_n (lv' := [(3, .int (0 : Int32)), (2, .int (0 : Int32)), (0, .ref (gq G (1 + 4 * t))), (1, .int a1)]) hx hb dX2_whispersAt_3 rfl hl (by decide) rfl (fun ls hl => ?_)
  exact L4 fu a1 (0 : Int32) (0 : Int32) _ _ _ (lv_sub hl [2, 3, 1, 0] rfl) hw h

def f2_weightOfAll_L4 (t : Nat)  : Nat → Int32 → Int32 → St → Option (Int32)
  | 0, _, _, _ => none
  | n + 1, b1, b2, x =>
    if (x (1 + 4 * t) 3) ≤ b2 then
      some b1
    else
      (f2_quality t b2 (2 : Int32) x).bind fun v1 =>
      (f2_weightOfAll_L4 t n) (b1 + v1) (b2 + (1 : Int32)) x
theorem f2_weightOfAll_L4_0 (t : Nat)  (b1 : Int32) (b2 : Int32) (x : St) : f2_weightOfAll_L4 t 0 b1 b2 x = none := rfl
theorem f2_weightOfAll_L4_s (t : Nat)  (n : Nat) (b1 : Int32) (b2 : Int32) (x : St) : f2_weightOfAll_L4 t (n + 1) b1 b2 x =
    if (x (1 + 4 * t) 3) ≤ b2 then
      some b1
    else
      (f2_quality t b2 (2 : Int32) x).bind fun v1 =>
      (f2_weightOfAll_L4 t n) (b1 + v1) (b2 + (1 : Int32)) x := rfl
def f2_weightOfAll (t : Nat)  (x : St) : Option (Int32) :=
  f2_weightOfAll_L4 t fu (0 : Int32) (0 : Int32) x
set_option maxHeartbeats 4000000 in
set_option maxRecDepth 100000 in
theorem c2_weightOfAll (l : Launch) (G : GT) (t : Nat) (ht : t < 3) (x m : St)  (r : Int32) (h : f2_weightOfAll t x = some r) : Mt l yX2_weightOfAll cX2_weightOfAll 3 (some .int) (rmF 1 23) G x m [.ref (gq G (1 + 4 * t))] (some (.int r)) x m := by
  refine Mt.of (by decide) (Nat.le_of_ble_eq_true rfl) ?_
  intro p e s mm args below meth c C ls hl hw
  have hx := C.1
  have hb := C.2.1
  have hown := C.2.2.2.2.1
  replace hl : lv_has ls 3 [(0, .ref (gq G (1 + 4 * t)))] := hl
  have L4 : ∀ (n4 : Nat) (b1 : Int32) (b2 : Int32) (H : Heap) (locs : List Loc) (ls : Array Slot), lv_has ls 3 [(0, .ref (gq G (1 + 4 * t))), (1, .int b1), (2, .int b2)] → Wd G s x m H locs → f2_weightOfAll_L4 t n4 b1 b2 x = some r → W p l e (rmF 1 23) s mm args below meth c H locs 0 0 (QE below G (some (.int r)) x m args s) (F0 mm 4 ls []) := by
    intro n4
    induction n4 with
    | zero =>
      intro b1 b2  H locs ls hl hw h
      rw [f2_weightOfAll_L4_0] at h
      exact absurd h.symm (Option.some_ne_none _)
    | succ n4 ih4 =>
      intro b1 b2  H locs ls hl hw h
      rw [f2_weightOfAll_L4_s] at h
      refine lv_iload_n hx hb dX2_weightOfAll_4 rfl (lv_at hl 2 rfl) ?_
      refine lv_aload_n hx hb dX2_weightOfAll_5 rfl (lv_at hl 0 rfl) ?_
      refine w_get C hw (v := .int (x (1 + 4 * t) 3)) (k := 3) (wk_town G x m ht) rfl it_2 (by decide) fl_X2_39 rfl dX2_weightOfAll_6 ?_
      refine lv_icmp_ge (tgt := 27) hx hb dX2_weightOfAll_9 (by decide) (fun hc => ?_) (fun hc => ?_)
      · replace h := p_t hc h
        refine lv_iload_n hx hb dX2_weightOfAll_27 rfl (lv_at hl 1 rfl) ?_
        replace h := Option.some.inj h
        subst h
        exact w_iret C hw (v := b1) rfl rfl dX2_weightOfAll_28
      · replace h := p_f hc h
        refine lv_iload_n hx hb dX2_weightOfAll_12 rfl (lv_at hl 1 rfl) ?_
        refine lv_aload_n hx hb dX2_weightOfAll_13 rfl (lv_at hl 0 rfl) ?_
        refine lv_iload_n hx hb dX2_weightOfAll_14 rfl (lv_at hl 2 rfl) ?_
        refine lv_iconst (v := (2 : Int32)) hx hb dX2_weightOfAll_15 (by decide) ?_
        obtain ⟨v1, hq, h⟩ := p_bd h
        refine w_Vi C hw (As := [.int b2, .int (2 : Int32)]) (rest := [.int b1]) (c2_quality l G t ht x m b2 (2 : Int32) v1 hq) kv_X2_quality ml_X2_72 ⟨rfl, rfl⟩ ⟨Nat.le_of_ble_eq_true rfl, Nat.le_of_ble_eq_true rfl⟩ ⟨Nat.zero_le _, Nat.zero_le _⟩ (w_recv C hw (wk_town G x m ht) rfl) rfl rfl (Nat.le_of_ble_eq_true rfl) (lv_sub hl [] rfl) dX2_weightOfAll_16 (fun H locs hw => ?_)
        refine lv_iadd hx hb dX2_weightOfAll_19 ?_
        refine lv_istore_n (lv' := [(1, .int (b1 + v1)), (0, .ref (gq G (1 + 4 * t))), (2, .int b2)]) hx hb dX2_weightOfAll_20 rfl hl (by decide) rfl (fun ls hl => ?_)
        refine lv_iinc (v := (b2 + (1 : Int32))) (lv' := [(2, .int (b2 + (1 : Int32))), (1, .int (b1 + v1)), (0, .ref (gq G (1 + 4 * t)))]) hx hb dX2_weightOfAll_21 hl (k := 2) rfl rfl (by decide) rfl (fun ls hl => ?_)
        refine lv_goto (tgt := 4) hx hb dX2_weightOfAll_24 (by decide) ?_
        exact ih4 (b1 + v1) (b2 + (1 : Int32)) _ _ _ (lv_sub hl [2, 1, 0] rfl) hw h
  unfold f2_weightOfAll at h
  refine lv_iconst (v := (0 : Int32)) hx hb dX2_weightOfAll_0 (by decide) ?_
  refine lv_istore_n (lv' := [(1, .int (0 : Int32)), (0, .ref (gq G (1 + 4 * t)))]) hx hb dX2_weightOfAll_1 rfl hl (by decide) rfl (fun ls hl => ?_)
  refine lv_iconst (v := (0 : Int32)) hx hb dX2_weightOfAll_2 (by decide) ?_
  refine lv_istore_n (lv' := [(2, .int (0 : Int32)), (1, .int (0 : Int32)), (0, .ref (gq G (1 + 4 * t)))]) hx hb dX2_weightOfAll_3 rfl hl (by decide) rfl (fun ls hl => ?_)
  exact L4 fu (0 : Int32) (0 : Int32) _ _ _ (lv_sub hl [2, 1, 0] rfl) hw h

def f2_sandOfAll_L4 (t : Nat)  : Nat → Int32 → Int32 → St → Option (Int32)
  | 0, _, _, _ => none
  | n + 1, b1, b2, x =>
    if (16 : Int32) ≤ b2 then
      some b1
    else
      (f2_trait t b2 (2 : Int32) x).bind fun v1 =>
      (f2_sandOfAll_L4 t n) (b1 + v1) (b2 + (1 : Int32)) x
theorem f2_sandOfAll_L4_0 (t : Nat)  (b1 : Int32) (b2 : Int32) (x : St) : f2_sandOfAll_L4 t 0 b1 b2 x = none := rfl
theorem f2_sandOfAll_L4_s (t : Nat)  (n : Nat) (b1 : Int32) (b2 : Int32) (x : St) : f2_sandOfAll_L4 t (n + 1) b1 b2 x =
    if (16 : Int32) ≤ b2 then
      some b1
    else
      (f2_trait t b2 (2 : Int32) x).bind fun v1 =>
      (f2_sandOfAll_L4 t n) (b1 + v1) (b2 + (1 : Int32)) x := rfl
def f2_sandOfAll (t : Nat)  (x : St) : Option (Int32) :=
  f2_sandOfAll_L4 t fu (0 : Int32) (0 : Int32) x
set_option maxHeartbeats 4000000 in
set_option maxRecDepth 100000 in
theorem c2_sandOfAll (l : Launch) (G : GT) (t : Nat) (ht : t < 3) (x m : St)  (r : Int32) (h : f2_sandOfAll t x = some r) : Mt l yX2_sandOfAll cX2_sandOfAll 3 (some .int) (rmF 1 23) G x m [.ref (gq G (1 + 4 * t))] (some (.int r)) x m := by
  refine Mt.of (by decide) (Nat.le_of_ble_eq_true rfl) ?_
  intro p e s mm args below meth c C ls hl hw
  have hx := C.1
  have hb := C.2.1
  have hown := C.2.2.2.2.1
  replace hl : lv_has ls 3 [(0, .ref (gq G (1 + 4 * t)))] := hl
  have L4 : ∀ (n4 : Nat) (b1 : Int32) (b2 : Int32) (H : Heap) (locs : List Loc) (ls : Array Slot), lv_has ls 3 [(0, .ref (gq G (1 + 4 * t))), (1, .int b1), (2, .int b2)] → Wd G s x m H locs → f2_sandOfAll_L4 t n4 b1 b2 x = some r → W p l e (rmF 1 23) s mm args below meth c H locs 0 0 (QE below G (some (.int r)) x m args s) (F0 mm 4 ls []) := by
    intro n4
    induction n4 with
    | zero =>
      intro b1 b2  H locs ls hl hw h
      rw [f2_sandOfAll_L4_0] at h
      exact absurd h.symm (Option.some_ne_none _)
    | succ n4 ih4 =>
      intro b1 b2  H locs ls hl hw h
      rw [f2_sandOfAll_L4_s] at h
      refine lv_iload_n hx hb dX2_sandOfAll_4 rfl (lv_at hl 2 rfl) ?_
      refine lv_bipush (v := (16 : Int32)) hx hb dX2_sandOfAll_5 (by decide) ?_
      refine lv_icmp_ge (tgt := 25) hx hb dX2_sandOfAll_7 (by decide) (fun hc => ?_) (fun hc => ?_)
      · replace h := p_t hc h
        refine lv_iload_n hx hb dX2_sandOfAll_25 rfl (lv_at hl 1 rfl) ?_
        replace h := Option.some.inj h
        subst h
        exact w_iret C hw (v := b1) rfl rfl dX2_sandOfAll_26
      · replace h := p_f hc h
        refine lv_iload_n hx hb dX2_sandOfAll_10 rfl (lv_at hl 1 rfl) ?_
        refine lv_aload_n hx hb dX2_sandOfAll_11 rfl (lv_at hl 0 rfl) ?_
        refine lv_iload_n hx hb dX2_sandOfAll_12 rfl (lv_at hl 2 rfl) ?_
        refine lv_iconst (v := (2 : Int32)) hx hb dX2_sandOfAll_13 (by decide) ?_
        obtain ⟨v1, hq, h⟩ := p_bd h
        refine w_Vi C hw (As := [.int b2, .int (2 : Int32)]) (rest := [.int b1]) (c2_trait l G t ht x m b2 (2 : Int32) v1 hq) kv_X2_trait ml_X2_62 ⟨rfl, rfl⟩ ⟨Nat.le_of_ble_eq_true rfl, Nat.le_of_ble_eq_true rfl⟩ ⟨Nat.zero_le _, Nat.zero_le _⟩ (w_recv C hw (wk_town G x m ht) rfl) rfl rfl (Nat.le_of_ble_eq_true rfl) (lv_sub hl [] rfl) dX2_sandOfAll_14 (fun H locs hw => ?_)
        refine lv_iadd hx hb dX2_sandOfAll_17 ?_
        refine lv_istore_n (lv' := [(1, .int (b1 + v1)), (0, .ref (gq G (1 + 4 * t))), (2, .int b2)]) hx hb dX2_sandOfAll_18 rfl hl (by decide) rfl (fun ls hl => ?_)
        refine lv_iinc (v := (b2 + (1 : Int32))) (lv' := [(2, .int (b2 + (1 : Int32))), (1, .int (b1 + v1)), (0, .ref (gq G (1 + 4 * t)))]) hx hb dX2_sandOfAll_19 hl (k := 2) rfl rfl (by decide) rfl (fun ls hl => ?_)
        refine lv_goto (tgt := 4) hx hb dX2_sandOfAll_22 (by decide) ?_
        exact ih4 (b1 + v1) (b2 + (1 : Int32)) _ _ _ (lv_sub hl [2, 1, 0] rfl) hw h
  unfold f2_sandOfAll at h
  refine lv_iconst (v := (0 : Int32)) hx hb dX2_sandOfAll_0 (by decide) ?_
  refine lv_istore_n (lv' := [(1, .int (0 : Int32)), (0, .ref (gq G (1 + 4 * t)))]) hx hb dX2_sandOfAll_1 rfl hl (by decide) rfl (fun ls hl => ?_)
  refine lv_iconst (v := (0 : Int32)) hx hb dX2_sandOfAll_2 (by decide) ?_
  refine lv_istore_n (lv' := [(2, .int (0 : Int32)), (1, .int (0 : Int32)), (0, .ref (gq G (1 + 4 * t)))]) hx hb dX2_sandOfAll_3 rfl hl (by decide) rfl (fun ls hl => ?_)
  exact L4 fu (0 : Int32) (0 : Int32) _ _ _ (lv_sub hl [2, 1, 0] rfl) hw h

def f3_isIn  (a1 : Int32) (a2 : Int32) : Int32 :=
  if ((a1 >>> (a2 &&& 31)) &&& (1 : Int32)) = 0 then
    (0 : Int32)
  else
    (1 : Int32)
theorem bz_X3_isIn  (a1 : Int32) (a2 : Int32) : f3_isIn a1 a2 = 0 ∨ f3_isIn a1 a2 = 1 := by
  unfold f3_isIn
  repeat' split
  all_goals first | exact Or.inl rfl | exact Or.inr rfl
set_option maxHeartbeats 4000000 in
set_option maxRecDepth 100000 in
theorem c3_isIn (l : Launch) (G : GT)  (x m : St) (a1 : Int32) (a2 : Int32) (r : Int32) (h : f3_isIn a1 a2 = r) : Mt l yX3_isIn cX3_isIn 2 (some .boolean) (rmF 0 0) G x m [.int a1, .int a2] (some (.int r)) x m := by
  refine Mt.of (by decide) (Nat.le_of_ble_eq_true rfl) ?_
  intro p e s mm args below meth c C ls hl hw
  have hx := C.1
  have hb := C.2.1
  have hown := C.2.2.2.2.1
  replace hl : lv_has ls 2 [(0, .int a1), (1, .int a2)] := hl
  unfold f3_isIn at h
  refine lv_iload_n hx hb dX3_isIn_0 rfl (lv_at hl 0 rfl) ?_
  refine lv_iload_n hx hb dX3_isIn_1 rfl (lv_at hl 1 rfl) ?_
  refine lv_ishr hx hb dX3_isIn_2 ?_
  refine lv_iconst (v := (1 : Int32)) hx hb dX3_isIn_3 (by decide) ?_
  refine lv_iand hx hb dX3_isIn_4 ?_
  refine lv_if_eq (tgt := 12) hx hb dX3_isIn_5 (by decide) (fun hc => ?_) (fun hc => ?_)
  · replace h := p_t hc h
    refine lv_iconst (v := (0 : Int32)) hx hb dX3_isIn_12 (by decide) ?_
    subst h
    exact w_iret C hw (v := (0 : Int32)) rfl rfl dX3_isIn_13
  · replace h := p_f hc h
    refine lv_iconst (v := (1 : Int32)) hx hb dX3_isIn_8 (by decide) ?_
    refine lv_goto (tgt := 13) hx hb dX3_isIn_9 (by decide) ?_
    subst h
    exact w_iret C hw (v := (1 : Int32)) rfl rfl dX3_isIn_13

def f2_costOf_b27 (t : Nat) (k4 : Int32 → Int32 → Int32 → St → Option (Int32)) (b1 : Int32) (b2 : Int32) (b3 : Int32) (x : St) : Option (Int32) :=
  k4 b1 b2 (b3 + (1 : Int32)) x
def f2_costOf_L4 (t : Nat)  : Nat → Int32 → Int32 → Int32 → St → Option (Int32)
  | 0, _, _, _, _ => none
  | n + 1, b1, b2, b3, x =>
    if (16 : Int32) ≤ b3 then
      some b2
    else
      if (f3_isIn b1 b3) = 0 then
        f2_costOf_b27 t (f2_costOf_L4 t n) b1 b2 b3 x
      else
        (f2_trait t b3 (3 : Int32) x).bind fun v1 =>
        f2_costOf_b27 t (f2_costOf_L4 t n) b1 (b2 + v1) b3 x
theorem f2_costOf_L4_0 (t : Nat)  (b1 : Int32) (b2 : Int32) (b3 : Int32) (x : St) : f2_costOf_L4 t 0 b1 b2 b3 x = none := rfl
theorem f2_costOf_L4_s (t : Nat)  (n : Nat) (b1 : Int32) (b2 : Int32) (b3 : Int32) (x : St) : f2_costOf_L4 t (n + 1) b1 b2 b3 x =
    if (16 : Int32) ≤ b3 then
      some b2
    else
      if (f3_isIn b1 b3) = 0 then
        f2_costOf_b27 t (f2_costOf_L4 t n) b1 b2 b3 x
      else
        (f2_trait t b3 (3 : Int32) x).bind fun v1 =>
        f2_costOf_b27 t (f2_costOf_L4 t n) b1 (b2 + v1) b3 x := rfl
def f2_costOf (t : Nat) (a1 : Int32) (x : St) : Option (Int32) :=
  f2_costOf_L4 t fu a1 (0 : Int32) (0 : Int32) x
set_option maxHeartbeats 4000000 in
set_option maxRecDepth 100000 in
theorem c2_costOf (l : Launch) (G : GT) (t : Nat) (ht : t < 3) (x m : St) (a1 : Int32) (r : Int32) (h : f2_costOf t a1 x = some r) : Mt l yX2_costOf cX2_costOf 4 (some .int) (rmF 1 23) G x m [.ref (gq G (1 + 4 * t)), .int a1] (some (.int r)) x m := by
  refine Mt.of (by decide) (Nat.le_of_ble_eq_true rfl) ?_
  intro p e s mm args below meth c C ls hl hw
  have hx := C.1
  have hb := C.2.1
  have hown := C.2.2.2.2.1
  replace hl : lv_has ls 4 [(0, .ref (gq G (1 + 4 * t))), (1, .int a1)] := hl
  have L4 : ∀ (n4 : Nat) (b1 : Int32) (b2 : Int32) (b3 : Int32) (H : Heap) (locs : List Loc) (ls : Array Slot), lv_has ls 4 [(0, .ref (gq G (1 + 4 * t))), (1, .int b1), (2, .int b2), (3, .int b3)] → Wd G s x m H locs → f2_costOf_L4 t n4 b1 b2 b3 x = some r → W p l e (rmF 1 23) s mm args below meth c H locs 0 0 (QE below G (some (.int r)) x m args s) (F0 mm 4 ls []) := by
    intro n4
    induction n4 with
    | zero =>
      intro b1 b2 b3  H locs ls hl hw h
      rw [f2_costOf_L4_0] at h
      exact absurd h.symm (Option.some_ne_none _)
    | succ n4 ih4 =>
      have B27 : ∀ (b1 : Int32) (b2 : Int32) (b3 : Int32) (H : Heap) (locs : List Loc) (ls : Array Slot), lv_has ls 4 [(0, .ref (gq G (1 + 4 * t))), (1, .int b1), (2, .int b2), (3, .int b3)] → Wd G s x m H locs → f2_costOf_b27 t (f2_costOf_L4 t n4) b1 b2 b3 x = some r → W p l e (rmF 1 23) s mm args below meth c H locs 0 0 (QE below G (some (.int r)) x m args s) (F0 mm 27 ls []) := by
        intro b1 b2 b3  H locs ls hl hw h
        unfold f2_costOf_b27 at h
        refine lv_iinc (v := (b3 + (1 : Int32))) (lv' := [(3, .int (b3 + (1 : Int32))), (0, .ref (gq G (1 + 4 * t))), (1, .int b1), (2, .int b2)]) hx hb dX2_costOf_27 hl (k := 3) rfl rfl (by decide) rfl (fun ls hl => ?_)
        refine lv_goto (tgt := 4) hx hb dX2_costOf_30 (by decide) ?_
        exact ih4 b1 b2 (b3 + (1 : Int32)) _ _ _ (lv_sub hl [1, 2, 3, 0] rfl) hw h
      intro b1 b2 b3  H locs ls hl hw h
      rw [f2_costOf_L4_s] at h
      refine lv_iload_n hx hb dX2_costOf_4 rfl (lv_at hl 3 rfl) ?_
      refine lv_bipush (v := (16 : Int32)) hx hb dX2_costOf_5 (by decide) ?_
      refine lv_icmp_ge (tgt := 33) hx hb dX2_costOf_7 (by decide) (fun hc => ?_) (fun hc => ?_)
      · replace h := p_t hc h
        refine lv_iload_n hx hb dX2_costOf_33 rfl (lv_at hl 2 rfl) ?_
        replace h := Option.some.inj h
        subst h
        exact w_iret C hw (v := b2) rfl rfl dX2_costOf_34
      · replace h := p_f hc h
        refine lv_iload_n hx hb dX2_costOf_10 rfl (lv_at hl 1 rfl) ?_
        refine lv_iload_n hx hb dX2_costOf_11 rfl (lv_at hl 3 rfl) ?_
        refine w_SNi C hw (As := [.int b1, .int b3]) (rest := []) (c3_isIn l G x m b1 b3 _ rfl) ks_X3_isIn (List.mem_of_getElem? (i := 1) rfl) ⟨rfl, rfl⟩ ⟨Nat.le_of_ble_eq_true rfl, Nat.le_of_ble_eq_true rfl⟩ ⟨Nat.zero_le _, Nat.zero_le _⟩ rfl rfl (Nat.le_of_ble_eq_true rfl) (lv_sub hl [] rfl) dX2_costOf_12 (fun H locs hw => ?_)
        refine lv_if_eq (tgt := 27) hx hb dX2_costOf_15 (by decide) (fun hc => ?_) (fun hc => ?_)
        · replace h := p_t hc h
          exact B27 b1 b2 b3 _ _ _ (lv_sub hl [0, 1, 2, 3] rfl) hw h
        · replace h := p_f hc h
          refine lv_iload_n hx hb dX2_costOf_18 rfl (lv_at hl 2 rfl) ?_
          refine lv_aload_n hx hb dX2_costOf_19 rfl (lv_at hl 0 rfl) ?_
          refine lv_iload_n hx hb dX2_costOf_20 rfl (lv_at hl 3 rfl) ?_
          refine lv_iconst (v := (3 : Int32)) hx hb dX2_costOf_21 (by decide) ?_
          obtain ⟨v1, hq, h⟩ := p_bd h
          refine w_Vi C hw (As := [.int b3, .int (3 : Int32)]) (rest := [.int b2]) (c2_trait l G t ht x m b3 (3 : Int32) v1 hq) kv_X2_trait ml_X2_62 ⟨rfl, rfl⟩ ⟨Nat.le_of_ble_eq_true rfl, Nat.le_of_ble_eq_true rfl⟩ ⟨Nat.zero_le _, Nat.zero_le _⟩ (w_recv C hw (wk_town G x m ht) rfl) rfl rfl (Nat.le_of_ble_eq_true rfl) (lv_sub hl [] rfl) dX2_costOf_22 (fun H locs hw => ?_)
          refine lv_iadd hx hb dX2_costOf_25 ?_
          refine lv_istore_n (lv' := [(2, .int (b2 + v1)), (0, .ref (gq G (1 + 4 * t))), (1, .int b1), (3, .int b3)]) hx hb dX2_costOf_26 rfl hl (by decide) rfl (fun ls hl => ?_)
          exact B27 b1 (b2 + v1) b3 _ _ _ (lv_sub hl [1, 2, 0, 3] rfl) hw h
  unfold f2_costOf at h
  refine lv_iconst (v := (0 : Int32)) hx hb dX2_costOf_0 (by decide) ?_
  refine lv_istore_n (lv' := [(2, .int (0 : Int32)), (0, .ref (gq G (1 + 4 * t))), (1, .int a1)]) hx hb dX2_costOf_1 rfl hl (by decide) rfl (fun ls hl => ?_)
  refine lv_iconst (v := (0 : Int32)) hx hb dX2_costOf_2 (by decide) ?_
  refine lv_istore_n (lv' := [(3, .int (0 : Int32)), (2, .int (0 : Int32)), (0, .ref (gq G (1 + 4 * t))), (1, .int a1)]) hx hb dX2_costOf_3 rfl hl (by decide) rfl (fun ls hl => ?_)
  exact L4 fu a1 (0 : Int32) (0 : Int32) _ _ _ (lv_sub hl [2, 3, 1, 0] rfl) hw h

def f2_sandAll_b24 (t : Nat) (k2 : Int32 → Int32 → St → Option (St)) (b1 : Int32) (b2 : Int32) (x : St) : Option (St) :=
  k2 b1 (b2 + (1 : Int32)) x
def f2_sandAll_L2 (t : Nat)  : Nat → Int32 → Int32 → St → Option (St)
  | 0, _, _, _ => none
  | n + 1, b1, b2, x =>
    if (16 : Int32) ≤ b2 then
      some x
    else
      if (f3_isIn b1 b2) = 0 then
        f2_sandAll_b24 t (f2_sandAll_L2 t n) b1 b2 x
      else
        (f2_setTrait t b2 (2 : Int32) (9 : Int32) x).bind fun z1 =>
        f2_sandAll_b24 t (f2_sandAll_L2 t n) b1 b2 z1
theorem f2_sandAll_L2_0 (t : Nat)  (b1 : Int32) (b2 : Int32) (x : St) : f2_sandAll_L2 t 0 b1 b2 x = none := rfl
theorem f2_sandAll_L2_s (t : Nat)  (n : Nat) (b1 : Int32) (b2 : Int32) (x : St) : f2_sandAll_L2 t (n + 1) b1 b2 x =
    if (16 : Int32) ≤ b2 then
      some x
    else
      if (f3_isIn b1 b2) = 0 then
        f2_sandAll_b24 t (f2_sandAll_L2 t n) b1 b2 x
      else
        (f2_setTrait t b2 (2 : Int32) (9 : Int32) x).bind fun z1 =>
        f2_sandAll_b24 t (f2_sandAll_L2 t n) b1 b2 z1 := rfl
def f2_sandAll (t : Nat) (a1 : Int32) (x : St) : Option (St) :=
  f2_sandAll_L2 t fu a1 (0 : Int32) x
set_option maxHeartbeats 4000000 in
set_option maxRecDepth 100000 in
theorem c2_sandAll (l : Launch) (G : GT) (t : Nat) (ht : t < 3) (x m : St) (a1 : Int32) (r : St) (h : f2_sandAll t a1 x = some r) : Mt l yX2_sandAll cX2_sandAll 3 none (rmF 2 45) G x m [.ref (gq G (1 + 4 * t)), .int a1] none r m := by
  refine Mt.of (by decide) (Nat.le_of_ble_eq_true rfl) ?_
  intro p e s mm args below meth c C ls hl hw
  have hx := C.1
  have hb := C.2.1
  have hown := C.2.2.2.2.1
  replace hl : lv_has ls 3 [(0, .ref (gq G (1 + 4 * t))), (1, .int a1)] := hl
  have L2 : ∀ (n2 : Nat) (b1 : Int32) (b2 : Int32) (x : St) (H : Heap) (locs : List Loc) (ls : Array Slot), lv_has ls 3 [(0, .ref (gq G (1 + 4 * t))), (1, .int b1), (2, .int b2)] → Wd G s x m H locs → f2_sandAll_L2 t n2 b1 b2 x = some r → W p l e (rmF 2 45) s mm args below meth c H locs 0 0 (QE below G none r m args s) (F0 mm 2 ls []) := by
    intro n2
    induction n2 with
    | zero =>
      intro b1 b2 x H locs ls hl hw h
      rw [f2_sandAll_L2_0] at h
      exact absurd h.symm (Option.some_ne_none _)
    | succ n2 ih2 =>
      have B24 : ∀ (b1 : Int32) (b2 : Int32) (x : St) (H : Heap) (locs : List Loc) (ls : Array Slot), lv_has ls 3 [(0, .ref (gq G (1 + 4 * t))), (1, .int b1), (2, .int b2)] → Wd G s x m H locs → f2_sandAll_b24 t (f2_sandAll_L2 t n2) b1 b2 x = some r → W p l e (rmF 2 45) s mm args below meth c H locs 0 0 (QE below G none r m args s) (F0 mm 24 ls []) := by
        intro b1 b2 x H locs ls hl hw h
        unfold f2_sandAll_b24 at h
        refine lv_iinc (v := (b2 + (1 : Int32))) (lv' := [(2, .int (b2 + (1 : Int32))), (0, .ref (gq G (1 + 4 * t))), (1, .int b1)]) hx hb dX2_sandAll_24 hl (k := 2) rfl rfl (by decide) rfl (fun ls hl => ?_)
        refine lv_goto (tgt := 2) hx hb dX2_sandAll_27 (by decide) ?_
        exact ih2 b1 (b2 + (1 : Int32)) x _ _ _ (lv_sub hl [1, 2, 0] rfl) hw h
      intro b1 b2 x H locs ls hl hw h
      rw [f2_sandAll_L2_s] at h
      refine lv_iload_n hx hb dX2_sandAll_2 rfl (lv_at hl 2 rfl) ?_
      refine lv_bipush (v := (16 : Int32)) hx hb dX2_sandAll_3 (by decide) ?_
      refine lv_icmp_ge (tgt := 30) hx hb dX2_sandAll_5 (by decide) (fun hc => ?_) (fun hc => ?_)
      · replace h := p_t hc h
        replace h := Option.some.inj h
        subst h
        exact w_vret C hw rfl dX2_sandAll_30
      · replace h := p_f hc h
        refine lv_iload_n hx hb dX2_sandAll_8 rfl (lv_at hl 1 rfl) ?_
        refine lv_iload_n hx hb dX2_sandAll_9 rfl (lv_at hl 2 rfl) ?_
        refine w_SNi C hw (As := [.int b1, .int b2]) (rest := []) (c3_isIn l G x m b1 b2 _ rfl) ks_X3_isIn (List.mem_of_getElem? (i := 1) rfl) ⟨rfl, rfl⟩ ⟨Nat.le_of_ble_eq_true rfl, Nat.le_of_ble_eq_true rfl⟩ ⟨Nat.zero_le _, Nat.zero_le _⟩ rfl rfl (Nat.le_of_ble_eq_true rfl) (lv_sub hl [] rfl) dX2_sandAll_10 (fun H locs hw => ?_)
        refine lv_if_eq (tgt := 24) hx hb dX2_sandAll_13 (by decide) (fun hc => ?_) (fun hc => ?_)
        · replace h := p_t hc h
          exact B24 b1 b2 x _ _ _ (lv_sub hl [0, 1, 2] rfl) hw h
        · replace h := p_f hc h
          refine lv_aload_n hx hb dX2_sandAll_16 rfl (lv_at hl 0 rfl) ?_
          refine lv_iload_n hx hb dX2_sandAll_17 rfl (lv_at hl 2 rfl) ?_
          refine lv_iconst (v := (2 : Int32)) hx hb dX2_sandAll_18 (by decide) ?_
          refine lv_bipush (v := (9 : Int32)) hx hb dX2_sandAll_19 (by decide) ?_
          obtain ⟨z1, hq, h⟩ := p_bd h
          refine w_Vv C hw (As := [.int b2, .int (2 : Int32), .int (9 : Int32)]) (rest := []) (c2_setTrait l G t ht x m b2 (2 : Int32) (9 : Int32) z1 hq) kv_X2_setTrait ml_X2_25 ⟨rfl, rfl⟩ ⟨Nat.le_of_ble_eq_true rfl, Nat.le_of_ble_eq_true rfl⟩ ⟨Nat.zero_le _, Nat.zero_le _⟩ (w_recv C hw (wk_town G x m ht) rfl) rfl rfl (Nat.le_of_ble_eq_true rfl) (lv_sub hl [] rfl) dX2_sandAll_21 (fun H locs hw => ?_)
          exact B24 b1 b2 z1 _ _ _ (lv_sub hl [0, 1, 2] rfl) hw h
  unfold f2_sandAll at h
  refine lv_iconst (v := (0 : Int32)) hx hb dX2_sandAll_0 (by decide) ?_
  refine lv_istore_n (lv' := [(2, .int (0 : Int32)), (0, .ref (gq G (1 + 4 * t))), (1, .int a1)]) hx hb dX2_sandAll_1 rfl hl (by decide) rfl (fun ls hl => ?_)
  exact L2 fu a1 (0 : Int32) x _ _ _ (lv_sub hl [1, 2, 0] rfl) hw h

def f2_speedOf_b164 (t : Nat)  (b7 : Int32) (x : St) : Option (Int32) :=
  if (x (1 + 4 * t) 5) = (1 : Int32) then
    some ((2 : Int32) * b7)
  else
    some b7
def f2_speedOf_b144 (t : Nat)  (w0 : Int32) (x : St) : Option (Int32) :=
  f2_speedOf_b164 t w0 x
def f2_speedOf (t : Nat) (a1 : Int32) (x : St) : Option (Int32) :=
  (f2_quality t a1 (1 : Int32) x).bind fun v1 =>
  (f2_trait t v1 (2 : Int32) x).bind fun v2 =>
  (f2_steepAt t v1 x).bind fun v3 =>
  (f2_quality t a1 (2 : Int32) x).bind fun v4 =>
  (f2_quality t a1 (0 : Int32) x).bind fun v5 =>
  if v5 = (1 : Int32) then
    f2_speedOf_b164 t (((if (v3 / (10 : Int32)) < (3 : Int32) then (v3 / (10 : Int32)) else (3 : Int32)) + (1 : Int32)) + (1 : Int32)) x
  else
  if v5 = (2 : Int32) then
    f2_speedOf_b164 t (if (0 : Int32) < (((if (v3 / (10 : Int32)) < (3 : Int32) then (v3 / (10 : Int32)) else (3 : Int32)) + (1 : Int32)) - v2) then (((if (v3 / (10 : Int32)) < (3 : Int32) then (v3 / (10 : Int32)) else (3 : Int32)) + (1 : Int32)) - v2) else (0 : Int32)) x
  else
  if v5 = (3 : Int32) then
    f2_speedOf_b164 t ((if (0 : Int32) < (((if (v3 / (10 : Int32)) < (3 : Int32) then (v3 / (10 : Int32)) else (3 : Int32)) + (1 : Int32)) - v2) then (((if (v3 / (10 : Int32)) < (3 : Int32) then (v3 / (10 : Int32)) else (3 : Int32)) + (1 : Int32)) - v2) else (0 : Int32)) + (v4 / (100 : Int32))) x
  else
  if v5 = (4 : Int32) then
    f2_speedOf_b164 t (((if (0 : Int32) < (((if (v3 / (10 : Int32)) < (3 : Int32) then (v3 / (10 : Int32)) else (3 : Int32)) + (1 : Int32)) - v2) then (((if (v3 / (10 : Int32)) < (3 : Int32) then (v3 / (10 : Int32)) else (3 : Int32)) + (1 : Int32)) - v2) else (0 : Int32)) + (v4 / (100 : Int32))) + (2 : Int32)) x
  else
  if v5 = (5 : Int32) then
    if v2 ≤ 0 then
      f2_speedOf_b144 t ((if (v3 / (10 : Int32)) < (3 : Int32) then (v3 / (10 : Int32)) else (3 : Int32)) + (1 : Int32)) x
    else
      f2_speedOf_b144 t (0 : Int32) x
  else
  if v5 = (6 : Int32) then
    f2_speedOf_b164 t ((2 : Int32) * (((if (v3 / (10 : Int32)) < (3 : Int32) then (v3 / (10 : Int32)) else (3 : Int32)) + (1 : Int32)) + (1 : Int32))) x
  else
    f2_speedOf_b164 t ((if (v3 / (10 : Int32)) < (3 : Int32) then (v3 / (10 : Int32)) else (3 : Int32)) + (1 : Int32)) x
set_option maxHeartbeats 4000000 in
set_option maxRecDepth 100000 in
theorem c2_speedOf (l : Launch) (G : GT) (t : Nat) (ht : t < 3) (x m : St) (a1 : Int32) (r : Int32) (h : f2_speedOf t a1 x = some r) : Mt l yX2_speedOf cX2_speedOf 8 (some .int) (rmF 2 44) G x m [.ref (gq G (1 + 4 * t)), .int a1] (some (.int r)) x m := by
  refine Mt.of (by decide) (Nat.le_of_ble_eq_true rfl) ?_
  intro p e s mm args below meth c C ls hl hw
  have hx := C.1
  have hb := C.2.1
  have hown := C.2.2.2.2.1
  replace hl : lv_has ls 8 [(0, .ref (gq G (1 + 4 * t))), (1, .int a1)] := hl
  have B164 : ∀ (b7 : Int32) (H : Heap) (locs : List Loc) (ls : Array Slot), lv_has ls 8 [(0, .ref (gq G (1 + 4 * t))), (7, .int b7)] → Wd G s x m H locs → f2_speedOf_b164 t b7 x = some r → W p l e (rmF 2 44) s mm args below meth c H locs 0 0 (QE below G (some (.int r)) x m args s) (F0 mm 164 ls []) := by
    intro b7  H locs ls hl hw h
    unfold f2_speedOf_b164 at h
    refine lv_aload_n hx hb dX2_speedOf_164 rfl (lv_at hl 0 rfl) ?_
    refine w_get C hw (v := .int (x (1 + 4 * t) 5)) (k := 5) (wk_town G x m ht) rfl it_2 (by decide) fl_X2_45 rfl dX2_speedOf_165 ?_
    refine lv_iconst (v := (1 : Int32)) hx hb dX2_speedOf_168 (by decide) ?_
    refine lv_icmp_ne (tgt := 179) hx hb dX2_speedOf_169 (by decide) (fun hc => ?_) (fun hc => ?_)
    · replace h := p_f hc h
      refine lv_iload hx hb dX2_speedOf_179 (lv_at hl 1 rfl) ?_
      replace h := Option.some.inj h
      subst h
      exact w_iret C hw (v := b7) rfl rfl dX2_speedOf_181
    · replace h := p_t hc h
      refine lv_iconst (v := (2 : Int32)) hx hb dX2_speedOf_172 (by decide) ?_
      refine lv_iload hx hb dX2_speedOf_173 (lv_at hl 1 rfl) ?_
      refine lv_imul hx hb dX2_speedOf_175 ?_
      refine lv_goto (tgt := 181) hx hb dX2_speedOf_176 (by decide) ?_
      replace h := Option.some.inj h
      subst h
      exact w_iret C hw (v := ((2 : Int32) * b7)) rfl rfl dX2_speedOf_181
  have B144 : ∀ (w0 : Int32) (H : Heap) (locs : List Loc) (ls : Array Slot), lv_has ls 8 [(0, .ref (gq G (1 + 4 * t)))] → Wd G s x m H locs → f2_speedOf_b144 t w0 x = some r → W p l e (rmF 2 44) s mm args below meth c H locs 0 0 (QE below G (some (.int r)) x m args s) (F0 mm 144 ls [.int w0]) := by
    intro w0  H locs ls hl hw h
    unfold f2_speedOf_b144 at h
    refine lv_istore (lv' := [(7, .int w0), (0, .ref (gq G (1 + 4 * t)))]) hx hb dX2_speedOf_144 hl (by decide) rfl (fun ls hl => ?_)
    refine lv_goto (tgt := 164) hx hb dX2_speedOf_146 (by decide) ?_
    exact B164 w0 _ _ _ (lv_sub hl [1, 0] rfl) hw h
  unfold f2_speedOf at h
  refine lv_aload_n hx hb dX2_speedOf_0 rfl (lv_at hl 0 rfl) ?_
  refine lv_iload_n hx hb dX2_speedOf_1 rfl (lv_at hl 1 rfl) ?_
  refine lv_iconst (v := (1 : Int32)) hx hb dX2_speedOf_2 (by decide) ?_
  obtain ⟨v1, hq, h⟩ := p_bd h
  refine w_Vi C hw (As := [.int a1, .int (1 : Int32)]) (rest := []) (c2_quality l G t ht x m a1 (1 : Int32) v1 hq) kv_X2_quality ml_X2_72 ⟨rfl, rfl⟩ ⟨Nat.le_of_ble_eq_true rfl, Nat.le_of_ble_eq_true rfl⟩ ⟨Nat.zero_le _, Nat.zero_le _⟩ (w_recv C hw (wk_town G x m ht) rfl) rfl rfl (Nat.le_of_ble_eq_true rfl) (lv_sub hl [] rfl) dX2_speedOf_3 (fun H locs hw => ?_)
  refine lv_istore_n (lv' := [(2, .int v1), (0, .ref (gq G (1 + 4 * t))), (1, .int a1)]) hx hb dX2_speedOf_6 rfl hl (by decide) rfl (fun ls hl => ?_)
  refine lv_aload_n hx hb dX2_speedOf_7 rfl (lv_at hl 1 rfl) ?_
  refine lv_iload_n hx hb dX2_speedOf_8 rfl (lv_at hl 0 rfl) ?_
  refine lv_iconst (v := (2 : Int32)) hx hb dX2_speedOf_9 (by decide) ?_
  obtain ⟨v2, hq, h⟩ := p_bd h
  refine w_Vi C hw (As := [.int v1, .int (2 : Int32)]) (rest := []) (c2_trait l G t ht x m v1 (2 : Int32) v2 hq) kv_X2_trait ml_X2_62 ⟨rfl, rfl⟩ ⟨Nat.le_of_ble_eq_true rfl, Nat.le_of_ble_eq_true rfl⟩ ⟨Nat.zero_le _, Nat.zero_le _⟩ (w_recv C hw (wk_town G x m ht) rfl) rfl rfl (Nat.le_of_ble_eq_true rfl) (lv_sub hl [] rfl) dX2_speedOf_10 (fun H locs hw => ?_)
  refine lv_istore_n (lv' := [(3, .int v2), (2, .int v1), (0, .ref (gq G (1 + 4 * t))), (1, .int a1)]) hx hb dX2_speedOf_13 rfl hl (by decide) rfl (fun ls hl => ?_)
  refine lv_iconst (v := (3 : Int32)) hx hb dX2_speedOf_14 (by decide) ?_
  refine lv_aload_n hx hb dX2_speedOf_15 rfl (lv_at hl 2 rfl) ?_
  refine lv_iload_n hx hb dX2_speedOf_16 rfl (lv_at hl 1 rfl) ?_
  obtain ⟨v3, hq, h⟩ := p_bd h
  refine w_Vi C hw (As := [.int v1]) (rest := [.int (3 : Int32)]) (c2_steepAt l G t ht x m v1 v3 hq) kv_X2_steepAt ml_X2_68 ⟨rfl, rfl⟩ ⟨Nat.le_of_ble_eq_true rfl, Nat.le_of_ble_eq_true rfl⟩ ⟨Nat.zero_le _, Nat.zero_le _⟩ (w_recv C hw (wk_town G x m ht) rfl) rfl rfl (Nat.le_of_ble_eq_true rfl) (lv_sub hl [] rfl) dX2_speedOf_17 (fun H locs hw => ?_)
  refine lv_bipush (v := (10 : Int32)) hx hb dX2_speedOf_20 (by decide) ?_
  refine lv_idiv hx hb dX2_speedOf_22 (by decide) ?_
  refine w_min C (lv_sub hl [] rfl) ml_X2_29 k_min ⟨Nat.le_of_ble_eq_true rfl, Nat.le_of_ble_eq_true rfl⟩ ⟨Nat.zero_le _, Nat.zero_le _⟩ (Nat.le_of_ble_eq_true rfl) dX2_speedOf_23 ?_
  refine lv_iconst (v := (1 : Int32)) hx hb dX2_speedOf_26 (by decide) ?_
  refine lv_iadd hx hb dX2_speedOf_27 ?_
  refine lv_istore (lv' := [(4, .int ((if (v3 / (10 : Int32)) < (3 : Int32) then (v3 / (10 : Int32)) else (3 : Int32)) + (1 : Int32))), (3, .int v2), (2, .int v1), (0, .ref (gq G (1 + 4 * t))), (1, .int a1)]) hx hb dX2_speedOf_28 hl (by decide) rfl (fun ls hl => ?_)
  refine lv_iconst (v := (0 : Int32)) hx hb dX2_speedOf_30 (by decide) ?_
  refine lv_iload hx hb dX2_speedOf_31 (lv_at hl 0 rfl) ?_
  refine lv_iload_n hx hb dX2_speedOf_33 rfl (lv_at hl 1 rfl) ?_
  refine lv_isub hx hb dX2_speedOf_34 ?_
  refine w_max C (lv_sub hl [] rfl) ml_X2_65 k_max ⟨Nat.le_of_ble_eq_true rfl, Nat.le_of_ble_eq_true rfl⟩ ⟨Nat.zero_le _, Nat.zero_le _⟩ (Nat.le_of_ble_eq_true rfl) dX2_speedOf_35 ?_
  refine lv_istore (lv' := [(5, .int (if (0 : Int32) < (((if (v3 / (10 : Int32)) < (3 : Int32) then (v3 / (10 : Int32)) else (3 : Int32)) + (1 : Int32)) - v2) then (((if (v3 / (10 : Int32)) < (3 : Int32) then (v3 / (10 : Int32)) else (3 : Int32)) + (1 : Int32)) - v2) else (0 : Int32))), (4, .int ((if (v3 / (10 : Int32)) < (3 : Int32) then (v3 / (10 : Int32)) else (3 : Int32)) + (1 : Int32))), (3, .int v2), (2, .int v1), (0, .ref (gq G (1 + 4 * t))), (1, .int a1)]) hx hb dX2_speedOf_38 hl (by decide) rfl (fun ls hl => ?_)
  refine lv_aload_n hx hb dX2_speedOf_40 rfl (lv_at hl 4 rfl) ?_
  refine lv_iload_n hx hb dX2_speedOf_41 rfl (lv_at hl 5 rfl) ?_
  refine lv_iconst (v := (2 : Int32)) hx hb dX2_speedOf_42 (by decide) ?_
  obtain ⟨v4, hq, h⟩ := p_bd h
  refine w_Vi C hw (As := [.int a1, .int (2 : Int32)]) (rest := []) (c2_quality l G t ht x m a1 (2 : Int32) v4 hq) kv_X2_quality ml_X2_72 ⟨rfl, rfl⟩ ⟨Nat.le_of_ble_eq_true rfl, Nat.le_of_ble_eq_true rfl⟩ ⟨Nat.zero_le _, Nat.zero_le _⟩ (w_recv C hw (wk_town G x m ht) rfl) rfl rfl (Nat.le_of_ble_eq_true rfl) (lv_sub hl [] rfl) dX2_speedOf_43 (fun H locs hw => ?_)
  refine lv_bipush (v := (100 : Int32)) hx hb dX2_speedOf_46 (by decide) ?_
  refine lv_idiv hx hb dX2_speedOf_48 (by decide) ?_
  refine lv_istore (lv' := [(6, .int (v4 / (100 : Int32))), (5, .int (if (0 : Int32) < (((if (v3 / (10 : Int32)) < (3 : Int32) then (v3 / (10 : Int32)) else (3 : Int32)) + (1 : Int32)) - v2) then (((if (v3 / (10 : Int32)) < (3 : Int32) then (v3 / (10 : Int32)) else (3 : Int32)) + (1 : Int32)) - v2) else (0 : Int32))), (4, .int ((if (v3 / (10 : Int32)) < (3 : Int32) then (v3 / (10 : Int32)) else (3 : Int32)) + (1 : Int32))), (3, .int v2), (2, .int v1), (0, .ref (gq G (1 + 4 * t))), (1, .int a1)]) hx hb dX2_speedOf_49 hl (by decide) rfl (fun ls hl => ?_)
  refine lv_aload_n hx hb dX2_speedOf_51 rfl (lv_at hl 5 rfl) ?_
  refine lv_iload_n hx hb dX2_speedOf_52 rfl (lv_at hl 6 rfl) ?_
  refine lv_iconst (v := (0 : Int32)) hx hb dX2_speedOf_53 (by decide) ?_
  obtain ⟨v5, hq, h⟩ := p_bd h
  refine w_Vi C hw (As := [.int a1, .int (0 : Int32)]) (rest := []) (c2_quality l G t ht x m a1 (0 : Int32) v5 hq) kv_X2_quality ml_X2_72 ⟨rfl, rfl⟩ ⟨Nat.le_of_ble_eq_true rfl, Nat.le_of_ble_eq_true rfl⟩ ⟨Nat.zero_le _, Nat.zero_le _⟩ (w_recv C hw (wk_town G x m ht) rfl) rfl rfl (Nat.le_of_ble_eq_true rfl) (lv_sub hl [] rfl) dX2_speedOf_54 (fun H locs hw => ?_)
  by_cases hc0 : v5 = (1 : Int32)
  · replace h := p_t hc0 h
    refine lv_tableIn (tgt := 96) hx hb dX2_speedOf_57 (by rw [hc0]; decide) (by rw [hc0]; decide) (by rw [hc0]; rfl) (by decide) ?_
    refine lv_iload hx hb dX2_speedOf_96 (lv_at hl 2 rfl) ?_
    refine lv_iconst (v := (1 : Int32)) hx hb dX2_speedOf_98 (by decide) ?_
    refine lv_iadd hx hb dX2_speedOf_99 ?_
    refine lv_istore (lv' := [(7, .int (((if (v3 / (10 : Int32)) < (3 : Int32) then (v3 / (10 : Int32)) else (3 : Int32)) + (1 : Int32)) + (1 : Int32))), (6, .int (v4 / (100 : Int32))), (5, .int (if (0 : Int32) < (((if (v3 / (10 : Int32)) < (3 : Int32) then (v3 / (10 : Int32)) else (3 : Int32)) + (1 : Int32)) - v2) then (((if (v3 / (10 : Int32)) < (3 : Int32) then (v3 / (10 : Int32)) else (3 : Int32)) + (1 : Int32)) - v2) else (0 : Int32))), (4, .int ((if (v3 / (10 : Int32)) < (3 : Int32) then (v3 / (10 : Int32)) else (3 : Int32)) + (1 : Int32))), (3, .int v2), (2, .int v1), (0, .ref (gq G (1 + 4 * t))), (1, .int a1)]) hx hb dX2_speedOf_100 hl (by decide) rfl (fun ls hl => ?_)
    refine lv_goto (tgt := 164) hx hb dX2_speedOf_102 (by decide) ?_
    exact B164 (((if (v3 / (10 : Int32)) < (3 : Int32) then (v3 / (10 : Int32)) else (3 : Int32)) + (1 : Int32)) + (1 : Int32)) _ _ _ (lv_sub hl [6, 0] rfl) hw h
  · replace h := p_f hc0 h
    by_cases hc1 : v5 = (2 : Int32)
    · replace h := p_t hc1 h
      refine lv_tableIn (tgt := 105) hx hb dX2_speedOf_57 (by rw [hc1]; decide) (by rw [hc1]; decide) (by rw [hc1]; rfl) (by decide) ?_
      refine lv_iload hx hb dX2_speedOf_105 (lv_at hl 1 rfl) ?_
      refine lv_istore (lv' := [(7, .int (if (0 : Int32) < (((if (v3 / (10 : Int32)) < (3 : Int32) then (v3 / (10 : Int32)) else (3 : Int32)) + (1 : Int32)) - v2) then (((if (v3 / (10 : Int32)) < (3 : Int32) then (v3 / (10 : Int32)) else (3 : Int32)) + (1 : Int32)) - v2) else (0 : Int32))), (6, .int (v4 / (100 : Int32))), (5, .int (if (0 : Int32) < (((if (v3 / (10 : Int32)) < (3 : Int32) then (v3 / (10 : Int32)) else (3 : Int32)) + (1 : Int32)) - v2) then (((if (v3 / (10 : Int32)) < (3 : Int32) then (v3 / (10 : Int32)) else (3 : Int32)) + (1 : Int32)) - v2) else (0 : Int32))), (4, .int ((if (v3 / (10 : Int32)) < (3 : Int32) then (v3 / (10 : Int32)) else (3 : Int32)) + (1 : Int32))), (3, .int v2), (2, .int v1), (0, .ref (gq G (1 + 4 * t))), (1, .int a1)]) hx hb dX2_speedOf_107 hl (by decide) rfl (fun ls hl => ?_)
      refine lv_goto (tgt := 164) hx hb dX2_speedOf_109 (by decide) ?_
      exact B164 (if (0 : Int32) < (((if (v3 / (10 : Int32)) < (3 : Int32) then (v3 / (10 : Int32)) else (3 : Int32)) + (1 : Int32)) - v2) then (((if (v3 / (10 : Int32)) < (3 : Int32) then (v3 / (10 : Int32)) else (3 : Int32)) + (1 : Int32)) - v2) else (0 : Int32)) _ _ _ (lv_sub hl [6, 0] rfl) hw h
    · replace h := p_f hc1 h
      by_cases hc2 : v5 = (3 : Int32)
      · replace h := p_t hc2 h
        refine lv_tableIn (tgt := 112) hx hb dX2_speedOf_57 (by rw [hc2]; decide) (by rw [hc2]; decide) (by rw [hc2]; rfl) (by decide) ?_
        refine lv_iload hx hb dX2_speedOf_112 (lv_at hl 1 rfl) ?_
        refine lv_iload hx hb dX2_speedOf_114 (lv_at hl 0 rfl) ?_
        refine lv_iadd hx hb dX2_speedOf_116 ?_
        refine lv_istore (lv' := [(7, .int ((if (0 : Int32) < (((if (v3 / (10 : Int32)) < (3 : Int32) then (v3 / (10 : Int32)) else (3 : Int32)) + (1 : Int32)) - v2) then (((if (v3 / (10 : Int32)) < (3 : Int32) then (v3 / (10 : Int32)) else (3 : Int32)) + (1 : Int32)) - v2) else (0 : Int32)) + (v4 / (100 : Int32)))), (6, .int (v4 / (100 : Int32))), (5, .int (if (0 : Int32) < (((if (v3 / (10 : Int32)) < (3 : Int32) then (v3 / (10 : Int32)) else (3 : Int32)) + (1 : Int32)) - v2) then (((if (v3 / (10 : Int32)) < (3 : Int32) then (v3 / (10 : Int32)) else (3 : Int32)) + (1 : Int32)) - v2) else (0 : Int32))), (4, .int ((if (v3 / (10 : Int32)) < (3 : Int32) then (v3 / (10 : Int32)) else (3 : Int32)) + (1 : Int32))), (3, .int v2), (2, .int v1), (0, .ref (gq G (1 + 4 * t))), (1, .int a1)]) hx hb dX2_speedOf_117 hl (by decide) rfl (fun ls hl => ?_)
        refine lv_goto (tgt := 164) hx hb dX2_speedOf_119 (by decide) ?_
        exact B164 ((if (0 : Int32) < (((if (v3 / (10 : Int32)) < (3 : Int32) then (v3 / (10 : Int32)) else (3 : Int32)) + (1 : Int32)) - v2) then (((if (v3 / (10 : Int32)) < (3 : Int32) then (v3 / (10 : Int32)) else (3 : Int32)) + (1 : Int32)) - v2) else (0 : Int32)) + (v4 / (100 : Int32))) _ _ _ (lv_sub hl [6, 0] rfl) hw h
      · replace h := p_f hc2 h
        by_cases hc3 : v5 = (4 : Int32)
        · replace h := p_t hc3 h
          refine lv_tableIn (tgt := 122) hx hb dX2_speedOf_57 (by rw [hc3]; decide) (by rw [hc3]; decide) (by rw [hc3]; rfl) (by decide) ?_
          refine lv_iload hx hb dX2_speedOf_122 (lv_at hl 1 rfl) ?_
          refine lv_iload hx hb dX2_speedOf_124 (lv_at hl 0 rfl) ?_
          refine lv_iadd hx hb dX2_speedOf_126 ?_
          refine lv_iconst (v := (2 : Int32)) hx hb dX2_speedOf_127 (by decide) ?_
          refine lv_iadd hx hb dX2_speedOf_128 ?_
          refine lv_istore (lv' := [(7, .int (((if (0 : Int32) < (((if (v3 / (10 : Int32)) < (3 : Int32) then (v3 / (10 : Int32)) else (3 : Int32)) + (1 : Int32)) - v2) then (((if (v3 / (10 : Int32)) < (3 : Int32) then (v3 / (10 : Int32)) else (3 : Int32)) + (1 : Int32)) - v2) else (0 : Int32)) + (v4 / (100 : Int32))) + (2 : Int32))), (6, .int (v4 / (100 : Int32))), (5, .int (if (0 : Int32) < (((if (v3 / (10 : Int32)) < (3 : Int32) then (v3 / (10 : Int32)) else (3 : Int32)) + (1 : Int32)) - v2) then (((if (v3 / (10 : Int32)) < (3 : Int32) then (v3 / (10 : Int32)) else (3 : Int32)) + (1 : Int32)) - v2) else (0 : Int32))), (4, .int ((if (v3 / (10 : Int32)) < (3 : Int32) then (v3 / (10 : Int32)) else (3 : Int32)) + (1 : Int32))), (3, .int v2), (2, .int v1), (0, .ref (gq G (1 + 4 * t))), (1, .int a1)]) hx hb dX2_speedOf_129 hl (by decide) rfl (fun ls hl => ?_)
          refine lv_goto (tgt := 164) hx hb dX2_speedOf_131 (by decide) ?_
          exact B164 (((if (0 : Int32) < (((if (v3 / (10 : Int32)) < (3 : Int32) then (v3 / (10 : Int32)) else (3 : Int32)) + (1 : Int32)) - v2) then (((if (v3 / (10 : Int32)) < (3 : Int32) then (v3 / (10 : Int32)) else (3 : Int32)) + (1 : Int32)) - v2) else (0 : Int32)) + (v4 / (100 : Int32))) + (2 : Int32)) _ _ _ (lv_sub hl [6, 0] rfl) hw h
        · replace h := p_f hc3 h
          by_cases hc4 : v5 = (5 : Int32)
          · replace h := p_t hc4 h
            refine lv_tableIn (tgt := 134) hx hb dX2_speedOf_57 (by rw [hc4]; decide) (by rw [hc4]; decide) (by rw [hc4]; rfl) (by decide) ?_
            refine lv_iload_n hx hb dX2_speedOf_134 rfl (lv_at hl 3 rfl) ?_
            refine lv_if_le (tgt := 142) hx hb dX2_speedOf_135 (by decide) (fun hc => ?_) (fun hc => ?_)
            · replace h := p_t hc h
              refine lv_iload hx hb dX2_speedOf_142 (lv_at hl 2 rfl) ?_
              exact B144 ((if (v3 / (10 : Int32)) < (3 : Int32) then (v3 / (10 : Int32)) else (3 : Int32)) + (1 : Int32)) _ _ _ (lv_sub hl [5] rfl) hw h
            · replace h := p_f hc h
              refine lv_iconst (v := (0 : Int32)) hx hb dX2_speedOf_138 (by decide) ?_
              refine lv_goto (tgt := 144) hx hb dX2_speedOf_139 (by decide) ?_
              exact B144 (0 : Int32) _ _ _ (lv_sub hl [5] rfl) hw h
          · replace h := p_f hc4 h
            by_cases hc5 : v5 = (6 : Int32)
            · replace h := p_t hc5 h
              refine lv_tableIn (tgt := 149) hx hb dX2_speedOf_57 (by rw [hc5]; decide) (by rw [hc5]; decide) (by rw [hc5]; rfl) (by decide) ?_
              refine lv_iconst (v := (2 : Int32)) hx hb dX2_speedOf_149 (by decide) ?_
              refine lv_iload hx hb dX2_speedOf_150 (lv_at hl 2 rfl) ?_
              refine lv_iconst (v := (1 : Int32)) hx hb dX2_speedOf_152 (by decide) ?_
              refine lv_iadd hx hb dX2_speedOf_153 ?_
              refine lv_imul hx hb dX2_speedOf_154 ?_
              refine lv_istore (lv' := [(7, .int ((2 : Int32) * (((if (v3 / (10 : Int32)) < (3 : Int32) then (v3 / (10 : Int32)) else (3 : Int32)) + (1 : Int32)) + (1 : Int32)))), (6, .int (v4 / (100 : Int32))), (5, .int (if (0 : Int32) < (((if (v3 / (10 : Int32)) < (3 : Int32) then (v3 / (10 : Int32)) else (3 : Int32)) + (1 : Int32)) - v2) then (((if (v3 / (10 : Int32)) < (3 : Int32) then (v3 / (10 : Int32)) else (3 : Int32)) + (1 : Int32)) - v2) else (0 : Int32))), (4, .int ((if (v3 / (10 : Int32)) < (3 : Int32) then (v3 / (10 : Int32)) else (3 : Int32)) + (1 : Int32))), (3, .int v2), (2, .int v1), (0, .ref (gq G (1 + 4 * t))), (1, .int a1)]) hx hb dX2_speedOf_155 hl (by decide) rfl (fun ls hl => ?_)
              refine lv_goto (tgt := 164) hx hb dX2_speedOf_157 (by decide) ?_
              exact B164 ((2 : Int32) * (((if (v3 / (10 : Int32)) < (3 : Int32) then (v3 / (10 : Int32)) else (3 : Int32)) + (1 : Int32)) + (1 : Int32))) _ _ _ (lv_sub hl [6, 0] rfl) hw h
            · replace h := p_f hc5 h
              refine lv_tableOut (tgt := 160) hx hb dX2_speedOf_57 (by have q0 : ¬ v5.toInt = 1 := lv_neT hc0 rfl; have q1 : ¬ v5.toInt = 2 := lv_neT hc1 rfl; have q2 : ¬ v5.toInt = 3 := lv_neT hc2 rfl; have q3 : ¬ v5.toInt = 4 := lv_neT hc3 rfl; have q4 : ¬ v5.toInt = 5 := lv_neT hc4 rfl; have q5 : ¬ v5.toInt = 6 := lv_neT hc5 rfl; omega) (by decide) ?_
              refine lv_iload hx hb dX2_speedOf_160 (lv_at hl 2 rfl) ?_
              refine lv_istore (lv' := [(7, .int ((if (v3 / (10 : Int32)) < (3 : Int32) then (v3 / (10 : Int32)) else (3 : Int32)) + (1 : Int32))), (6, .int (v4 / (100 : Int32))), (5, .int (if (0 : Int32) < (((if (v3 / (10 : Int32)) < (3 : Int32) then (v3 / (10 : Int32)) else (3 : Int32)) + (1 : Int32)) - v2) then (((if (v3 / (10 : Int32)) < (3 : Int32) then (v3 / (10 : Int32)) else (3 : Int32)) + (1 : Int32)) - v2) else (0 : Int32))), (4, .int ((if (v3 / (10 : Int32)) < (3 : Int32) then (v3 / (10 : Int32)) else (3 : Int32)) + (1 : Int32))), (3, .int v2), (2, .int v1), (0, .ref (gq G (1 + 4 * t))), (1, .int a1)]) hx hb dX2_speedOf_162 hl (by decide) rfl (fun ls hl => ?_)
              exact B164 ((if (v3 / (10 : Int32)) < (3 : Int32) then (v3 / (10 : Int32)) else (3 : Int32)) + (1 : Int32)) _ _ _ (lv_sub hl [6, 0] rfl) hw h

def f2_gathersOf (t : Nat) (a1 : Int32) (x : St) : Option (Int32) :=
  (f2_quality t a1 (0 : Int32) x).bind fun v1 =>
  if v1 = (0 : Int32) then
    some (1 : Int32)
  else
  if v1 = (1 : Int32) then
    some (0 : Int32)
  else
  if v1 = (2 : Int32) then
    some (2 : Int32)
  else
  if v1 = (3 : Int32) then
    some (4 : Int32)
  else
  if v1 = (4 : Int32) then
    (f2_quality t a1 (1 : Int32) x).bind fun v2 =>
    (f2_steepAt t v2 x).bind fun v3 =>
    some ((4 : Int32) + (v3 / (5 : Int32)))
  else
    some (0 : Int32)
set_option maxHeartbeats 4000000 in
set_option maxRecDepth 100000 in
theorem c2_gathersOf (l : Launch) (G : GT) (t : Nat) (ht : t < 3) (x m : St) (a1 : Int32) (r : Int32) (h : f2_gathersOf t a1 x = some r) : Mt l yX2_gathersOf cX2_gathersOf 2 (some .int) (rmF 2 44) G x m [.ref (gq G (1 + 4 * t)), .int a1] (some (.int r)) x m := by
  refine Mt.of (by decide) (Nat.le_of_ble_eq_true rfl) ?_
  intro p e s mm args below meth c C ls hl hw
  have hx := C.1
  have hb := C.2.1
  have hown := C.2.2.2.2.1
  replace hl : lv_has ls 2 [(0, .ref (gq G (1 + 4 * t))), (1, .int a1)] := hl
  unfold f2_gathersOf at h
  refine lv_aload_n hx hb dX2_gathersOf_0 rfl (lv_at hl 0 rfl) ?_
  refine lv_iload_n hx hb dX2_gathersOf_1 rfl (lv_at hl 1 rfl) ?_
  refine lv_iconst (v := (0 : Int32)) hx hb dX2_gathersOf_2 (by decide) ?_
  obtain ⟨v1, hq, h⟩ := p_bd h
  refine w_Vi C hw (As := [.int a1, .int (0 : Int32)]) (rest := []) (c2_quality l G t ht x m a1 (0 : Int32) v1 hq) kv_X2_quality ml_X2_72 ⟨rfl, rfl⟩ ⟨Nat.le_of_ble_eq_true rfl, Nat.le_of_ble_eq_true rfl⟩ ⟨Nat.zero_le _, Nat.zero_le _⟩ (w_recv C hw (wk_town G x m ht) rfl) rfl rfl (Nat.le_of_ble_eq_true rfl) (lv_sub hl [] rfl) dX2_gathersOf_3 (fun H locs hw => ?_)
  by_cases hc0 : v1 = (0 : Int32)
  · replace h := p_t hc0 h
    refine lv_tableIn (tgt := 40) hx hb dX2_gathersOf_6 (by rw [hc0]; decide) (by rw [hc0]; decide) (by rw [hc0]; rfl) (by decide) ?_
    refine lv_iconst (v := (1 : Int32)) hx hb dX2_gathersOf_40 (by decide) ?_
    replace h := Option.some.inj h
    subst h
    exact w_iret C hw (v := (1 : Int32)) rfl rfl dX2_gathersOf_41
  · replace h := p_f hc0 h
    by_cases hc1 : v1 = (1 : Int32)
    · replace h := p_t hc1 h
      refine lv_tableIn (tgt := 61) hx hb dX2_gathersOf_6 (by rw [hc1]; decide) (by rw [hc1]; decide) (by rw [hc1]; rfl) (by decide) ?_
      refine lv_iconst (v := (0 : Int32)) hx hb dX2_gathersOf_61 (by decide) ?_
      replace h := Option.some.inj h
      subst h
      exact w_iret C hw (v := (0 : Int32)) rfl rfl dX2_gathersOf_62
    · replace h := p_f hc1 h
      by_cases hc2 : v1 = (2 : Int32)
      · replace h := p_t hc2 h
        refine lv_tableIn (tgt := 42) hx hb dX2_gathersOf_6 (by rw [hc2]; decide) (by rw [hc2]; decide) (by rw [hc2]; rfl) (by decide) ?_
        refine lv_iconst (v := (2 : Int32)) hx hb dX2_gathersOf_42 (by decide) ?_
        replace h := Option.some.inj h
        subst h
        exact w_iret C hw (v := (2 : Int32)) rfl rfl dX2_gathersOf_43
      · replace h := p_f hc2 h
        by_cases hc3 : v1 = (3 : Int32)
        · replace h := p_t hc3 h
          refine lv_tableIn (tgt := 44) hx hb dX2_gathersOf_6 (by rw [hc3]; decide) (by rw [hc3]; decide) (by rw [hc3]; rfl) (by decide) ?_
          refine lv_iconst (v := (4 : Int32)) hx hb dX2_gathersOf_44 (by decide) ?_
          replace h := Option.some.inj h
          subst h
          exact w_iret C hw (v := (4 : Int32)) rfl rfl dX2_gathersOf_45
        · replace h := p_f hc3 h
          by_cases hc4 : v1 = (4 : Int32)
          · replace h := p_t hc4 h
            refine lv_tableIn (tgt := 46) hx hb dX2_gathersOf_6 (by rw [hc4]; decide) (by rw [hc4]; decide) (by rw [hc4]; rfl) (by decide) ?_
            refine lv_iconst (v := (4 : Int32)) hx hb dX2_gathersOf_46 (by decide) ?_
            refine lv_aload_n hx hb dX2_gathersOf_47 rfl (lv_at hl 0 rfl) ?_
            refine lv_aload_n hx hb dX2_gathersOf_48 rfl (lv_at hl 0 rfl) ?_
            refine lv_iload_n hx hb dX2_gathersOf_49 rfl (lv_at hl 1 rfl) ?_
            refine lv_iconst (v := (1 : Int32)) hx hb dX2_gathersOf_50 (by decide) ?_
            obtain ⟨v2, hq, h⟩ := p_bd h
            refine w_Vi C hw (As := [.int a1, .int (1 : Int32)]) (rest := [.ref (gq G (1 + 4 * t)), .int (4 : Int32)]) (c2_quality l G t ht x m a1 (1 : Int32) v2 hq) kv_X2_quality ml_X2_72 ⟨rfl, rfl⟩ ⟨Nat.le_of_ble_eq_true rfl, Nat.le_of_ble_eq_true rfl⟩ ⟨Nat.zero_le _, Nat.zero_le _⟩ (w_recv C hw (wk_town G x m ht) rfl) rfl rfl (Nat.le_of_ble_eq_true rfl) (lv_sub hl [] rfl) dX2_gathersOf_51 (fun H locs hw => ?_)
            obtain ⟨v3, hq, h⟩ := p_bd h
            refine w_Vi C hw (As := [.int v2]) (rest := [.int (4 : Int32)]) (c2_steepAt l G t ht x m v2 v3 hq) kv_X2_steepAt ml_X2_68 ⟨rfl, rfl⟩ ⟨Nat.le_of_ble_eq_true rfl, Nat.le_of_ble_eq_true rfl⟩ ⟨Nat.zero_le _, Nat.zero_le _⟩ (w_recv C hw (wk_town G x m ht) rfl) rfl rfl (Nat.le_of_ble_eq_true rfl) (lv_sub hl [] rfl) dX2_gathersOf_54 (fun H locs hw => ?_)
            refine lv_iconst (v := (5 : Int32)) hx hb dX2_gathersOf_57 (by decide) ?_
            refine lv_idiv hx hb dX2_gathersOf_58 (by decide) ?_
            refine lv_iadd hx hb dX2_gathersOf_59 ?_
            replace h := Option.some.inj h
            subst h
            exact w_iret C hw (v := ((4 : Int32) + (v3 / (5 : Int32)))) rfl rfl dX2_gathersOf_60
          · replace h := p_f hc4 h
            refine lv_tableOut (tgt := 61) hx hb dX2_gathersOf_6 (by have q0 : ¬ v1.toInt = 0 := lv_neT hc0 rfl; have q1 : ¬ v1.toInt = 1 := lv_neT hc1 rfl; have q2 : ¬ v1.toInt = 2 := lv_neT hc2 rfl; have q3 : ¬ v1.toInt = 3 := lv_neT hc3 rfl; have q4 : ¬ v1.toInt = 4 := lv_neT hc4 rfl; omega) (by decide) ?_
            refine lv_iconst (v := (0 : Int32)) hx hb dX2_gathersOf_61 (by decide) ?_
            replace h := Option.some.inj h
            subst h
            exact w_iret C hw (v := (0 : Int32)) rfl rfl dX2_gathersOf_62

def f2_roll_L11 (t : Nat)  : Nat → Int32 → Int32 → Int32 → Int32 → St → Option (Int32 × St)
  | 0, _, _, _, _, _ => none
  | n + 1, b1, b2, b3, b4, x =>
    if b2 ≤ b4 then
      some (b3, x)
    else
      (f2_quality t b1 (1 : Int32) x).bind fun v2 =>
      (f2_steepAt t v2 x).bind fun v3 =>
      if v3 = 0 then
        some (b3, x)
      else
        (f2_quality t b1 (2 : Int32) x).bind fun v4 =>
        (f2_gathersOf t b1 x).bind fun v5 =>
        (f2_setQuality t b1 (2 : Int32) (if (999 : Int32) < (v4 + v5) then (999 : Int32) else (v4 + v5)) x).bind fun z6 =>
        (f2_trait t v2 (1 : Int32) z6).bind fun v7 =>
        (f2_setQuality t b1 (1 : Int32) v7 z6).bind fun z8 =>
        if (f3_isIn (z8 (1 + 4 * t) 4) v7) = 0 then
          (f2_roll_L11 t n) b1 b2 (b3 ||| ((1 : Int32) <<< (v7 &&& 31))) (b4 + (1 : Int32)) z8
        else
          some ((b3 ||| ((1 : Int32) <<< (v7 &&& 31))), z8)
theorem f2_roll_L11_0 (t : Nat)  (b1 : Int32) (b2 : Int32) (b3 : Int32) (b4 : Int32) (x : St) : f2_roll_L11 t 0 b1 b2 b3 b4 x = none := rfl
theorem f2_roll_L11_s (t : Nat)  (n : Nat) (b1 : Int32) (b2 : Int32) (b3 : Int32) (b4 : Int32) (x : St) : f2_roll_L11 t (n + 1) b1 b2 b3 b4 x =
    if b2 ≤ b4 then
      some (b3, x)
    else
      (f2_quality t b1 (1 : Int32) x).bind fun v2 =>
      (f2_steepAt t v2 x).bind fun v3 =>
      if v3 = 0 then
        some (b3, x)
      else
        (f2_quality t b1 (2 : Int32) x).bind fun v4 =>
        (f2_gathersOf t b1 x).bind fun v5 =>
        (f2_setQuality t b1 (2 : Int32) (if (999 : Int32) < (v4 + v5) then (999 : Int32) else (v4 + v5)) x).bind fun z6 =>
        (f2_trait t v2 (1 : Int32) z6).bind fun v7 =>
        (f2_setQuality t b1 (1 : Int32) v7 z6).bind fun z8 =>
        if (f3_isIn (z8 (1 + 4 * t) 4) v7) = 0 then
          (f2_roll_L11 t n) b1 b2 (b3 ||| ((1 : Int32) <<< (v7 &&& 31))) (b4 + (1 : Int32)) z8
        else
          some ((b3 ||| ((1 : Int32) <<< (v7 &&& 31))), z8) := rfl
def f2_roll (t : Nat) (a1 : Int32) (x : St) : Option (Int32 × St) :=
  (f2_speedOf t a1 x).bind fun v1 =>
  f2_roll_L11 t fu a1 v1 (0 : Int32) (0 : Int32) x
set_option maxHeartbeats 4000000 in
set_option maxRecDepth 100000 in
theorem c2_roll (l : Launch) (G : GT) (t : Nat) (ht : t < 3) (x m : St) (a1 : Int32) (r : Int32 × St) (h : f2_roll t a1 x = some r) : Mt l yX2_roll cX2_roll 8 (some .int) (rmF 3 71) G x m [.ref (gq G (1 + 4 * t)), .int a1] (some (.int r.1)) r.2 m := by
  refine Mt.of (by decide) (Nat.le_of_ble_eq_true rfl) ?_
  intro p e s mm args below meth c C ls hl hw
  have hx := C.1
  have hb := C.2.1
  have hown := C.2.2.2.2.1
  replace hl : lv_has ls 8 [(0, .ref (gq G (1 + 4 * t))), (1, .int a1)] := hl
  have L11 : ∀ (n11 : Nat) (b1 : Int32) (b2 : Int32) (b3 : Int32) (b4 : Int32) (x : St) (H : Heap) (locs : List Loc) (ls : Array Slot), lv_has ls 8 [(0, .ref (gq G (1 + 4 * t))), (1, .int b1), (2, .int b2), (3, .int b3), (4, .int b4)] → Wd G s x m H locs → f2_roll_L11 t n11 b1 b2 b3 b4 x = some r → W p l e (rmF 3 71) s mm args below meth c H locs 0 0 (QE below G (some (.int r.1)) r.2 m args s) (F0 mm 11 ls []) := by
    intro n11
    induction n11 with
    | zero =>
      intro b1 b2 b3 b4 x H locs ls hl hw h
      rw [f2_roll_L11_0] at h
      exact absurd h.symm (Option.some_ne_none _)
    | succ n11 ih11 =>
      intro b1 b2 b3 b4 x H locs ls hl hw h
      rw [f2_roll_L11_s] at h
      refine lv_iload hx hb dX2_roll_11 (lv_at hl 4 rfl) ?_
      refine lv_iload_n hx hb dX2_roll_13 rfl (lv_at hl 2 rfl) ?_
      refine lv_icmp_ge (tgt := 110) hx hb dX2_roll_14 (by decide) (fun hc => ?_) (fun hc => ?_)
      · replace h := p_t hc h
        refine lv_iload_n hx hb dX2_roll_110 rfl (lv_at hl 3 rfl) ?_
        replace h := Option.some.inj h
        subst h
        exact w_iret C hw (v := b3) rfl rfl dX2_roll_111
      · replace h := p_f hc h
        refine lv_aload_n hx hb dX2_roll_17 rfl (lv_at hl 0 rfl) ?_
        refine lv_iload_n hx hb dX2_roll_18 rfl (lv_at hl 1 rfl) ?_
        refine lv_iconst (v := (1 : Int32)) hx hb dX2_roll_19 (by decide) ?_
        obtain ⟨v2, hq, h⟩ := p_bd h
        refine w_Vi C hw (As := [.int b1, .int (1 : Int32)]) (rest := []) (c2_quality l G t ht x m b1 (1 : Int32) v2 hq) kv_X2_quality ml_X2_72 ⟨rfl, rfl⟩ ⟨Nat.le_of_ble_eq_true rfl, Nat.le_of_ble_eq_true rfl⟩ ⟨Nat.zero_le _, Nat.zero_le _⟩ (w_recv C hw (wk_town G x m ht) rfl) rfl rfl (Nat.le_of_ble_eq_true rfl) (lv_sub hl [] rfl) dX2_roll_20 (fun H locs hw => ?_)
        refine lv_istore (lv' := [(5, .int v2), (0, .ref (gq G (1 + 4 * t))), (1, .int b1), (2, .int b2), (3, .int b3), (4, .int b4)]) hx hb dX2_roll_23 hl (by decide) rfl (fun ls hl => ?_)
        refine lv_aload_n hx hb dX2_roll_25 rfl (lv_at hl 1 rfl) ?_
        refine lv_iload hx hb dX2_roll_26 (lv_at hl 0 rfl) ?_
        obtain ⟨v3, hq, h⟩ := p_bd h
        refine w_Vi C hw (As := [.int v2]) (rest := []) (c2_steepAt l G t ht x m v2 v3 hq) kv_X2_steepAt ml_X2_68 ⟨rfl, rfl⟩ ⟨Nat.le_of_ble_eq_true rfl, Nat.le_of_ble_eq_true rfl⟩ ⟨Nat.zero_le _, Nat.zero_le _⟩ (w_recv C hw (wk_town G x m ht) rfl) rfl rfl (Nat.le_of_ble_eq_true rfl) (lv_sub hl [] rfl) dX2_roll_28 (fun H locs hw => ?_)
        refine lv_if_ne (tgt := 37) hx hb dX2_roll_31 (by decide) (fun hc => ?_) (fun hc => ?_)
        · replace h := p_f hc h
          refine lv_aload_n hx hb dX2_roll_37 rfl (lv_at hl 1 rfl) ?_
          refine lv_iload_n hx hb dX2_roll_38 rfl (lv_at hl 2 rfl) ?_
          refine lv_iconst (v := (2 : Int32)) hx hb dX2_roll_39 (by decide) ?_
          obtain ⟨v4, hq, h⟩ := p_bd h
          refine w_Vi C hw (As := [.int b1, .int (2 : Int32)]) (rest := []) (c2_quality l G t ht x m b1 (2 : Int32) v4 hq) kv_X2_quality ml_X2_72 ⟨rfl, rfl⟩ ⟨Nat.le_of_ble_eq_true rfl, Nat.le_of_ble_eq_true rfl⟩ ⟨Nat.zero_le _, Nat.zero_le _⟩ (w_recv C hw (wk_town G x m ht) rfl) rfl rfl (Nat.le_of_ble_eq_true rfl) (lv_sub hl [] rfl) dX2_roll_40 (fun H locs hw => ?_)
          refine lv_aload_n hx hb dX2_roll_43 rfl (lv_at hl 1 rfl) ?_
          refine lv_iload_n hx hb dX2_roll_44 rfl (lv_at hl 2 rfl) ?_
          obtain ⟨v5, hq, h⟩ := p_bd h
          refine w_Vi C hw (As := [.int b1]) (rest := [.int v4]) (c2_gathersOf l G t ht x m b1 v5 hq) kv_X2_gathersOf ml_X2_92 ⟨rfl, rfl⟩ ⟨Nat.le_of_ble_eq_true rfl, Nat.le_of_ble_eq_true rfl⟩ ⟨Nat.zero_le _, Nat.zero_le _⟩ (w_recv C hw (wk_town G x m ht) rfl) rfl rfl (Nat.le_of_ble_eq_true rfl) (lv_sub hl [] rfl) dX2_roll_45 (fun H locs hw => ?_)
          refine lv_iadd hx hb dX2_roll_48 ?_
          refine lv_istore (lv' := [(6, .int (v4 + v5)), (5, .int v2), (0, .ref (gq G (1 + 4 * t))), (1, .int b1), (2, .int b2), (3, .int b3), (4, .int b4)]) hx hb dX2_roll_49 hl (by decide) rfl (fun ls hl => ?_)
          refine lv_aload_n hx hb dX2_roll_51 rfl (lv_at hl 2 rfl) ?_
          refine lv_iload_n hx hb dX2_roll_52 rfl (lv_at hl 3 rfl) ?_
          refine lv_iconst (v := (2 : Int32)) hx hb dX2_roll_53 (by decide) ?_
          refine lv_iload hx hb dX2_roll_54 (lv_at hl 0 rfl) ?_
          refine lv_sipush (v := (999 : Int32)) hx hb dX2_roll_56 (by decide) ?_
          refine w_min C (lv_sub hl [] rfl) ml_X2_29 k_min ⟨Nat.le_of_ble_eq_true rfl, Nat.le_of_ble_eq_true rfl⟩ ⟨Nat.zero_le _, Nat.zero_le _⟩ (Nat.le_of_ble_eq_true rfl) dX2_roll_59 ?_
          obtain ⟨z6, hq, h⟩ := p_bd h
          refine w_Vv C hw (As := [.int b1, .int (2 : Int32), .int (if (999 : Int32) < (v4 + v5) then (999 : Int32) else (v4 + v5))]) (rest := []) (c2_setQuality l G t ht x m b1 (2 : Int32) (if (999 : Int32) < (v4 + v5) then (999 : Int32) else (v4 + v5)) z6 hq) kv_X2_setQuality ml_X2_59 ⟨rfl, rfl⟩ ⟨Nat.le_of_ble_eq_true rfl, Nat.le_of_ble_eq_true rfl⟩ ⟨Nat.zero_le _, Nat.zero_le _⟩ (w_recv C hw (wk_town G x m ht) rfl) rfl rfl (Nat.le_of_ble_eq_true rfl) (lv_sub hl [] rfl) dX2_roll_62 (fun H locs hw => ?_)
          refine lv_aload_n hx hb dX2_roll_65 rfl (lv_at hl 2 rfl) ?_
          refine lv_iload hx hb dX2_roll_66 (lv_at hl 1 rfl) ?_
          refine lv_iconst (v := (1 : Int32)) hx hb dX2_roll_68 (by decide) ?_
          obtain ⟨v7, hq, h⟩ := p_bd h
          refine w_Vi C hw (As := [.int v2, .int (1 : Int32)]) (rest := []) (c2_trait l G t ht z6 m v2 (1 : Int32) v7 hq) kv_X2_trait ml_X2_62 ⟨rfl, rfl⟩ ⟨Nat.le_of_ble_eq_true rfl, Nat.le_of_ble_eq_true rfl⟩ ⟨Nat.zero_le _, Nat.zero_le _⟩ (w_recv C hw (wk_town G z6 m ht) rfl) rfl rfl (Nat.le_of_ble_eq_true rfl) (lv_sub hl [] rfl) dX2_roll_69 (fun H locs hw => ?_)
          refine lv_istore (lv' := [(7, .int v7), (6, .int (v4 + v5)), (5, .int v2), (0, .ref (gq G (1 + 4 * t))), (1, .int b1), (2, .int b2), (3, .int b3), (4, .int b4)]) hx hb dX2_roll_72 hl (by decide) rfl (fun ls hl => ?_)
          refine lv_aload_n hx hb dX2_roll_74 rfl (lv_at hl 3 rfl) ?_
          refine lv_iload_n hx hb dX2_roll_75 rfl (lv_at hl 4 rfl) ?_
          refine lv_iconst (v := (1 : Int32)) hx hb dX2_roll_76 (by decide) ?_
          refine lv_iload hx hb dX2_roll_77 (lv_at hl 0 rfl) ?_
          obtain ⟨z8, hq, h⟩ := p_bd h
          refine w_Vv C hw (As := [.int b1, .int (1 : Int32), .int v7]) (rest := []) (c2_setQuality l G t ht z6 m b1 (1 : Int32) v7 z8 hq) kv_X2_setQuality ml_X2_59 ⟨rfl, rfl⟩ ⟨Nat.le_of_ble_eq_true rfl, Nat.le_of_ble_eq_true rfl⟩ ⟨Nat.zero_le _, Nat.zero_le _⟩ (w_recv C hw (wk_town G z6 m ht) rfl) rfl rfl (Nat.le_of_ble_eq_true rfl) (lv_sub hl [] rfl) dX2_roll_79 (fun H locs hw => ?_)
          refine lv_iload_n hx hb dX2_roll_82 rfl (lv_at hl 6 rfl) ?_
          refine lv_iconst (v := (1 : Int32)) hx hb dX2_roll_83 (by decide) ?_
          refine lv_iload hx hb dX2_roll_84 (lv_at hl 0 rfl) ?_
          refine lv_ishl hx hb dX2_roll_86 ?_
          refine lv_ior hx hb dX2_roll_87 ?_
          refine lv_istore_n (lv' := [(3, .int (b3 ||| ((1 : Int32) <<< (v7 &&& 31)))), (7, .int v7), (6, .int (v4 + v5)), (5, .int v2), (0, .ref (gq G (1 + 4 * t))), (1, .int b1), (2, .int b2), (4, .int b4)]) hx hb dX2_roll_88 rfl hl (by decide) rfl (fun ls hl => ?_)
          refine lv_aload_n hx hb dX2_roll_89 rfl (lv_at hl 4 rfl) ?_
          refine w_get C hw (v := .int (z8 (1 + 4 * t) 4)) (k := 4) (wk_town G z8 m ht) rfl it_2 (by decide) fl_X2_42 rfl dX2_roll_90 ?_
          refine lv_iload hx hb dX2_roll_93 (lv_at hl 1 rfl) ?_
          refine w_SNi C hw (As := [.int (z8 (1 + 4 * t) 4), .int v7]) (rest := []) (c3_isIn l G z8 m (z8 (1 + 4 * t) 4) v7 _ rfl) ks_X3_isIn (List.mem_of_getElem? (i := 1) rfl) ⟨rfl, rfl⟩ ⟨Nat.le_of_ble_eq_true rfl, Nat.le_of_ble_eq_true rfl⟩ ⟨Nat.zero_le _, Nat.zero_le _⟩ rfl rfl (Nat.le_of_ble_eq_true rfl) (lv_sub hl [] rfl) dX2_roll_95 (fun H locs hw => ?_)
          refine lv_if_eq (tgt := 104) hx hb dX2_roll_98 (by decide) (fun hc => ?_) (fun hc => ?_)
          · replace h := p_t hc h
            refine lv_iinc (v := (b4 + (1 : Int32))) (lv' := [(4, .int (b4 + (1 : Int32))), (3, .int (b3 ||| ((1 : Int32) <<< (v7 &&& 31)))), (7, .int v7), (6, .int (v4 + v5)), (5, .int v2), (0, .ref (gq G (1 + 4 * t))), (1, .int b1), (2, .int b2)]) hx hb dX2_roll_104 hl (k := 7) rfl rfl (by decide) rfl (fun ls hl => ?_)
            refine lv_goto (tgt := 11) hx hb dX2_roll_107 (by decide) ?_
            exact ih11 b1 b2 (b3 ||| ((1 : Int32) <<< (v7 &&& 31))) (b4 + (1 : Int32)) z8 _ _ _ (lv_sub hl [5, 6, 7, 1, 0] rfl) hw h
          · replace h := p_f hc h
            refine lv_goto (tgt := 110) hx hb dX2_roll_101 (by decide) ?_
            refine lv_iload_n hx hb dX2_roll_110 rfl (lv_at hl 0 rfl) ?_
            replace h := Option.some.inj h
            subst h
            exact w_iret C hw (v := (b3 ||| ((1 : Int32) <<< (v7 &&& 31)))) rfl rfl dX2_roll_111
        · replace h := p_t hc h
          refine lv_goto (tgt := 110) hx hb dX2_roll_34 (by decide) ?_
          refine lv_iload_n hx hb dX2_roll_110 rfl (lv_at hl 4 rfl) ?_
          replace h := Option.some.inj h
          subst h
          exact w_iret C hw (v := b3) rfl rfl dX2_roll_111
  unfold f2_roll at h
  refine lv_aload_n hx hb dX2_roll_0 rfl (lv_at hl 0 rfl) ?_
  refine lv_iload_n hx hb dX2_roll_1 rfl (lv_at hl 1 rfl) ?_
  obtain ⟨v1, hq, h⟩ := p_bd h
  refine w_Vi C hw (As := [.int a1]) (rest := []) (c2_speedOf l G t ht x m a1 v1 hq) kv_X2_speedOf ml_X2_89 ⟨rfl, rfl⟩ ⟨Nat.le_of_ble_eq_true rfl, Nat.le_of_ble_eq_true rfl⟩ ⟨Nat.zero_le _, Nat.zero_le _⟩ (w_recv C hw (wk_town G x m ht) rfl) rfl rfl (Nat.le_of_ble_eq_true rfl) (lv_sub hl [] rfl) dX2_roll_2 (fun H locs hw => ?_)
  refine lv_istore_n (lv' := [(2, .int v1), (0, .ref (gq G (1 + 4 * t))), (1, .int a1)]) hx hb dX2_roll_5 rfl hl (by decide) rfl (fun ls hl => ?_)
  refine lv_iconst (v := (0 : Int32)) hx hb dX2_roll_6 (by decide) ?_
  refine lv_istore_n (lv' := [(3, .int (0 : Int32)), (2, .int v1), (0, .ref (gq G (1 + 4 * t))), (1, .int a1)]) hx hb dX2_roll_7 rfl hl (by decide) rfl (fun ls hl => ?_)
  refine lv_iconst (v := (0 : Int32)) hx hb dX2_roll_8 (by decide) ?_
  refine lv_istore (lv' := [(4, .int (0 : Int32)), (3, .int (0 : Int32)), (2, .int v1), (0, .ref (gq G (1 + 4 * t))), (1, .int a1)]) hx hb dX2_roll_9 hl (by decide) rfl (fun ls hl => ?_)
  exact L11 fu a1 v1 (0 : Int32) (0 : Int32) x _ _ _ (lv_sub hl [3, 4, 2, 1, 0] rfl) hw h

def f2_wayOf_L12 (t : Nat)  : Nat → Int32 → Int32 → Int32 → Int32 → St → Option (Int32 × St)
  | 0, _, _, _, _, _ => none
  | n + 1, b1, b2, b3, b4, x =>
    if b2 ≤ b4 then
      some (b3, x)
    else
      (f2_roll t b1 x).bind fun q => match q with
      | (v3, z2) =>
        if v3 = 0 then
          some (b3, z2)
        else
          (f2_wayOf_L12 t n) b1 b2 (b3 ||| v3) (b4 + (1 : Int32)) z2
theorem f2_wayOf_L12_0 (t : Nat)  (b1 : Int32) (b2 : Int32) (b3 : Int32) (b4 : Int32) (x : St) : f2_wayOf_L12 t 0 b1 b2 b3 b4 x = none := rfl
theorem f2_wayOf_L12_s (t : Nat)  (n : Nat) (b1 : Int32) (b2 : Int32) (b3 : Int32) (b4 : Int32) (x : St) : f2_wayOf_L12 t (n + 1) b1 b2 b3 b4 x =
    if b2 ≤ b4 then
      some (b3, x)
    else
      (f2_roll t b1 x).bind fun q => match q with
      | (v3, z2) =>
        if v3 = 0 then
          some (b3, z2)
        else
          (f2_wayOf_L12 t n) b1 b2 (b3 ||| v3) (b4 + (1 : Int32)) z2 := rfl
def f2_wayOf (t : Nat) (a1 : Int32) (a2 : Int32) (x : St) : Option (Int32 × St) :=
  (f2_quality t a1 (1 : Int32) x).bind fun v1 =>
  f2_wayOf_L12 t fu a1 a2 ((1 : Int32) <<< (v1 &&& 31)) (0 : Int32) x
set_option maxHeartbeats 4000000 in
set_option maxRecDepth 100000 in
theorem c2_wayOf (l : Launch) (G : GT) (t : Nat) (ht : t < 3) (x m : St) (a1 : Int32) (a2 : Int32) (r : Int32 × St) (h : f2_wayOf t a1 a2 x = some r) : Mt l yX2_wayOf cX2_wayOf 6 (some .int) (rmF 4 98) G x m [.ref (gq G (1 + 4 * t)), .int a1, .int a2] (some (.int r.1)) r.2 m := by
  refine Mt.of (by decide) (Nat.le_of_ble_eq_true rfl) ?_
  intro p e s mm args below meth c C ls hl hw
  have hx := C.1
  have hb := C.2.1
  have hown := C.2.2.2.2.1
  replace hl : lv_has ls 6 [(0, .ref (gq G (1 + 4 * t))), (1, .int a1), (2, .int a2)] := hl
  have L12 : ∀ (n12 : Nat) (b1 : Int32) (b2 : Int32) (b3 : Int32) (b4 : Int32) (x : St) (H : Heap) (locs : List Loc) (ls : Array Slot), lv_has ls 6 [(0, .ref (gq G (1 + 4 * t))), (1, .int b1), (2, .int b2), (3, .int b3), (4, .int b4)] → Wd G s x m H locs → f2_wayOf_L12 t n12 b1 b2 b3 b4 x = some r → W p l e (rmF 4 98) s mm args below meth c H locs 0 0 (QE below G (some (.int r.1)) r.2 m args s) (F0 mm 12 ls []) := by
    intro n12
    induction n12 with
    | zero =>
      intro b1 b2 b3 b4 x H locs ls hl hw h
      rw [f2_wayOf_L12_0] at h
      exact absurd h.symm (Option.some_ne_none _)
    | succ n12 ih12 =>
      intro b1 b2 b3 b4 x H locs ls hl hw h
      rw [f2_wayOf_L12_s] at h
      refine lv_iload hx hb dX2_wayOf_12 (lv_at hl 4 rfl) ?_
      refine lv_iload_n hx hb dX2_wayOf_14 rfl (lv_at hl 2 rfl) ?_
      refine lv_icmp_ge (tgt := 44) hx hb dX2_wayOf_15 (by decide) (fun hc => ?_) (fun hc => ?_)
      · replace h := p_t hc h
        refine lv_iload_n hx hb dX2_wayOf_44 rfl (lv_at hl 3 rfl) ?_
        replace h := Option.some.inj h
        subst h
        exact w_iret C hw (v := b3) rfl rfl dX2_wayOf_45
      · replace h := p_f hc h
        refine lv_aload_n hx hb dX2_wayOf_18 rfl (lv_at hl 0 rfl) ?_
        refine lv_iload_n hx hb dX2_wayOf_19 rfl (lv_at hl 1 rfl) ?_
        obtain ⟨⟨v3, z2⟩, hq, h⟩ := p_bd h
        dsimp only at h
        refine w_Vi C hw (As := [.int b1]) (rest := []) (c2_roll l G t ht x m b1 (v3, z2) hq) kv_X2_roll ml_X2_95 ⟨rfl, rfl⟩ ⟨Nat.le_of_ble_eq_true rfl, Nat.le_of_ble_eq_true rfl⟩ ⟨Nat.zero_le _, Nat.zero_le _⟩ (w_recv C hw (wk_town G x m ht) rfl) rfl rfl (Nat.le_of_ble_eq_true rfl) (lv_sub hl [] rfl) dX2_wayOf_20 (fun H locs hw => ?_)
        refine lv_istore (lv' := [(5, .int v3), (0, .ref (gq G (1 + 4 * t))), (1, .int b1), (2, .int b2), (3, .int b3), (4, .int b4)]) hx hb dX2_wayOf_23 hl (by decide) rfl (fun ls hl => ?_)
        refine lv_iload hx hb dX2_wayOf_25 (lv_at hl 0 rfl) ?_
        refine lv_if_ne (tgt := 33) hx hb dX2_wayOf_27 (by decide) (fun hc => ?_) (fun hc => ?_)
        · replace h := p_f hc h
          refine lv_iload_n hx hb dX2_wayOf_33 rfl (lv_at hl 4 rfl) ?_
          refine lv_iload hx hb dX2_wayOf_34 (lv_at hl 0 rfl) ?_
          refine lv_ior hx hb dX2_wayOf_36 ?_
          refine lv_istore_n (lv' := [(3, .int (b3 ||| v3)), (5, .int v3), (0, .ref (gq G (1 + 4 * t))), (1, .int b1), (2, .int b2), (4, .int b4)]) hx hb dX2_wayOf_37 rfl hl (by decide) rfl (fun ls hl => ?_)
          refine lv_iinc (v := (b4 + (1 : Int32))) (lv' := [(4, .int (b4 + (1 : Int32))), (3, .int (b3 ||| v3)), (5, .int v3), (0, .ref (gq G (1 + 4 * t))), (1, .int b1), (2, .int b2)]) hx hb dX2_wayOf_38 hl (k := 5) rfl rfl (by decide) rfl (fun ls hl => ?_)
          refine lv_goto (tgt := 12) hx hb dX2_wayOf_41 (by decide) ?_
          exact ih12 b1 b2 (b3 ||| v3) (b4 + (1 : Int32)) z2 _ _ _ (lv_sub hl [3, 4, 5, 1, 0] rfl) hw h
        · replace h := p_t hc h
          refine lv_goto (tgt := 44) hx hb dX2_wayOf_30 (by decide) ?_
          refine lv_iload_n hx hb dX2_wayOf_44 rfl (lv_at hl 4 rfl) ?_
          replace h := Option.some.inj h
          subst h
          exact w_iret C hw (v := b3) rfl rfl dX2_wayOf_45
  unfold f2_wayOf at h
  refine lv_iconst (v := (1 : Int32)) hx hb dX2_wayOf_0 (by decide) ?_
  refine lv_aload_n hx hb dX2_wayOf_1 rfl (lv_at hl 0 rfl) ?_
  refine lv_iload_n hx hb dX2_wayOf_2 rfl (lv_at hl 1 rfl) ?_
  refine lv_iconst (v := (1 : Int32)) hx hb dX2_wayOf_3 (by decide) ?_
  obtain ⟨v1, hq, h⟩ := p_bd h
  refine w_Vi C hw (As := [.int a1, .int (1 : Int32)]) (rest := [.int (1 : Int32)]) (c2_quality l G t ht x m a1 (1 : Int32) v1 hq) kv_X2_quality ml_X2_72 ⟨rfl, rfl⟩ ⟨Nat.le_of_ble_eq_true rfl, Nat.le_of_ble_eq_true rfl⟩ ⟨Nat.zero_le _, Nat.zero_le _⟩ (w_recv C hw (wk_town G x m ht) rfl) rfl rfl (Nat.le_of_ble_eq_true rfl) (lv_sub hl [] rfl) dX2_wayOf_4 (fun H locs hw => ?_)
  refine lv_ishl hx hb dX2_wayOf_7 ?_
  refine lv_istore_n (lv' := [(3, .int ((1 : Int32) <<< (v1 &&& 31))), (0, .ref (gq G (1 + 4 * t))), (1, .int a1), (2, .int a2)]) hx hb dX2_wayOf_8 rfl hl (by decide) rfl (fun ls hl => ?_)
  refine lv_iconst (v := (0 : Int32)) hx hb dX2_wayOf_9 (by decide) ?_
  refine lv_istore (lv' := [(4, .int (0 : Int32)), (3, .int ((1 : Int32) <<< (v1 &&& 31))), (0, .ref (gq G (1 + 4 * t))), (1, .int a1), (2, .int a2)]) hx hb dX2_wayOf_10 hl (by decide) rfl (fun ls hl => ?_)
  exact L12 fu a1 a2 ((1 : Int32) <<< (v1 &&& 31)) (0 : Int32) x _ _ _ (lv_sub hl [2, 3, 4, 1, 0] rfl) hw h

def f2_minutesToHarbour_L2 (t : Nat)  : Nat → Int32 → Int32 → St → Option (Int32 × St)
  | 0, _, _, _ => none
  | n + 1, b1, b2, x =>
    if (100 : Int32) < b2 then
      some ((101 : Int32), x)
    else
      (f2_quality t b1 (1 : Int32) x).bind fun v1 =>
      if v1 = (15 : Int32) then
        some (b2, x)
      else
        (f2_roll t b1 x).bind fun q => match q with
        | (v3, z2) =>
          (f2_minutesToHarbour_L2 t n) b1 (b2 + (1 : Int32)) z2
theorem f2_minutesToHarbour_L2_0 (t : Nat)  (b1 : Int32) (b2 : Int32) (x : St) : f2_minutesToHarbour_L2 t 0 b1 b2 x = none := rfl
theorem f2_minutesToHarbour_L2_s (t : Nat)  (n : Nat) (b1 : Int32) (b2 : Int32) (x : St) : f2_minutesToHarbour_L2 t (n + 1) b1 b2 x =
    if (100 : Int32) < b2 then
      some ((101 : Int32), x)
    else
      (f2_quality t b1 (1 : Int32) x).bind fun v1 =>
      if v1 = (15 : Int32) then
        some (b2, x)
      else
        (f2_roll t b1 x).bind fun q => match q with
        | (v3, z2) =>
          (f2_minutesToHarbour_L2 t n) b1 (b2 + (1 : Int32)) z2 := rfl
def f2_minutesToHarbour (t : Nat) (a1 : Int32) (x : St) : Option (Int32 × St) :=
  f2_minutesToHarbour_L2 t fu a1 (0 : Int32) x
set_option maxHeartbeats 4000000 in
set_option maxRecDepth 100000 in
theorem c2_minutesToHarbour (l : Launch) (G : GT) (t : Nat) (ht : t < 3) (x m : St) (a1 : Int32) (r : Int32 × St) (h : f2_minutesToHarbour t a1 x = some r) : Mt l yX2_minutesToHarbour cX2_minutesToHarbour 3 (some .int) (rmF 4 98) G x m [.ref (gq G (1 + 4 * t)), .int a1] (some (.int r.1)) r.2 m := by
  refine Mt.of (by decide) (Nat.le_of_ble_eq_true rfl) ?_
  intro p e s mm args below meth c C ls hl hw
  have hx := C.1
  have hb := C.2.1
  have hown := C.2.2.2.2.1
  replace hl : lv_has ls 3 [(0, .ref (gq G (1 + 4 * t))), (1, .int a1)] := hl
  have L2 : ∀ (n2 : Nat) (b1 : Int32) (b2 : Int32) (x : St) (H : Heap) (locs : List Loc) (ls : Array Slot), lv_has ls 3 [(0, .ref (gq G (1 + 4 * t))), (1, .int b1), (2, .int b2)] → Wd G s x m H locs → f2_minutesToHarbour_L2 t n2 b1 b2 x = some r → W p l e (rmF 4 98) s mm args below meth c H locs 0 0 (QE below G (some (.int r.1)) r.2 m args s) (F0 mm 2 ls []) := by
    intro n2
    induction n2 with
    | zero =>
      intro b1 b2 x H locs ls hl hw h
      rw [f2_minutesToHarbour_L2_0] at h
      exact absurd h.symm (Option.some_ne_none _)
    | succ n2 ih2 =>
      intro b1 b2 x H locs ls hl hw h
      rw [f2_minutesToHarbour_L2_s] at h
      refine lv_iload_n hx hb dX2_minutesToHarbour_2 rfl (lv_at hl 2 rfl) ?_
      refine lv_bipush (v := (100 : Int32)) hx hb dX2_minutesToHarbour_3 (by decide) ?_
      refine lv_icmp_gt (tgt := 33) hx hb dX2_minutesToHarbour_5 (by decide) (fun hc => ?_) (fun hc => ?_)
      · replace h := p_t hc h
        refine lv_bipush (v := (101 : Int32)) hx hb dX2_minutesToHarbour_33 (by decide) ?_
        replace h := Option.some.inj h
        subst h
        exact w_iret C hw (v := (101 : Int32)) rfl rfl dX2_minutesToHarbour_35
      · replace h := p_f hc h
        refine lv_aload_n hx hb dX2_minutesToHarbour_8 rfl (lv_at hl 0 rfl) ?_
        refine lv_iload_n hx hb dX2_minutesToHarbour_9 rfl (lv_at hl 1 rfl) ?_
        refine lv_iconst (v := (1 : Int32)) hx hb dX2_minutesToHarbour_10 (by decide) ?_
        obtain ⟨v1, hq, h⟩ := p_bd h
        refine w_Vi C hw (As := [.int b1, .int (1 : Int32)]) (rest := []) (c2_quality l G t ht x m b1 (1 : Int32) v1 hq) kv_X2_quality ml_X2_72 ⟨rfl, rfl⟩ ⟨Nat.le_of_ble_eq_true rfl, Nat.le_of_ble_eq_true rfl⟩ ⟨Nat.zero_le _, Nat.zero_le _⟩ (w_recv C hw (wk_town G x m ht) rfl) rfl rfl (Nat.le_of_ble_eq_true rfl) (lv_sub hl [] rfl) dX2_minutesToHarbour_11 (fun H locs hw => ?_)
        refine lv_bipush (v := (15 : Int32)) hx hb dX2_minutesToHarbour_14 (by decide) ?_
        refine lv_icmp_ne (tgt := 21) hx hb dX2_minutesToHarbour_16 (by decide) (fun hc => ?_) (fun hc => ?_)
        · replace h := p_f hc h
          refine lv_aload_n hx hb dX2_minutesToHarbour_21 rfl (lv_at hl 0 rfl) ?_
          refine lv_iload_n hx hb dX2_minutesToHarbour_22 rfl (lv_at hl 1 rfl) ?_
          obtain ⟨⟨v3, z2⟩, hq, h⟩ := p_bd h
          dsimp only at h
          refine w_Vi C hw (As := [.int b1]) (rest := []) (c2_roll l G t ht x m b1 (v3, z2) hq) kv_X2_roll ml_X2_95 ⟨rfl, rfl⟩ ⟨Nat.le_of_ble_eq_true rfl, Nat.le_of_ble_eq_true rfl⟩ ⟨Nat.zero_le _, Nat.zero_le _⟩ (w_recv C hw (wk_town G x m ht) rfl) rfl rfl (Nat.le_of_ble_eq_true rfl) (lv_sub hl [] rfl) dX2_minutesToHarbour_23 (fun H locs hw => ?_)
          refine lv_pop hx hb dX2_minutesToHarbour_26 rfl ?_
          refine lv_iinc (v := (b2 + (1 : Int32))) (lv' := [(2, .int (b2 + (1 : Int32))), (0, .ref (gq G (1 + 4 * t))), (1, .int b1)]) hx hb dX2_minutesToHarbour_27 hl (k := 2) rfl rfl (by decide) rfl (fun ls hl => ?_)
          refine lv_goto (tgt := 2) hx hb dX2_minutesToHarbour_30 (by decide) ?_
          exact ih2 b1 (b2 + (1 : Int32)) z2 _ _ _ (lv_sub hl [1, 2, 0] rfl) hw h
        · replace h := p_t hc h
          refine lv_iload_n hx hb dX2_minutesToHarbour_19 rfl (lv_at hl 2 rfl) ?_
          replace h := Option.some.inj h
          subst h
          exact w_iret C hw (v := b2) rfl rfl dX2_minutesToHarbour_20
  unfold f2_minutesToHarbour at h
  refine lv_iconst (v := (0 : Int32)) hx hb dX2_minutesToHarbour_0 (by decide) ?_
  refine lv_istore_n (lv' := [(2, .int (0 : Int32)), (0, .ref (gq G (1 + 4 * t))), (1, .int a1)]) hx hb dX2_minutesToHarbour_1 rfl hl (by decide) rfl (fun ls hl => ?_)
  exact L2 fu a1 (0 : Int32) x _ _ _ (lv_sub hl [1, 2, 0] rfl) hw h

def f2_pass_L27 (t : Nat) (k17 : Int32 → Int32 → St → Option (Int32 × St)) : Nat → Int32 → Int32 → Int32 → Int32 → St → Option (Int32 × St)
  | 0, _, _, _, _, _ => none
  | n + 1, b1, b2, b3, b4, x =>
    if (x (1 + 4 * t) 3) ≤ b4 then
      if b3 = 0 then
        some (b2, x)
      else
        k17 b1 (b2 + (1 : Int32)) x
    else
      (f2_roll t b4 x).bind fun q => match q with
      | (v2, z1) =>
        (f2_pass_L27 t k17 n) b1 b2 (b3 ||| v2) (b4 + (1 : Int32)) z1
theorem f2_pass_L27_0 (t : Nat) (k17 : Int32 → Int32 → St → Option (Int32 × St)) (b1 : Int32) (b2 : Int32) (b3 : Int32) (b4 : Int32) (x : St) : f2_pass_L27 t k17 0 b1 b2 b3 b4 x = none := rfl
theorem f2_pass_L27_s (t : Nat) (k17 : Int32 → Int32 → St → Option (Int32 × St)) (n : Nat) (b1 : Int32) (b2 : Int32) (b3 : Int32) (b4 : Int32) (x : St) : f2_pass_L27 t k17 (n + 1) b1 b2 b3 b4 x =
    if (x (1 + 4 * t) 3) ≤ b4 then
      if b3 = 0 then
        some (b2, x)
      else
        k17 b1 (b2 + (1 : Int32)) x
    else
      (f2_roll t b4 x).bind fun q => match q with
      | (v2, z1) =>
        (f2_pass_L27 t k17 n) b1 b2 (b3 ||| v2) (b4 + (1 : Int32)) z1 := rfl
def f2_pass_L17 (t : Nat)  : Nat → Int32 → Int32 → St → Option (Int32 × St)
  | 0, _, _, _ => none
  | n + 1, b1, b2, x =>
    if b1 ≤ b2 then
      some (b1, x)
    else
      f2_pass_L27 t (f2_pass_L17 t n) fu b1 b2 (0 : Int32) (0 : Int32) x
theorem f2_pass_L17_0 (t : Nat)  (b1 : Int32) (b2 : Int32) (x : St) : f2_pass_L17 t 0 b1 b2 x = none := rfl
theorem f2_pass_L17_s (t : Nat)  (n : Nat) (b1 : Int32) (b2 : Int32) (x : St) : f2_pass_L17 t (n + 1) b1 b2 x =
    if b1 ≤ b2 then
      some (b1, x)
    else
      f2_pass_L27 t (f2_pass_L17 t n) fu b1 b2 (0 : Int32) (0 : Int32) x := rfl
def f2_pass (t : Nat) (a1 : Int32) (x : St) : Option (Int32 × St) :=
  f2_pass_L17 t fu a1 (0 : Int32) (up x (1 + 4 * t) 6 (if (99999 : Int32) < ((x (1 + 4 * t) 6) + a1) then (99999 : Int32) else ((x (1 + 4 * t) 6) + a1)))
set_option maxHeartbeats 4000000 in
set_option maxRecDepth 100000 in
theorem c2_pass (l : Launch) (G : GT) (t : Nat) (ht : t < 3) (x m : St) (a1 : Int32) (r : Int32 × St) (h : f2_pass t a1 x = some r) : Mt l yX2_pass cX2_pass 5 (some .int) (rmF 4 98) G x m [.ref (gq G (1 + 4 * t)), .int a1] (some (.int r.1)) r.2 m := by
  refine Mt.of (by decide) (Nat.le_of_ble_eq_true rfl) ?_
  intro p e s mm args below meth c C ls hl hw
  have hx := C.1
  have hb := C.2.1
  have hown := C.2.2.2.2.1
  replace hl : lv_has ls 5 [(0, .ref (gq G (1 + 4 * t))), (1, .int a1)] := hl
  have L17 : ∀ (n17 : Nat) (b1 : Int32) (b2 : Int32) (x : St) (H : Heap) (locs : List Loc) (ls : Array Slot), lv_has ls 5 [(0, .ref (gq G (1 + 4 * t))), (1, .int b1), (2, .int b2)] → Wd G s x m H locs → f2_pass_L17 t n17 b1 b2 x = some r → W p l e (rmF 4 98) s mm args below meth c H locs 0 0 (QE below G (some (.int r.1)) r.2 m args s) (F0 mm 17 ls []) := by
    intro n17
    induction n17 with
    | zero =>
      intro b1 b2 x H locs ls hl hw h
      rw [f2_pass_L17_0] at h
      exact absurd h.symm (Option.some_ne_none _)
    | succ n17 ih17 =>
      have L27 : ∀ (n27 : Nat) (b1 : Int32) (b2 : Int32) (b3 : Int32) (b4 : Int32) (x : St) (H : Heap) (locs : List Loc) (ls : Array Slot), lv_has ls 5 [(0, .ref (gq G (1 + 4 * t))), (1, .int b1), (2, .int b2), (3, .int b3), (4, .int b4)] → Wd G s x m H locs → f2_pass_L27 t (f2_pass_L17 t n17) n27 b1 b2 b3 b4 x = some r → W p l e (rmF 4 98) s mm args below meth c H locs 0 0 (QE below G (some (.int r.1)) r.2 m args s) (F0 mm 27 ls []) := by
        intro n27
        induction n27 with
        | zero =>
          intro b1 b2 b3 b4 x H locs ls hl hw h
          rw [f2_pass_L27_0] at h
          exact absurd h.symm (Option.some_ne_none _)
        | succ n27 ih27 =>
          intro b1 b2 b3 b4 x H locs ls hl hw h
          rw [f2_pass_L27_s] at h
          refine lv_iload hx hb dX2_pass_27 (lv_at hl 4 rfl) ?_
          refine lv_aload_n hx hb dX2_pass_29 rfl (lv_at hl 0 rfl) ?_
          refine w_get C hw (v := .int (x (1 + 4 * t) 3)) (k := 3) (wk_town G x m ht) rfl it_2 (by decide) fl_X2_39 rfl dX2_pass_30 ?_
          refine lv_icmp_ge (tgt := 51) hx hb dX2_pass_33 (by decide) (fun hc => ?_) (fun hc => ?_)
          · replace h := p_t hc h
            refine lv_iload_n hx hb dX2_pass_51 rfl (lv_at hl 3 rfl) ?_
            refine lv_if_ne (tgt := 57) hx hb dX2_pass_52 (by decide) (fun hc => ?_) (fun hc => ?_)
            · replace h := p_f hc h
              refine lv_iinc (v := (b2 + (1 : Int32))) (lv' := [(2, .int (b2 + (1 : Int32))), (0, .ref (gq G (1 + 4 * t))), (1, .int b1), (3, .int b3), (4, .int b4)]) hx hb dX2_pass_57 hl (k := 2) rfl rfl (by decide) rfl (fun ls hl => ?_)
              refine lv_goto (tgt := 17) hx hb dX2_pass_60 (by decide) ?_
              exact ih17 b1 (b2 + (1 : Int32)) x _ _ _ (lv_sub hl [1, 2, 0] rfl) hw h
            · replace h := p_t hc h
              refine lv_iload_n hx hb dX2_pass_55 rfl (lv_at hl 2 rfl) ?_
              replace h := Option.some.inj h
              subst h
              exact w_iret C hw (v := b2) rfl rfl dX2_pass_56
          · replace h := p_f hc h
            refine lv_iload_n hx hb dX2_pass_36 rfl (lv_at hl 3 rfl) ?_
            refine lv_aload_n hx hb dX2_pass_37 rfl (lv_at hl 0 rfl) ?_
            refine lv_iload hx hb dX2_pass_38 (lv_at hl 4 rfl) ?_
            obtain ⟨⟨v2, z1⟩, hq, h⟩ := p_bd h
            dsimp only at h
            refine w_Vi C hw (As := [.int b4]) (rest := [.int b3]) (c2_roll l G t ht x m b4 (v2, z1) hq) kv_X2_roll ml_X2_95 ⟨rfl, rfl⟩ ⟨Nat.le_of_ble_eq_true rfl, Nat.le_of_ble_eq_true rfl⟩ ⟨Nat.zero_le _, Nat.zero_le _⟩ (w_recv C hw (wk_town G x m ht) rfl) rfl rfl (Nat.le_of_ble_eq_true rfl) (lv_sub hl [] rfl) dX2_pass_40 (fun H locs hw => ?_)
            refine lv_ior hx hb dX2_pass_43 ?_
            refine lv_istore_n (lv' := [(3, .int (b3 ||| v2)), (0, .ref (gq G (1 + 4 * t))), (1, .int b1), (2, .int b2), (4, .int b4)]) hx hb dX2_pass_44 rfl hl (by decide) rfl (fun ls hl => ?_)
            refine lv_iinc (v := (b4 + (1 : Int32))) (lv' := [(4, .int (b4 + (1 : Int32))), (3, .int (b3 ||| v2)), (0, .ref (gq G (1 + 4 * t))), (1, .int b1), (2, .int b2)]) hx hb dX2_pass_45 hl (k := 4) rfl rfl (by decide) rfl (fun ls hl => ?_)
            refine lv_goto (tgt := 27) hx hb dX2_pass_48 (by decide) ?_
            exact ih27 b1 b2 (b3 ||| v2) (b4 + (1 : Int32)) z1 _ _ _ (lv_sub hl [2, 3, 4, 1, 0] rfl) hw h
      intro b1 b2 x H locs ls hl hw h
      rw [f2_pass_L17_s] at h
      refine lv_iload_n hx hb dX2_pass_17 rfl (lv_at hl 2 rfl) ?_
      refine lv_iload_n hx hb dX2_pass_18 rfl (lv_at hl 1 rfl) ?_
      refine lv_icmp_ge (tgt := 63) hx hb dX2_pass_19 (by decide) (fun hc => ?_) (fun hc => ?_)
      · replace h := p_t hc h
        refine lv_iload_n hx hb dX2_pass_63 rfl (lv_at hl 1 rfl) ?_
        replace h := Option.some.inj h
        subst h
        exact w_iret C hw (v := b1) rfl rfl dX2_pass_64
      · replace h := p_f hc h
        refine lv_iconst (v := (0 : Int32)) hx hb dX2_pass_22 (by decide) ?_
        refine lv_istore_n (lv' := [(3, .int (0 : Int32)), (0, .ref (gq G (1 + 4 * t))), (1, .int b1), (2, .int b2)]) hx hb dX2_pass_23 rfl hl (by decide) rfl (fun ls hl => ?_)
        refine lv_iconst (v := (0 : Int32)) hx hb dX2_pass_24 (by decide) ?_
        refine lv_istore (lv' := [(4, .int (0 : Int32)), (3, .int (0 : Int32)), (0, .ref (gq G (1 + 4 * t))), (1, .int b1), (2, .int b2)]) hx hb dX2_pass_25 hl (by decide) rfl (fun ls hl => ?_)
        exact L27 fu b1 b2 (0 : Int32) (0 : Int32) x _ _ _ (lv_sub hl [2, 3, 4, 1, 0] rfl) hw h
  unfold f2_pass at h
  refine lv_aload_n hx hb dX2_pass_0 rfl (lv_at hl 0 rfl) ?_
  refine lv_aload_n hx hb dX2_pass_1 rfl (lv_at hl 0 rfl) ?_
  refine w_get C hw (v := .int (x (1 + 4 * t) 6)) (k := 6) (wk_town G x m ht) rfl it_2 (by decide) fl_X2_48 rfl dX2_pass_2 ?_
  refine lv_iload_n hx hb dX2_pass_5 rfl (lv_at hl 1 rfl) ?_
  refine lv_iadd hx hb dX2_pass_6 ?_
  refine lv_ldc hx hb hown (C.w kc_X2_98) dX2_pass_7 ?_
  refine w_min C (lv_sub hl [] rfl) ml_X2_29 k_min ⟨Nat.le_of_ble_eq_true rfl, Nat.le_of_ble_eq_true rfl⟩ ⟨Nat.zero_le _, Nat.zero_le _⟩ (Nat.le_of_ble_eq_true rfl) dX2_pass_9 ?_
  refine w_put C hw (k := 6) tyX2 tyX2_ok nmX2 (wk_town G x m ht) rfl it_2 (by decide) fl_X2_48 rfl (ty := .int) rfl rfl rfl (Nat.le_of_ble_eq_true rfl) (ws_town G x m ht 6 (by decide) _) dX2_pass_12 (fun H locs hw => ?_)
  refine lv_iconst (v := (0 : Int32)) hx hb dX2_pass_15 (by decide) ?_
  refine lv_istore_n (lv' := [(2, .int (0 : Int32)), (0, .ref (gq G (1 + 4 * t))), (1, .int a1)]) hx hb dX2_pass_16 rfl hl (by decide) rfl (fun ls hl => ?_)
  exact L17 fu a1 (0 : Int32) (up x (1 + 4 * t) 6 (if (99999 : Int32) < ((x (1 + 4 * t) 6) + a1) then (99999 : Int32) else ((x (1 + 4 * t) 6) + a1))) _ _ _ (lv_sub hl [1, 2, 0] rfl) hw h

def f2_mergeAt_b74 (t : Nat) (k17 : Int32 → Int32 → Int32 → Int32 → St → Option (St)) (b1 : Int32) (b2 : Int32) (b3 : Int32) (b4 : Int32) (x : St) : Option (St) :=
  k17 b1 b2 b3 (b4 + (1 : Int32)) x
def f2_mergeAt_b72 (t : Nat) (k17 : Int32 → Int32 → Int32 → Int32 → St → Option (St)) (b1 : Int32) (b2 : Int32) (b4 : Int32) (x : St) : Option (St) :=
  f2_mergeAt_b74 t k17 b1 b2 (0 : Int32) b4 x
def f2_mergeAt_L17 (t : Nat)  : Nat → Int32 → Int32 → Int32 → Int32 → St → Option (St)
  | 0, _, _, _, _, _ => none
  | n + 1, b1, b2, b3, b4, x =>
    if (x (1 + 4 * t) 3) ≤ b4 then
      some x
    else
      (f2_quality t b4 (1 : Int32) x).bind fun v2 =>
      if v2 = b1 then
        if b3 = 0 then
          (f2_setQuality t b4 (1 : Int32) (15 : Int32) x).bind fun z3 =>
          (f2_setQuality t b4 (2 : Int32) (1 : Int32) z3).bind fun z4 =>
          f2_mergeAt_b72 t (f2_mergeAt_L17 t n) b1 b2 b4 z4
        else
          (f2_setQuality t b4 (2 : Int32) b2 x).bind fun z5 =>
          f2_mergeAt_b72 t (f2_mergeAt_L17 t n) b1 b2 b4 z5
      else
        f2_mergeAt_b74 t (f2_mergeAt_L17 t n) b1 b2 b3 b4 x
theorem f2_mergeAt_L17_0 (t : Nat)  (b1 : Int32) (b2 : Int32) (b3 : Int32) (b4 : Int32) (x : St) : f2_mergeAt_L17 t 0 b1 b2 b3 b4 x = none := rfl
theorem f2_mergeAt_L17_s (t : Nat)  (n : Nat) (b1 : Int32) (b2 : Int32) (b3 : Int32) (b4 : Int32) (x : St) : f2_mergeAt_L17 t (n + 1) b1 b2 b3 b4 x =
    if (x (1 + 4 * t) 3) ≤ b4 then
      some x
    else
      (f2_quality t b4 (1 : Int32) x).bind fun v2 =>
      if v2 = b1 then
        if b3 = 0 then
          (f2_setQuality t b4 (1 : Int32) (15 : Int32) x).bind fun z3 =>
          (f2_setQuality t b4 (2 : Int32) (1 : Int32) z3).bind fun z4 =>
          f2_mergeAt_b72 t (f2_mergeAt_L17 t n) b1 b2 b4 z4
        else
          (f2_setQuality t b4 (2 : Int32) b2 x).bind fun z5 =>
          f2_mergeAt_b72 t (f2_mergeAt_L17 t n) b1 b2 b4 z5
      else
        f2_mergeAt_b74 t (f2_mergeAt_L17 t n) b1 b2 b3 b4 x := rfl
def f2_mergeAt (t : Nat) (a1 : Int32) (x : St) : Option (St) :=
  (f2_loudAt t a1 x).bind fun v1 =>
  f2_mergeAt_L17 t fu a1 (if (999 : Int32) < v1 then (999 : Int32) else v1) (1 : Int32) (0 : Int32) x
set_option maxHeartbeats 4000000 in
set_option maxRecDepth 100000 in
theorem c2_mergeAt (l : Launch) (G : GT) (t : Nat) (ht : t < 3) (x m : St) (a1 : Int32) (r : St) (h : f2_mergeAt t a1 x = some r) : Mt l yX2_mergeAt cX2_mergeAt 5 none (rmF 3 68) G x m [.ref (gq G (1 + 4 * t)), .int a1] none r m := by
  refine Mt.of (by decide) (Nat.le_of_ble_eq_true rfl) ?_
  intro p e s mm args below meth c C ls hl hw
  have hx := C.1
  have hb := C.2.1
  have hown := C.2.2.2.2.1
  replace hl : lv_has ls 5 [(0, .ref (gq G (1 + 4 * t))), (1, .int a1)] := hl
  have L17 : ∀ (n17 : Nat) (b1 : Int32) (b2 : Int32) (b3 : Int32) (b4 : Int32) (x : St) (H : Heap) (locs : List Loc) (ls : Array Slot), lv_has ls 5 [(0, .ref (gq G (1 + 4 * t))), (1, .int b1), (2, .int b2), (3, .int b3), (4, .int b4)] → Wd G s x m H locs → f2_mergeAt_L17 t n17 b1 b2 b3 b4 x = some r → W p l e (rmF 3 68) s mm args below meth c H locs 0 0 (QE below G none r m args s) (F0 mm 17 ls []) := by
    intro n17
    induction n17 with
    | zero =>
      intro b1 b2 b3 b4 x H locs ls hl hw h
      rw [f2_mergeAt_L17_0] at h
      exact absurd h.symm (Option.some_ne_none _)
    | succ n17 ih17 =>
      have B74 : ∀ (b1 : Int32) (b2 : Int32) (b3 : Int32) (b4 : Int32) (x : St) (H : Heap) (locs : List Loc) (ls : Array Slot), lv_has ls 5 [(0, .ref (gq G (1 + 4 * t))), (1, .int b1), (2, .int b2), (3, .int b3), (4, .int b4)] → Wd G s x m H locs → f2_mergeAt_b74 t (f2_mergeAt_L17 t n17) b1 b2 b3 b4 x = some r → W p l e (rmF 3 68) s mm args below meth c H locs 0 0 (QE below G none r m args s) (F0 mm 74 ls []) := by
        intro b1 b2 b3 b4 x H locs ls hl hw h
        unfold f2_mergeAt_b74 at h
        refine lv_iinc (v := (b4 + (1 : Int32))) (lv' := [(4, .int (b4 + (1 : Int32))), (0, .ref (gq G (1 + 4 * t))), (1, .int b1), (2, .int b2), (3, .int b3)]) hx hb dX2_mergeAt_74 hl (k := 4) rfl rfl (by decide) rfl (fun ls hl => ?_)
        refine lv_goto (tgt := 17) hx hb dX2_mergeAt_77 (by decide) ?_
        exact ih17 b1 b2 b3 (b4 + (1 : Int32)) x _ _ _ (lv_sub hl [1, 2, 3, 4, 0] rfl) hw h
      have B72 : ∀ (b1 : Int32) (b2 : Int32) (b4 : Int32) (x : St) (H : Heap) (locs : List Loc) (ls : Array Slot), lv_has ls 5 [(0, .ref (gq G (1 + 4 * t))), (1, .int b1), (2, .int b2), (4, .int b4)] → Wd G s x m H locs → f2_mergeAt_b72 t (f2_mergeAt_L17 t n17) b1 b2 b4 x = some r → W p l e (rmF 3 68) s mm args below meth c H locs 0 0 (QE below G none r m args s) (F0 mm 72 ls []) := by
        intro b1 b2 b4 x H locs ls hl hw h
        unfold f2_mergeAt_b72 at h
        refine lv_iconst (v := (0 : Int32)) hx hb dX2_mergeAt_72 (by decide) ?_
        refine lv_istore_n (lv' := [(3, .int (0 : Int32)), (0, .ref (gq G (1 + 4 * t))), (1, .int b1), (2, .int b2), (4, .int b4)]) hx hb dX2_mergeAt_73 rfl hl (by decide) rfl (fun ls hl => ?_)
        exact B74 b1 b2 (0 : Int32) b4 x _ _ _ (lv_sub hl [1, 2, 3, 0, 4] rfl) hw h
      intro b1 b2 b3 b4 x H locs ls hl hw h
      rw [f2_mergeAt_L17_s] at h
      refine lv_iload hx hb dX2_mergeAt_17 (lv_at hl 4 rfl) ?_
      refine lv_aload_n hx hb dX2_mergeAt_19 rfl (lv_at hl 0 rfl) ?_
      refine w_get C hw (v := .int (x (1 + 4 * t) 3)) (k := 3) (wk_town G x m ht) rfl it_2 (by decide) fl_X2_39 rfl dX2_mergeAt_20 ?_
      refine lv_icmp_ge (tgt := 80) hx hb dX2_mergeAt_23 (by decide) (fun hc => ?_) (fun hc => ?_)
      · replace h := p_t hc h
        replace h := Option.some.inj h
        subst h
        exact w_vret C hw rfl dX2_mergeAt_80
      · replace h := p_f hc h
        refine lv_aload_n hx hb dX2_mergeAt_26 rfl (lv_at hl 0 rfl) ?_
        refine lv_iload hx hb dX2_mergeAt_27 (lv_at hl 4 rfl) ?_
        refine lv_iconst (v := (1 : Int32)) hx hb dX2_mergeAt_29 (by decide) ?_
        obtain ⟨v2, hq, h⟩ := p_bd h
        refine w_Vi C hw (As := [.int b4, .int (1 : Int32)]) (rest := []) (c2_quality l G t ht x m b4 (1 : Int32) v2 hq) kv_X2_quality ml_X2_72 ⟨rfl, rfl⟩ ⟨Nat.le_of_ble_eq_true rfl, Nat.le_of_ble_eq_true rfl⟩ ⟨Nat.zero_le _, Nat.zero_le _⟩ (w_recv C hw (wk_town G x m ht) rfl) rfl rfl (Nat.le_of_ble_eq_true rfl) (lv_sub hl [] rfl) dX2_mergeAt_30 (fun H locs hw => ?_)
        refine lv_iload_n hx hb dX2_mergeAt_33 rfl (lv_at hl 1 rfl) ?_
        refine lv_icmp_eq (tgt := 40) hx hb dX2_mergeAt_34 (by decide) (fun hc => ?_) (fun hc => ?_)
        · replace h := p_t hc h
          refine lv_iload_n hx hb dX2_mergeAt_40 rfl (lv_at hl 3 rfl) ?_
          refine lv_if_eq (tgt := 55) hx hb dX2_mergeAt_41 (by decide) (fun hc => ?_) (fun hc => ?_)
          · replace h := p_t hc h
            refine lv_aload_n hx hb dX2_mergeAt_55 rfl (lv_at hl 0 rfl) ?_
            refine lv_iload hx hb dX2_mergeAt_56 (lv_at hl 4 rfl) ?_
            refine lv_iconst (v := (1 : Int32)) hx hb dX2_mergeAt_58 (by decide) ?_
            refine lv_bipush (v := (15 : Int32)) hx hb dX2_mergeAt_59 (by decide) ?_
            obtain ⟨z3, hq, h⟩ := p_bd h
            refine w_Vv C hw (As := [.int b4, .int (1 : Int32), .int (15 : Int32)]) (rest := []) (c2_setQuality l G t ht x m b4 (1 : Int32) (15 : Int32) z3 hq) kv_X2_setQuality ml_X2_59 ⟨rfl, rfl⟩ ⟨Nat.le_of_ble_eq_true rfl, Nat.le_of_ble_eq_true rfl⟩ ⟨Nat.zero_le _, Nat.zero_le _⟩ (w_recv C hw (wk_town G x m ht) rfl) rfl rfl (Nat.le_of_ble_eq_true rfl) (lv_sub hl [] rfl) dX2_mergeAt_61 (fun H locs hw => ?_)
            refine lv_aload_n hx hb dX2_mergeAt_64 rfl (lv_at hl 0 rfl) ?_
            refine lv_iload hx hb dX2_mergeAt_65 (lv_at hl 4 rfl) ?_
            refine lv_iconst (v := (2 : Int32)) hx hb dX2_mergeAt_67 (by decide) ?_
            refine lv_iconst (v := (1 : Int32)) hx hb dX2_mergeAt_68 (by decide) ?_
            obtain ⟨z4, hq, h⟩ := p_bd h
            refine w_Vv C hw (As := [.int b4, .int (2 : Int32), .int (1 : Int32)]) (rest := []) (c2_setQuality l G t ht z3 m b4 (2 : Int32) (1 : Int32) z4 hq) kv_X2_setQuality ml_X2_59 ⟨rfl, rfl⟩ ⟨Nat.le_of_ble_eq_true rfl, Nat.le_of_ble_eq_true rfl⟩ ⟨Nat.zero_le _, Nat.zero_le _⟩ (w_recv C hw (wk_town G z3 m ht) rfl) rfl rfl (Nat.le_of_ble_eq_true rfl) (lv_sub hl [] rfl) dX2_mergeAt_69 (fun H locs hw => ?_)
            exact B72 b1 b2 b4 z4 _ _ _ (lv_sub hl [0, 1, 2, 4] rfl) hw h
          · replace h := p_f hc h
            refine lv_aload_n hx hb dX2_mergeAt_44 rfl (lv_at hl 0 rfl) ?_
            refine lv_iload hx hb dX2_mergeAt_45 (lv_at hl 4 rfl) ?_
            refine lv_iconst (v := (2 : Int32)) hx hb dX2_mergeAt_47 (by decide) ?_
            refine lv_iload_n hx hb dX2_mergeAt_48 rfl (lv_at hl 2 rfl) ?_
            obtain ⟨z5, hq, h⟩ := p_bd h
            refine w_Vv C hw (As := [.int b4, .int (2 : Int32), .int b2]) (rest := []) (c2_setQuality l G t ht x m b4 (2 : Int32) b2 z5 hq) kv_X2_setQuality ml_X2_59 ⟨rfl, rfl⟩ ⟨Nat.le_of_ble_eq_true rfl, Nat.le_of_ble_eq_true rfl⟩ ⟨Nat.zero_le _, Nat.zero_le _⟩ (w_recv C hw (wk_town G x m ht) rfl) rfl rfl (Nat.le_of_ble_eq_true rfl) (lv_sub hl [] rfl) dX2_mergeAt_49 (fun H locs hw => ?_)
            refine lv_goto (tgt := 72) hx hb dX2_mergeAt_52 (by decide) ?_
            exact B72 b1 b2 b4 z5 _ _ _ (lv_sub hl [0, 1, 2, 4] rfl) hw h
        · replace h := p_f hc h
          refine lv_goto (tgt := 74) hx hb dX2_mergeAt_37 (by decide) ?_
          exact B74 b1 b2 b3 b4 x _ _ _ (lv_sub hl [0, 1, 2, 3, 4] rfl) hw h
  unfold f2_mergeAt at h
  refine lv_aload_n hx hb dX2_mergeAt_0 rfl (lv_at hl 0 rfl) ?_
  refine lv_iload_n hx hb dX2_mergeAt_1 rfl (lv_at hl 1 rfl) ?_
  obtain ⟨v1, hq, h⟩ := p_bd h
  refine w_Vi C hw (As := [.int a1]) (rest := []) (c2_loudAt l G t ht x m a1 v1 hq) kv_X2_loudAt ml_X2_78 ⟨rfl, rfl⟩ ⟨Nat.le_of_ble_eq_true rfl, Nat.le_of_ble_eq_true rfl⟩ ⟨Nat.zero_le _, Nat.zero_le _⟩ (w_recv C hw (wk_town G x m ht) rfl) rfl rfl (Nat.le_of_ble_eq_true rfl) (lv_sub hl [] rfl) dX2_mergeAt_2 (fun H locs hw => ?_)
  refine lv_sipush (v := (999 : Int32)) hx hb dX2_mergeAt_5 (by decide) ?_
  refine w_min C (lv_sub hl [] rfl) ml_X2_29 k_min ⟨Nat.le_of_ble_eq_true rfl, Nat.le_of_ble_eq_true rfl⟩ ⟨Nat.zero_le _, Nat.zero_le _⟩ (Nat.le_of_ble_eq_true rfl) dX2_mergeAt_8 ?_
  refine lv_istore_n (lv' := [(2, .int (if (999 : Int32) < v1 then (999 : Int32) else v1)), (0, .ref (gq G (1 + 4 * t))), (1, .int a1)]) hx hb dX2_mergeAt_11 rfl hl (by decide) rfl (fun ls hl => ?_)
  refine lv_iconst (v := (1 : Int32)) hx hb dX2_mergeAt_12 (by decide) ?_
  refine lv_istore_n (lv' := [(3, .int (1 : Int32)), (2, .int (if (999 : Int32) < v1 then (999 : Int32) else v1)), (0, .ref (gq G (1 + 4 * t))), (1, .int a1)]) hx hb dX2_mergeAt_13 rfl hl (by decide) rfl (fun ls hl => ?_)
  refine lv_iconst (v := (0 : Int32)) hx hb dX2_mergeAt_14 (by decide) ?_
  refine lv_istore (lv' := [(4, .int (0 : Int32)), (3, .int (1 : Int32)), (2, .int (if (999 : Int32) < v1 then (999 : Int32) else v1)), (0, .ref (gq G (1 + 4 * t))), (1, .int a1)]) hx hb dX2_mergeAt_15 hl (by decide) rfl (fun ls hl => ?_)
  exact L17 fu a1 (if (999 : Int32) < v1 then (999 : Int32) else v1) (1 : Int32) (0 : Int32) x _ _ _ (lv_sub hl [3, 4, 2, 1, 0] rfl) hw h

def f2_draw (t : Nat)  (x : St) : Int32 × St :=
  (((((up x (1 + 4 * t) 7 (((x (1 + 4 * t) 7) * (1103515245 : Int32)) + (12345 : Int32))) (1 + 4 * t) 7).toUInt32 >>> ((8 : Int32).toUInt32 &&& Int32.toUInt32 31)).toInt32), (up x (1 + 4 * t) 7 (((x (1 + 4 * t) 7) * (1103515245 : Int32)) + (12345 : Int32))))
set_option maxHeartbeats 4000000 in
set_option maxRecDepth 100000 in
theorem c2_draw (l : Launch) (G : GT) (t : Nat) (ht : t < 3) (x m : St)  (r : Int32 × St) (h : f2_draw t x = r) : Mt l yX2_draw cX2_draw 1 (some .int) (rmF 0 0) G x m [.ref (gq G (1 + 4 * t))] (some (.int r.1)) r.2 m := by
  refine Mt.of (by decide) (Nat.le_of_ble_eq_true rfl) ?_
  intro p e s mm args below meth c C ls hl hw
  have hx := C.1
  have hb := C.2.1
  have hown := C.2.2.2.2.1
  replace hl : lv_has ls 1 [(0, .ref (gq G (1 + 4 * t)))] := hl
  unfold f2_draw at h
  refine lv_aload_n hx hb dX2_draw_0 rfl (lv_at hl 0 rfl) ?_
  refine lv_aload_n hx hb dX2_draw_1 rfl (lv_at hl 0 rfl) ?_
  refine w_get C hw (v := .int (x (1 + 4 * t) 7)) (k := 7) (wk_town G x m ht) rfl it_2 (by decide) fl_X2_21 rfl dX2_draw_2 ?_
  refine lv_ldc hx hb hown (C.w kc_X2_99) dX2_draw_5 ?_
  refine lv_imul hx hb dX2_draw_7 ?_
  refine lv_sipush (v := (12345 : Int32)) hx hb dX2_draw_8 (by decide) ?_
  refine lv_iadd hx hb dX2_draw_11 ?_
  refine w_put C hw (k := 7) tyX2 tyX2_ok nmX2 (wk_town G x m ht) rfl it_2 (by decide) fl_X2_21 rfl (ty := .int) rfl rfl rfl (Nat.le_of_ble_eq_true rfl) (ws_town G x m ht 7 (by decide) _) dX2_draw_12 (fun H locs hw => ?_)
  refine lv_aload_n hx hb dX2_draw_15 rfl (lv_at hl 0 rfl) ?_
  refine w_get C hw (v := .int ((up x (1 + 4 * t) 7 (((x (1 + 4 * t) 7) * (1103515245 : Int32)) + (12345 : Int32))) (1 + 4 * t) 7)) (k := 7) (wk_town G (up x (1 + 4 * t) 7 (((x (1 + 4 * t) 7) * (1103515245 : Int32)) + (12345 : Int32))) m ht) rfl it_2 (by decide) fl_X2_21 rfl dX2_draw_16 ?_
  refine lv_bipush (v := (8 : Int32)) hx hb dX2_draw_19 (by decide) ?_
  refine lv_iushr hx hb dX2_draw_21 rfl ?_
  subst h
  exact w_iret C hw (v := ((((up x (1 + 4 * t) 7 (((x (1 + 4 * t) 7) * (1103515245 : Int32)) + (12345 : Int32))) (1 + 4 * t) 7).toUInt32 >>> ((8 : Int32).toUInt32 &&& Int32.toUInt32 31)).toInt32)) rfl rfl dX2_draw_22

def f3_finding  (a1 : Int32) (x : St) : Option (Int32 × St) :=
  if ((-1000001 : Int32) - a1) < 0 then
    some (a1, x)
  else
    if (7 : Int32) ≤ ((-1000001 : Int32) - a1) then
      some (a1, x)
    else
      if ((-1000001 : Int32) - a1) < 0 ∨ 7 ≤ ((-1000001 : Int32) - a1).toNatClampNeg then none else
      if ((-1000001 : Int32) - a1) < 0 ∨ 7 ≤ ((-1000001 : Int32) - a1).toNatClampNeg then none else
      some (a1, (up x 24 ((-1000001 : Int32) - a1).toNatClampNeg ((x 24 ((-1000001 : Int32) - a1).toNatClampNeg) + (1 : Int32))))
set_option maxHeartbeats 4000000 in
set_option maxRecDepth 100000 in
theorem c3_finding (l : Launch) (G : GT)  (x m : St) (a1 : Int32) (r : Int32 × St) (h : f3_finding a1 x = some r) : Mt l yX3_finding cX3_finding 3 (some .int) (rmF 0 0) G x m [.ref (gq G 0), .int a1] (some (.int r.1)) r.2 m := by
  refine Mt.of (by decide) (Nat.le_of_ble_eq_true rfl) ?_
  intro p e s mm args below meth c C ls hl hw
  have hx := C.1
  have hb := C.2.1
  have hown := C.2.2.2.2.1
  replace hl : lv_has ls 3 [(0, .ref (gq G 0)), (1, .int a1)] := hl
  unfold f3_finding at h
  refine lv_ldc hx hb hown (C.w kc_X3_48) dX3_finding_0 ?_
  refine lv_iload_n hx hb dX3_finding_2 rfl (lv_at hl 1 rfl) ?_
  refine lv_isub hx hb dX3_finding_3 ?_
  refine lv_istore_n (lv' := [(2, .int ((-1000001 : Int32) - a1)), (0, .ref (gq G 0)), (1, .int a1)]) hx hb dX3_finding_4 rfl hl (by decide) rfl (fun ls hl => ?_)
  refine lv_iload_n hx hb dX3_finding_5 rfl (lv_at hl 0 rfl) ?_
  refine lv_if_lt (tgt := 28) hx hb dX3_finding_6 (by decide) (fun hc => ?_) (fun hc => ?_)
  · replace h := p_t hc h
    refine lv_iload_n hx hb dX3_finding_28 rfl (lv_at hl 2 rfl) ?_
    replace h := Option.some.inj h
    subst h
    exact w_iret C hw (v := a1) rfl rfl dX3_finding_29
  · replace h := p_f hc h
    refine lv_iload_n hx hb dX3_finding_9 rfl (lv_at hl 0 rfl) ?_
    refine lv_aload_n hx hb dX3_finding_10 rfl (lv_at hl 1 rfl) ?_
    refine w_get C hw (v := .ref (gq G 24)) (k := 6) (wk_main G x m) rfl it_3 (by decide) fl_X3_36 rfl dX3_finding_11 ?_
    refine w_alen C hw (v := (7 : Int32)) (ax_24 G x m).1 rfl dX3_finding_14 ?_
    refine lv_icmp_ge (tgt := 28) hx hb dX3_finding_15 (by decide) (fun hc => ?_) (fun hc => ?_)
    · replace h := p_t hc h
      refine lv_iload_n hx hb dX3_finding_28 rfl (lv_at hl 2 rfl) ?_
      replace h := Option.some.inj h
      subst h
      exact w_iret C hw (v := a1) rfl rfl dX3_finding_29
    · replace h := p_f hc h
      refine lv_aload_n hx hb dX3_finding_18 rfl (lv_at hl 1 rfl) ?_
      refine w_get C hw (v := .ref (gq G 24)) (k := 6) (wk_main G x m) rfl it_3 (by decide) fl_X3_36 rfl dX3_finding_19 ?_
      refine lv_iload_n hx hb dX3_finding_22 rfl (lv_at hl 0 rfl) ?_
      refine lv_dup2_11 hx hb dX3_finding_23 rfl rfl ?_
      obtain ⟨hq, h⟩ := p_if h
      refine w_ald C hw (ax_24 G x m).1 hq dX3_finding_24 ?_
      refine lv_iconst (v := (1 : Int32)) hx hb dX3_finding_25 (by decide) ?_
      refine lv_iadd hx hb dX3_finding_26 ?_
      obtain ⟨hq, h⟩ := p_if h
      refine w_astX C hw ax_24 hq dX3_finding_27 (fun H locs hw => ?_)
      refine lv_iload_n hx hb dX3_finding_28 rfl (lv_at hl 2 rfl) ?_
      replace h := Option.some.inj h
      subst h
      exact w_iret C hw (v := a1) rfl rfl dX3_finding_29

def f3_isCorner  (a1 : Int32) : Int32 :=
  (f3_isWithin a1 (0 : Int32) (15 : Int32))
theorem bz_X3_isCorner  (a1 : Int32) : f3_isCorner a1 = 0 ∨ f3_isCorner a1 = 1 := by
  unfold f3_isCorner
  repeat' split
  all_goals first | exact Or.inl rfl | exact Or.inr rfl | exact bz_X3_isWithin _ _ _ 
set_option maxHeartbeats 4000000 in
set_option maxRecDepth 100000 in
theorem c3_isCorner (l : Launch) (G : GT)  (x m : St) (a1 : Int32) (r : Int32) (h : f3_isCorner a1 = r) : Mt l yX3_isCorner cX3_isCorner 1 (some .boolean) (rmF 1 22) G x m [.int a1] (some (.int r)) x m := by
  refine Mt.of (by decide) (Nat.le_of_ble_eq_true rfl) ?_
  intro p e s mm args below meth c C ls hl hw
  have hx := C.1
  have hb := C.2.1
  have hown := C.2.2.2.2.1
  replace hl : lv_has ls 1 [(0, .int a1)] := hl
  unfold f3_isCorner at h
  refine lv_iload_n hx hb dX3_isCorner_0 rfl (lv_at hl 0 rfl) ?_
  refine lv_iconst (v := (0 : Int32)) hx hb dX3_isCorner_1 (by decide) ?_
  refine lv_bipush (v := (15 : Int32)) hx hb dX3_isCorner_2 (by decide) ?_
  refine w_Si C hw (As := [.int a1, .int (0 : Int32), .int (15 : Int32)]) (rest := []) (c3_isWithin l G x m a1 (0 : Int32) (15 : Int32) _ rfl) ks_X3_isWithin ml_X3_44 ⟨rfl, rfl⟩ ⟨Nat.le_of_ble_eq_true rfl, Nat.le_of_ble_eq_true rfl⟩ ⟨Nat.zero_le _, Nat.zero_le _⟩ rfl rfl (Nat.le_of_ble_eq_true rfl) (lv_sub hl [] rfl) dX3_isCorner_4 (fun H locs hw => ?_)
  subst h
  exact w_iret C hw (v := (f3_isWithin a1 (0 : Int32) (15 : Int32))) rfl (nz_b (bz_X3_isWithin a1 (0 : Int32) (15 : Int32))) dX3_isCorner_7

def f3_corner_b17    (x : St) : Option (Int32 × St) :=
  (f3_finding (-1000001 : Int32) x).bind fun q => match q with
  | (v7, z6) =>
    some (v7, z6)
def f3_corner  (a1 : Int32) (a2 : Int32) (x : St) : Option (Int32 × St) :=
  if (f3_isCorner a1) = 0 then
    f3_corner_b17 x
  else
    if (f3_isWithin a2 (0 : Int32) (8 : Int32)) = 0 then
      f3_corner_b17 x
    else
      if a2 = (5 : Int32) then
        (f2_steepAt 0 a1 x).bind fun v1 =>
        some (v1, x)
      else
      if a2 = (6 : Int32) then
        (f2_loudAt 0 a1 x).bind fun v2 =>
        some (v2, x)
      else
      if a2 = (7 : Int32) then
        (f2_isHeardAt 0 a1 x).bind fun v3 =>
        if v3 = 0 then
          some ((0 : Int32), x)
        else
          some ((1 : Int32), x)
      else
      if a2 = (8 : Int32) then
        (f2_rentOf 0 a1 x).bind fun v4 =>
        some (v4, x)
      else
        (f2_trait 0 a1 a2 x).bind fun v5 =>
        some (v5, x)
set_option maxHeartbeats 4000000 in
set_option maxRecDepth 100000 in
theorem c3_corner (l : Launch) (G : GT)  (x m : St) (a1 : Int32) (a2 : Int32) (r : Int32 × St) (h : f3_corner a1 a2 x = some r) : Mt l yX3_corner cX3_corner 3 (some .int) (rmF 4 89) G x m [.ref (gq G 0), .int a1, .int a2] (some (.int r.1)) r.2 m := by
  refine Mt.of (by decide) (Nat.le_of_ble_eq_true rfl) ?_
  intro p e s mm args below meth c C ls hl hw
  have hx := C.1
  have hb := C.2.1
  have hown := C.2.2.2.2.1
  replace hl : lv_has ls 3 [(0, .ref (gq G 0)), (1, .int a1), (2, .int a2)] := hl
  have B17 : ∀  (x : St) (H : Heap) (locs : List Loc) (ls : Array Slot), lv_has ls 3 [(0, .ref (gq G 0))] → Wd G s x m H locs → f3_corner_b17 x = some r → W p l e (rmF 4 89) s mm args below meth c H locs 0 0 (QE below G (some (.int r.1)) r.2 m args s) (F0 mm 17 ls []) := by
    intro  x H locs ls hl hw h
    unfold f3_corner_b17 at h
    refine lv_aload_n hx hb dX3_corner_17 rfl (lv_at hl 0 rfl) ?_
    refine lv_ldc hx hb hown (C.w kc_X3_48) dX3_corner_18 ?_
    obtain ⟨⟨v7, z6⟩, hq, h⟩ := p_bd h
    dsimp only at h
    refine w_Vi C hw (As := [.int (-1000001 : Int32)]) (rest := []) (c3_finding l G x m (-1000001 : Int32) (v7, z6) hq) kv_X3_finding ml_X3_49 ⟨rfl, rfl⟩ ⟨Nat.le_of_ble_eq_true rfl, Nat.le_of_ble_eq_true rfl⟩ ⟨Nat.zero_le _, Nat.zero_le _⟩ (w_recv C hw (wk_main G x m) rfl) rfl rfl (Nat.le_of_ble_eq_true rfl) (lv_sub hl [] rfl) dX3_corner_20 (fun H locs hw => ?_)
    replace h := Option.some.inj h
    subst h
    exact w_iret C hw (v := v7) rfl rfl dX3_corner_23
  unfold f3_corner at h
  refine lv_iload_n hx hb dX3_corner_0 rfl (lv_at hl 1 rfl) ?_
  refine w_Si C hw (As := [.int a1]) (rest := []) (c3_isCorner l G x m a1 _ rfl) ks_X3_isCorner ml_X3_40 ⟨rfl, rfl⟩ ⟨Nat.le_of_ble_eq_true rfl, Nat.le_of_ble_eq_true rfl⟩ ⟨Nat.zero_le _, Nat.zero_le _⟩ rfl rfl (Nat.le_of_ble_eq_true rfl) (lv_sub hl [] rfl) dX3_corner_1 (fun H locs hw => ?_)
  refine lv_if_eq (tgt := 17) hx hb dX3_corner_4 (by decide) (fun hc => ?_) (fun hc => ?_)
  · replace h := p_t hc h
    exact B17 x _ _ _ (lv_sub hl [0] rfl) hw h
  · replace h := p_f hc h
    refine lv_iload_n hx hb dX3_corner_7 rfl (lv_at hl 2 rfl) ?_
    refine lv_iconst (v := (0 : Int32)) hx hb dX3_corner_8 (by decide) ?_
    refine lv_bipush (v := (8 : Int32)) hx hb dX3_corner_9 (by decide) ?_
    refine w_Si C hw (As := [.int a2, .int (0 : Int32), .int (8 : Int32)]) (rest := []) (c3_isWithin l G x m a2 (0 : Int32) (8 : Int32) _ rfl) ks_X3_isWithin ml_X3_44 ⟨rfl, rfl⟩ ⟨Nat.le_of_ble_eq_true rfl, Nat.le_of_ble_eq_true rfl⟩ ⟨Nat.zero_le _, Nat.zero_le _⟩ rfl rfl (Nat.le_of_ble_eq_true rfl) (lv_sub hl [] rfl) dX3_corner_11 (fun H locs hw => ?_)
    refine lv_if_ne (tgt := 24) hx hb dX3_corner_14 (by decide) (fun hc => ?_) (fun hc => ?_)
    · replace h := p_f hc h
      refine lv_iload_n hx hb dX3_corner_24 rfl (lv_at hl 2 rfl) ?_
      by_cases hc0 : a2 = (5 : Int32)
      · replace h := p_t hc0 h
        refine lv_tableIn (tgt := 56) hx hb dX3_corner_25 (by rw [hc0]; decide) (by rw [hc0]; decide) (by rw [hc0]; rfl) (by decide) ?_
        refine lv_aload_n hx hb dX3_corner_56 rfl (lv_at hl 0 rfl) ?_
        refine w_get C hw (v := .ref (gq G (1 + 4 * 0))) (k := 0) (wk_main G x m) rfl it_3 (by decide) fl_X3_10 rfl dX3_corner_57 ?_
        refine lv_iload_n hx hb dX3_corner_60 rfl (lv_at hl 1 rfl) ?_
        obtain ⟨v1, hq, h⟩ := p_bd h
        refine w_Vi C hw (As := [.int a1]) (rest := []) (c2_steepAt l G 0 (by decide) x m a1 v1 hq) kv_X2_steepAt ml_X3_53 ⟨rfl, rfl⟩ ⟨Nat.le_of_ble_eq_true rfl, Nat.le_of_ble_eq_true rfl⟩ ⟨Nat.zero_le _, Nat.zero_le _⟩ (w_recv C hw (wk_town G x m (by decide)) rfl) rfl rfl (Nat.le_of_ble_eq_true rfl) (lv_sub hl [] rfl) dX3_corner_61 (fun H locs hw => ?_)
        replace h := Option.some.inj h
        subst h
        exact w_iret C hw (v := v1) rfl rfl dX3_corner_64
      · replace h := p_f hc0 h
        by_cases hc1 : a2 = (6 : Int32)
        · replace h := p_t hc1 h
          refine lv_tableIn (tgt := 65) hx hb dX3_corner_25 (by rw [hc1]; decide) (by rw [hc1]; decide) (by rw [hc1]; rfl) (by decide) ?_
          refine lv_aload_n hx hb dX3_corner_65 rfl (lv_at hl 0 rfl) ?_
          refine w_get C hw (v := .ref (gq G (1 + 4 * 0))) (k := 0) (wk_main G x m) rfl it_3 (by decide) fl_X3_10 rfl dX3_corner_66 ?_
          refine lv_iload_n hx hb dX3_corner_69 rfl (lv_at hl 1 rfl) ?_
          obtain ⟨v2, hq, h⟩ := p_bd h
          refine w_Vi C hw (As := [.int a1]) (rest := []) (c2_loudAt l G 0 (by decide) x m a1 v2 hq) kv_X2_loudAt ml_X3_56 ⟨rfl, rfl⟩ ⟨Nat.le_of_ble_eq_true rfl, Nat.le_of_ble_eq_true rfl⟩ ⟨Nat.zero_le _, Nat.zero_le _⟩ (w_recv C hw (wk_town G x m (by decide)) rfl) rfl rfl (Nat.le_of_ble_eq_true rfl) (lv_sub hl [] rfl) dX3_corner_70 (fun H locs hw => ?_)
          replace h := Option.some.inj h
          subst h
          exact w_iret C hw (v := v2) rfl rfl dX3_corner_73
        · replace h := p_f hc1 h
          by_cases hc2 : a2 = (7 : Int32)
          · replace h := p_t hc2 h
            refine lv_tableIn (tgt := 74) hx hb dX3_corner_25 (by rw [hc2]; decide) (by rw [hc2]; decide) (by rw [hc2]; rfl) (by decide) ?_
            refine lv_aload_n hx hb dX3_corner_74 rfl (lv_at hl 0 rfl) ?_
            refine w_get C hw (v := .ref (gq G (1 + 4 * 0))) (k := 0) (wk_main G x m) rfl it_3 (by decide) fl_X3_10 rfl dX3_corner_75 ?_
            refine lv_iload_n hx hb dX3_corner_78 rfl (lv_at hl 1 rfl) ?_
            obtain ⟨v3, hq, h⟩ := p_bd h
            refine w_Vi C hw (As := [.int a1]) (rest := []) (c2_isHeardAt l G 0 (by decide) x m a1 v3 hq) kv_X2_isHeardAt ml_X3_59 ⟨rfl, rfl⟩ ⟨Nat.le_of_ble_eq_true rfl, Nat.le_of_ble_eq_true rfl⟩ ⟨Nat.zero_le _, Nat.zero_le _⟩ (w_recv C hw (wk_town G x m (by decide)) rfl) rfl rfl (Nat.le_of_ble_eq_true rfl) (lv_sub hl [] rfl) dX3_corner_79 (fun H locs hw => ?_)
            refine lv_if_eq (tgt := 89) hx hb dX3_corner_82 (by decide) (fun hc => ?_) (fun hc => ?_)
            · replace h := p_t hc h
              refine lv_iconst (v := (0 : Int32)) hx hb dX3_corner_89 (by decide) ?_
              replace h := Option.some.inj h
              subst h
              exact w_iret C hw (v := (0 : Int32)) rfl rfl dX3_corner_90
            · replace h := p_f hc h
              refine lv_iconst (v := (1 : Int32)) hx hb dX3_corner_85 (by decide) ?_
              refine lv_goto (tgt := 90) hx hb dX3_corner_86 (by decide) ?_
              replace h := Option.some.inj h
              subst h
              exact w_iret C hw (v := (1 : Int32)) rfl rfl dX3_corner_90
          · replace h := p_f hc2 h
            by_cases hc3 : a2 = (8 : Int32)
            · replace h := p_t hc3 h
              refine lv_tableIn (tgt := 91) hx hb dX3_corner_25 (by rw [hc3]; decide) (by rw [hc3]; decide) (by rw [hc3]; rfl) (by decide) ?_
              refine lv_aload_n hx hb dX3_corner_91 rfl (lv_at hl 0 rfl) ?_
              refine w_get C hw (v := .ref (gq G (1 + 4 * 0))) (k := 0) (wk_main G x m) rfl it_3 (by decide) fl_X3_10 rfl dX3_corner_92 ?_
              refine lv_iload_n hx hb dX3_corner_95 rfl (lv_at hl 1 rfl) ?_
              obtain ⟨v4, hq, h⟩ := p_bd h
              refine w_Vi C hw (As := [.int a1]) (rest := []) (c2_rentOf l G 0 (by decide) x m a1 v4 hq) kv_X2_rentOf ml_X3_62 ⟨rfl, rfl⟩ ⟨Nat.le_of_ble_eq_true rfl, Nat.le_of_ble_eq_true rfl⟩ ⟨Nat.zero_le _, Nat.zero_le _⟩ (w_recv C hw (wk_town G x m (by decide)) rfl) rfl rfl (Nat.le_of_ble_eq_true rfl) (lv_sub hl [] rfl) dX3_corner_96 (fun H locs hw => ?_)
              replace h := Option.some.inj h
              subst h
              exact w_iret C hw (v := v4) rfl rfl dX3_corner_99
            · replace h := p_f hc3 h
              refine lv_tableOut (tgt := 100) hx hb dX3_corner_25 (by have q0 : ¬ a2.toInt = 5 := lv_neT hc0 rfl; have q1 : ¬ a2.toInt = 6 := lv_neT hc1 rfl; have q2 : ¬ a2.toInt = 7 := lv_neT hc2 rfl; have q3 : ¬ a2.toInt = 8 := lv_neT hc3 rfl; omega) (by decide) ?_
              refine lv_aload_n hx hb dX3_corner_100 rfl (lv_at hl 0 rfl) ?_
              refine w_get C hw (v := .ref (gq G (1 + 4 * 0))) (k := 0) (wk_main G x m) rfl it_3 (by decide) fl_X3_10 rfl dX3_corner_101 ?_
              refine lv_iload_n hx hb dX3_corner_104 rfl (lv_at hl 1 rfl) ?_
              refine lv_iload_n hx hb dX3_corner_105 rfl (lv_at hl 2 rfl) ?_
              obtain ⟨v5, hq, h⟩ := p_bd h
              refine w_Vi C hw (As := [.int a1, .int a2]) (rest := []) (c2_trait l G 0 (by decide) x m a1 a2 v5 hq) kv_X2_trait ml_X3_65 ⟨rfl, rfl⟩ ⟨Nat.le_of_ble_eq_true rfl, Nat.le_of_ble_eq_true rfl⟩ ⟨Nat.zero_le _, Nat.zero_le _⟩ (w_recv C hw (wk_town G x m (by decide)) rfl) rfl rfl (Nat.le_of_ble_eq_true rfl) (lv_sub hl [] rfl) dX3_corner_106 (fun H locs hw => ?_)
              replace h := Option.some.inj h
              subst h
              exact w_iret C hw (v := v5) rfl rfl dX3_corner_109
    · replace h := p_t hc h
      exact B17 x _ _ _ (lv_sub hl [0] rfl) hw h

def f3_build_b15    (x : St) : Option (Int32 × St) :=
  (f3_finding (-1000001 : Int32) x).bind fun q => match q with
  | (v5, z4) =>
    some (v5, z4)
def f3_build  (a1 : Int32) (a2 : Int32) (a3 : Int32) (x : St) : Option (Int32 × St) :=
  if (f3_isCorner a1) = 0 then
    f3_build_b15 x
  else
    (f3_isTrait a2 a3 x).bind fun v1 =>
    if v1 = 0 then
      f3_build_b15 x
    else
      (f2_trait 0 a1 a2 x).bind fun v2 =>
      (f2_setTrait 0 a1 a2 a3 x).bind fun z3 =>
      some (v2, z3)
set_option maxHeartbeats 4000000 in
set_option maxRecDepth 100000 in
theorem c3_build (l : Launch) (G : GT)  (x m : St) (a1 : Int32) (a2 : Int32) (a3 : Int32) (r : Int32 × St) (h : f3_build a1 a2 a3 x = some r) : Mt l yX3_build cX3_build 5 (some .int) (rmF 2 45) G x m [.ref (gq G 0), .int a1, .int a2, .int a3] (some (.int r.1)) r.2 m := by
  refine Mt.of (by decide) (Nat.le_of_ble_eq_true rfl) ?_
  intro p e s mm args below meth c C ls hl hw
  have hx := C.1
  have hb := C.2.1
  have hown := C.2.2.2.2.1
  replace hl : lv_has ls 5 [(0, .ref (gq G 0)), (1, .int a1), (2, .int a2), (3, .int a3)] := hl
  have B15 : ∀  (x : St) (H : Heap) (locs : List Loc) (ls : Array Slot), lv_has ls 5 [(0, .ref (gq G 0))] → Wd G s x m H locs → f3_build_b15 x = some r → W p l e (rmF 2 45) s mm args below meth c H locs 0 0 (QE below G (some (.int r.1)) r.2 m args s) (F0 mm 15 ls []) := by
    intro  x H locs ls hl hw h
    unfold f3_build_b15 at h
    refine lv_aload_n hx hb dX3_build_15 rfl (lv_at hl 0 rfl) ?_
    refine lv_ldc hx hb hown (C.w kc_X3_48) dX3_build_16 ?_
    obtain ⟨⟨v5, z4⟩, hq, h⟩ := p_bd h
    dsimp only at h
    refine w_Vi C hw (As := [.int (-1000001 : Int32)]) (rest := []) (c3_finding l G x m (-1000001 : Int32) (v5, z4) hq) kv_X3_finding ml_X3_49 ⟨rfl, rfl⟩ ⟨Nat.le_of_ble_eq_true rfl, Nat.le_of_ble_eq_true rfl⟩ ⟨Nat.zero_le _, Nat.zero_le _⟩ (w_recv C hw (wk_main G x m) rfl) rfl rfl (Nat.le_of_ble_eq_true rfl) (lv_sub hl [] rfl) dX3_build_18 (fun H locs hw => ?_)
    replace h := Option.some.inj h
    subst h
    exact w_iret C hw (v := v5) rfl rfl dX3_build_21
  unfold f3_build at h
  refine lv_iload_n hx hb dX3_build_0 rfl (lv_at hl 1 rfl) ?_
  refine w_Si C hw (As := [.int a1]) (rest := []) (c3_isCorner l G x m a1 _ rfl) ks_X3_isCorner ml_X3_40 ⟨rfl, rfl⟩ ⟨Nat.le_of_ble_eq_true rfl, Nat.le_of_ble_eq_true rfl⟩ ⟨Nat.zero_le _, Nat.zero_le _⟩ rfl rfl (Nat.le_of_ble_eq_true rfl) (lv_sub hl [] rfl) dX3_build_1 (fun H locs hw => ?_)
  refine lv_if_eq (tgt := 15) hx hb dX3_build_4 (by decide) (fun hc => ?_) (fun hc => ?_)
  · replace h := p_t hc h
    exact B15 x _ _ _ (lv_sub hl [0] rfl) hw h
  · replace h := p_f hc h
    refine lv_iload_n hx hb dX3_build_7 rfl (lv_at hl 2 rfl) ?_
    refine lv_iload_n hx hb dX3_build_8 rfl (lv_at hl 3 rfl) ?_
    obtain ⟨v1, hq, h⟩ := p_bd h
    refine w_Si C hw (As := [.int a2, .int a3]) (rest := []) (c3_isTrait l G x m a2 a3 v1 hq) ks_X3_isTrait ml_X3_69 ⟨rfl, rfl⟩ ⟨Nat.le_of_ble_eq_true rfl, Nat.le_of_ble_eq_true rfl⟩ ⟨Nat.zero_le _, Nat.zero_le _⟩ rfl rfl (Nat.le_of_ble_eq_true rfl) (lv_sub hl [] rfl) dX3_build_9 (fun H locs hw => ?_)
    refine lv_if_ne (tgt := 22) hx hb dX3_build_12 (by decide) (fun hc => ?_) (fun hc => ?_)
    · replace h := p_f hc h
      refine lv_aload_n hx hb dX3_build_22 rfl (lv_at hl 0 rfl) ?_
      refine w_get C hw (v := .ref (gq G (1 + 4 * 0))) (k := 0) (wk_main G x m) rfl it_3 (by decide) fl_X3_10 rfl dX3_build_23 ?_
      refine lv_iload_n hx hb dX3_build_26 rfl (lv_at hl 1 rfl) ?_
      refine lv_iload_n hx hb dX3_build_27 rfl (lv_at hl 2 rfl) ?_
      obtain ⟨v2, hq, h⟩ := p_bd h
      refine w_Vi C hw (As := [.int a1, .int a2]) (rest := []) (c2_trait l G 0 (by decide) x m a1 a2 v2 hq) kv_X2_trait ml_X3_65 ⟨rfl, rfl⟩ ⟨Nat.le_of_ble_eq_true rfl, Nat.le_of_ble_eq_true rfl⟩ ⟨Nat.zero_le _, Nat.zero_le _⟩ (w_recv C hw (wk_town G x m (by decide)) rfl) rfl rfl (Nat.le_of_ble_eq_true rfl) (lv_sub hl [] rfl) dX3_build_28 (fun H locs hw => ?_)
      refine lv_istore (lv' := [(4, .int v2), (0, .ref (gq G 0)), (1, .int a1), (2, .int a2), (3, .int a3)]) hx hb dX3_build_31 hl (by decide) rfl (fun ls hl => ?_)
      refine lv_aload_n hx hb dX3_build_33 rfl (lv_at hl 1 rfl) ?_
      refine w_get C hw (v := .ref (gq G (1 + 4 * 0))) (k := 0) (wk_main G x m) rfl it_3 (by decide) fl_X3_10 rfl dX3_build_34 ?_
      refine lv_iload_n hx hb dX3_build_37 rfl (lv_at hl 2 rfl) ?_
      refine lv_iload_n hx hb dX3_build_38 rfl (lv_at hl 3 rfl) ?_
      refine lv_iload_n hx hb dX3_build_39 rfl (lv_at hl 4 rfl) ?_
      obtain ⟨z3, hq, h⟩ := p_bd h
      refine w_Vv C hw (As := [.int a1, .int a2, .int a3]) (rest := []) (c2_setTrait l G 0 (by decide) x m a1 a2 a3 z3 hq) kv_X2_setTrait ml_X3_73 ⟨rfl, rfl⟩ ⟨Nat.le_of_ble_eq_true rfl, Nat.le_of_ble_eq_true rfl⟩ ⟨Nat.zero_le _, Nat.zero_le _⟩ (w_recv C hw (wk_town G x m (by decide)) rfl) rfl rfl (Nat.le_of_ble_eq_true rfl) (lv_sub hl [] rfl) dX3_build_40 (fun H locs hw => ?_)
      refine lv_iload hx hb dX3_build_43 (lv_at hl 0 rfl) ?_
      replace h := Option.some.inj h
      subst h
      exact w_iret C hw (v := v2) rfl rfl dX3_build_45
    · replace h := p_t hc h
      exact B15 x _ _ _ (lv_sub hl [0] rfl) hw h

def f3_isKind  (a1 : Int32) : Int32 :=
  (f3_isWithin a1 (0 : Int32) (6 : Int32))
theorem bz_X3_isKind  (a1 : Int32) : f3_isKind a1 = 0 ∨ f3_isKind a1 = 1 := by
  unfold f3_isKind
  repeat' split
  all_goals first | exact Or.inl rfl | exact Or.inr rfl | exact bz_X3_isWithin _ _ _ 
set_option maxHeartbeats 4000000 in
set_option maxRecDepth 100000 in
theorem c3_isKind (l : Launch) (G : GT)  (x m : St) (a1 : Int32) (r : Int32) (h : f3_isKind a1 = r) : Mt l yX3_isKind cX3_isKind 1 (some .boolean) (rmF 1 22) G x m [.int a1] (some (.int r)) x m := by
  refine Mt.of (by decide) (Nat.le_of_ble_eq_true rfl) ?_
  intro p e s mm args below meth c C ls hl hw
  have hx := C.1
  have hb := C.2.1
  have hown := C.2.2.2.2.1
  replace hl : lv_has ls 1 [(0, .int a1)] := hl
  unfold f3_isKind at h
  refine lv_iload_n hx hb dX3_isKind_0 rfl (lv_at hl 0 rfl) ?_
  refine lv_iconst (v := (0 : Int32)) hx hb dX3_isKind_1 (by decide) ?_
  refine lv_bipush (v := (6 : Int32)) hx hb dX3_isKind_2 (by decide) ?_
  refine w_Si C hw (As := [.int a1, .int (0 : Int32), .int (6 : Int32)]) (rest := []) (c3_isWithin l G x m a1 (0 : Int32) (6 : Int32) _ rfl) ks_X3_isWithin ml_X3_44 ⟨rfl, rfl⟩ ⟨Nat.le_of_ble_eq_true rfl, Nat.le_of_ble_eq_true rfl⟩ ⟨Nat.zero_le _, Nat.zero_le _⟩ rfl rfl (Nat.le_of_ble_eq_true rfl) (lv_sub hl [] rfl) dX3_isKind_4 (fun H locs hw => ?_)
  subst h
  exact w_iret C hw (v := (f3_isWithin a1 (0 : Int32) (6 : Int32))) rfl (nz_b (bz_X3_isWithin a1 (0 : Int32) (6 : Int32))) dX3_isKind_7

def f3_says_b14    (x : St) : Option (Int32 × St) :=
  (f3_finding (-1000001 : Int32) x).bind fun q => match q with
  | (v6, z5) =>
    some (v6, z5)
def f3_says  (a1 : Int32) (a2 : Int32) (x : St) : Option (Int32 × St) :=
  if (f3_isKind a1) = 0 then
    f3_says_b14 x
  else
    if (f3_isCorner a2) = 0 then
      f3_says_b14 x
    else
      if (f2_isFull 0 x) = 0 then
        (f2_addWhisper 0 a1 a2 (1 : Int32) x).bind fun q => match q with
        | (v2, z1) =>
          some (v2, z1)
      else
        (f3_finding (-1000002 : Int32) x).bind fun q => match q with
        | (v4, z3) =>
          some (v4, z3)
set_option maxHeartbeats 4000000 in
set_option maxRecDepth 100000 in
theorem c3_says (l : Launch) (G : GT)  (x m : St) (a1 : Int32) (a2 : Int32) (r : Int32 × St) (h : f3_says a1 a2 x = some r) : Mt l yX3_says cX3_says 3 (some .int) (rmF 3 69) G x m [.ref (gq G 0), .int a1, .int a2] (some (.int r.1)) r.2 m := by
  refine Mt.of (by decide) (Nat.le_of_ble_eq_true rfl) ?_
  intro p e s mm args below meth c C ls hl hw
  have hx := C.1
  have hb := C.2.1
  have hown := C.2.2.2.2.1
  replace hl : lv_has ls 3 [(0, .ref (gq G 0)), (1, .int a1), (2, .int a2)] := hl
  have B14 : ∀  (x : St) (H : Heap) (locs : List Loc) (ls : Array Slot), lv_has ls 3 [(0, .ref (gq G 0))] → Wd G s x m H locs → f3_says_b14 x = some r → W p l e (rmF 3 69) s mm args below meth c H locs 0 0 (QE below G (some (.int r.1)) r.2 m args s) (F0 mm 14 ls []) := by
    intro  x H locs ls hl hw h
    unfold f3_says_b14 at h
    refine lv_aload_n hx hb dX3_says_14 rfl (lv_at hl 0 rfl) ?_
    refine lv_ldc hx hb hown (C.w kc_X3_48) dX3_says_15 ?_
    obtain ⟨⟨v6, z5⟩, hq, h⟩ := p_bd h
    dsimp only at h
    refine w_Vi C hw (As := [.int (-1000001 : Int32)]) (rest := []) (c3_finding l G x m (-1000001 : Int32) (v6, z5) hq) kv_X3_finding ml_X3_49 ⟨rfl, rfl⟩ ⟨Nat.le_of_ble_eq_true rfl, Nat.le_of_ble_eq_true rfl⟩ ⟨Nat.zero_le _, Nat.zero_le _⟩ (w_recv C hw (wk_main G x m) rfl) rfl rfl (Nat.le_of_ble_eq_true rfl) (lv_sub hl [] rfl) dX3_says_17 (fun H locs hw => ?_)
    replace h := Option.some.inj h
    subst h
    exact w_iret C hw (v := v6) rfl rfl dX3_says_20
  unfold f3_says at h
  refine lv_iload_n hx hb dX3_says_0 rfl (lv_at hl 1 rfl) ?_
  refine w_Si C hw (As := [.int a1]) (rest := []) (c3_isKind l G x m a1 _ rfl) ks_X3_isKind ml_X3_77 ⟨rfl, rfl⟩ ⟨Nat.le_of_ble_eq_true rfl, Nat.le_of_ble_eq_true rfl⟩ ⟨Nat.zero_le _, Nat.zero_le _⟩ rfl rfl (Nat.le_of_ble_eq_true rfl) (lv_sub hl [] rfl) dX3_says_1 (fun H locs hw => ?_)
  refine lv_if_eq (tgt := 14) hx hb dX3_says_4 (by decide) (fun hc => ?_) (fun hc => ?_)
  · replace h := p_t hc h
    exact B14 x _ _ _ (lv_sub hl [0] rfl) hw h
  · replace h := p_f hc h
    refine lv_iload_n hx hb dX3_says_7 rfl (lv_at hl 2 rfl) ?_
    refine w_Si C hw (As := [.int a2]) (rest := []) (c3_isCorner l G x m a2 _ rfl) ks_X3_isCorner ml_X3_40 ⟨rfl, rfl⟩ ⟨Nat.le_of_ble_eq_true rfl, Nat.le_of_ble_eq_true rfl⟩ ⟨Nat.zero_le _, Nat.zero_le _⟩ rfl rfl (Nat.le_of_ble_eq_true rfl) (lv_sub hl [] rfl) dX3_says_8 (fun H locs hw => ?_)
    refine lv_if_ne (tgt := 21) hx hb dX3_says_11 (by decide) (fun hc => ?_) (fun hc => ?_)
    · replace h := p_f hc h
      refine lv_aload_n hx hb dX3_says_21 rfl (lv_at hl 0 rfl) ?_
      refine w_get C hw (v := .ref (gq G (1 + 4 * 0))) (k := 0) (wk_main G x m) rfl it_3 (by decide) fl_X3_10 rfl dX3_says_22 ?_
      refine w_Vi C hw (As := []) (rest := []) (c2_isFull l G 0 (by decide) x m _ rfl) kv_X2_isFull ml_X3_80 ⟨rfl, rfl⟩ ⟨Nat.le_of_ble_eq_true rfl, Nat.le_of_ble_eq_true rfl⟩ ⟨Nat.zero_le _, Nat.zero_le _⟩ (w_recv C hw (wk_town G x m (by decide)) rfl) rfl rfl (Nat.le_of_ble_eq_true rfl) (lv_sub hl [] rfl) dX3_says_25 (fun H locs hw => ?_)
      refine lv_if_eq (tgt := 38) hx hb dX3_says_28 (by decide) (fun hc => ?_) (fun hc => ?_)
      · replace h := p_t hc h
        refine lv_aload_n hx hb dX3_says_38 rfl (lv_at hl 0 rfl) ?_
        refine w_get C hw (v := .ref (gq G (1 + 4 * 0))) (k := 0) (wk_main G x m) rfl it_3 (by decide) fl_X3_10 rfl dX3_says_39 ?_
        refine lv_iload_n hx hb dX3_says_42 rfl (lv_at hl 1 rfl) ?_
        refine lv_iload_n hx hb dX3_says_43 rfl (lv_at hl 2 rfl) ?_
        refine lv_iconst (v := (1 : Int32)) hx hb dX3_says_44 (by decide) ?_
        obtain ⟨⟨v2, z1⟩, hq, h⟩ := p_bd h
        dsimp only at h
        refine w_Vi C hw (As := [.int a1, .int a2, .int (1 : Int32)]) (rest := []) (c2_addWhisper l G 0 (by decide) x m a1 a2 (1 : Int32) (v2, z1) hq) kv_X2_addWhisper ml_X3_85 ⟨rfl, rfl⟩ ⟨Nat.le_of_ble_eq_true rfl, Nat.le_of_ble_eq_true rfl⟩ ⟨Nat.zero_le _, Nat.zero_le _⟩ (w_recv C hw (wk_town G x m (by decide)) rfl) rfl rfl (Nat.le_of_ble_eq_true rfl) (lv_sub hl [] rfl) dX3_says_45 (fun H locs hw => ?_)
        replace h := Option.some.inj h
        subst h
        exact w_iret C hw (v := v2) rfl rfl dX3_says_48
      · replace h := p_f hc h
        refine lv_aload_n hx hb dX3_says_31 rfl (lv_at hl 0 rfl) ?_
        refine lv_ldc hx hb hown (C.w kc_X3_84) dX3_says_32 ?_
        obtain ⟨⟨v4, z3⟩, hq, h⟩ := p_bd h
        dsimp only at h
        refine w_Vi C hw (As := [.int (-1000002 : Int32)]) (rest := []) (c3_finding l G x m (-1000002 : Int32) (v4, z3) hq) kv_X3_finding ml_X3_49 ⟨rfl, rfl⟩ ⟨Nat.le_of_ble_eq_true rfl, Nat.le_of_ble_eq_true rfl⟩ ⟨Nat.zero_le _, Nat.zero_le _⟩ (w_recv C hw (wk_main G x m) rfl) rfl rfl (Nat.le_of_ble_eq_true rfl) (lv_sub hl [] rfl) dX3_says_34 (fun H locs hw => ?_)
        replace h := Option.some.inj h
        subst h
        exact w_iret C hw (v := v4) rfl rfl dX3_says_37
    · replace h := p_t hc h
      exact B14 x _ _ _ (lv_sub hl [0] rfl) hw h

def f3_of_b20    (x : St) : Option (Int32 × St) :=
  (f3_finding (-1000001 : Int32) x).bind fun q => match q with
  | (v5, z4) =>
    some (v5, z4)
def f3_of  (a1 : Int32) (a2 : Int32) (x : St) : Option (Int32 × St) :=
  if (f2_hasWhisper 0 a1 x) = 0 then
    f3_of_b20 x
  else
    if (f3_isWithin a2 (0 : Int32) (4 : Int32)) = 0 then
      f3_of_b20 x
    else
      if a2 = (3 : Int32) then
        (f2_speedOf 0 a1 x).bind fun v1 =>
        some (v1, x)
      else
      if a2 = (4 : Int32) then
        (f2_gathersOf 0 a1 x).bind fun v2 =>
        some (v2, x)
      else
        (f2_quality 0 a1 a2 x).bind fun v3 =>
        some (v3, x)
set_option maxHeartbeats 4000000 in
set_option maxRecDepth 100000 in
theorem c3_of (l : Launch) (G : GT)  (x m : St) (a1 : Int32) (a2 : Int32) (r : Int32 × St) (h : f3_of a1 a2 x = some r) : Mt l yX3_of cX3_of 3 (some .int) (rmF 3 71) G x m [.ref (gq G 0), .int a1, .int a2] (some (.int r.1)) r.2 m := by
  refine Mt.of (by decide) (Nat.le_of_ble_eq_true rfl) ?_
  intro p e s mm args below meth c C ls hl hw
  have hx := C.1
  have hb := C.2.1
  have hown := C.2.2.2.2.1
  replace hl : lv_has ls 3 [(0, .ref (gq G 0)), (1, .int a1), (2, .int a2)] := hl
  have B20 : ∀  (x : St) (H : Heap) (locs : List Loc) (ls : Array Slot), lv_has ls 3 [(0, .ref (gq G 0))] → Wd G s x m H locs → f3_of_b20 x = some r → W p l e (rmF 3 71) s mm args below meth c H locs 0 0 (QE below G (some (.int r.1)) r.2 m args s) (F0 mm 20 ls []) := by
    intro  x H locs ls hl hw h
    unfold f3_of_b20 at h
    refine lv_aload_n hx hb dX3_of_20 rfl (lv_at hl 0 rfl) ?_
    refine lv_ldc hx hb hown (C.w kc_X3_48) dX3_of_21 ?_
    obtain ⟨⟨v5, z4⟩, hq, h⟩ := p_bd h
    dsimp only at h
    refine w_Vi C hw (As := [.int (-1000001 : Int32)]) (rest := []) (c3_finding l G x m (-1000001 : Int32) (v5, z4) hq) kv_X3_finding ml_X3_49 ⟨rfl, rfl⟩ ⟨Nat.le_of_ble_eq_true rfl, Nat.le_of_ble_eq_true rfl⟩ ⟨Nat.zero_le _, Nat.zero_le _⟩ (w_recv C hw (wk_main G x m) rfl) rfl rfl (Nat.le_of_ble_eq_true rfl) (lv_sub hl [] rfl) dX3_of_23 (fun H locs hw => ?_)
    replace h := Option.some.inj h
    subst h
    exact w_iret C hw (v := v5) rfl rfl dX3_of_26
  unfold f3_of at h
  refine lv_aload_n hx hb dX3_of_0 rfl (lv_at hl 0 rfl) ?_
  refine w_get C hw (v := .ref (gq G (1 + 4 * 0))) (k := 0) (wk_main G x m) rfl it_3 (by decide) fl_X3_10 rfl dX3_of_1 ?_
  refine lv_iload_n hx hb dX3_of_4 rfl (lv_at hl 1 rfl) ?_
  refine w_Vi C hw (As := [.int a1]) (rest := []) (c2_hasWhisper l G 0 (by decide) x m a1 _ rfl) kv_X2_hasWhisper ml_X3_89 ⟨rfl, rfl⟩ ⟨Nat.le_of_ble_eq_true rfl, Nat.le_of_ble_eq_true rfl⟩ ⟨Nat.zero_le _, Nat.zero_le _⟩ (w_recv C hw (wk_town G x m (by decide)) rfl) rfl rfl (Nat.le_of_ble_eq_true rfl) (lv_sub hl [] rfl) dX3_of_5 (fun H locs hw => ?_)
  refine lv_if_eq (tgt := 20) hx hb dX3_of_8 (by decide) (fun hc => ?_) (fun hc => ?_)
  · replace h := p_t hc h
    exact B20 x _ _ _ (lv_sub hl [0] rfl) hw h
  · replace h := p_f hc h
    refine lv_iload_n hx hb dX3_of_11 rfl (lv_at hl 2 rfl) ?_
    refine lv_iconst (v := (0 : Int32)) hx hb dX3_of_12 (by decide) ?_
    refine lv_iconst (v := (4 : Int32)) hx hb dX3_of_13 (by decide) ?_
    refine w_Si C hw (As := [.int a2, .int (0 : Int32), .int (4 : Int32)]) (rest := []) (c3_isWithin l G x m a2 (0 : Int32) (4 : Int32) _ rfl) ks_X3_isWithin ml_X3_44 ⟨rfl, rfl⟩ ⟨Nat.le_of_ble_eq_true rfl, Nat.le_of_ble_eq_true rfl⟩ ⟨Nat.zero_le _, Nat.zero_le _⟩ rfl rfl (Nat.le_of_ble_eq_true rfl) (lv_sub hl [] rfl) dX3_of_14 (fun H locs hw => ?_)
    refine lv_if_ne (tgt := 27) hx hb dX3_of_17 (by decide) (fun hc => ?_) (fun hc => ?_)
    · replace h := p_f hc h
      refine lv_iload_n hx hb dX3_of_27 rfl (lv_at hl 2 rfl) ?_
      by_cases hc0 : a2 = (3 : Int32)
      · replace h := p_t hc0 h
        refine lv_lookup (tgt := 56) hx hb dX3_of_28 (by decide) (by rw [hc0] <;> rfl) (by decide) ?_
        refine lv_aload_n hx hb dX3_of_56 rfl (lv_at hl 0 rfl) ?_
        refine w_get C hw (v := .ref (gq G (1 + 4 * 0))) (k := 0) (wk_main G x m) rfl it_3 (by decide) fl_X3_10 rfl dX3_of_57 ?_
        refine lv_iload_n hx hb dX3_of_60 rfl (lv_at hl 1 rfl) ?_
        obtain ⟨v1, hq, h⟩ := p_bd h
        refine w_Vi C hw (As := [.int a1]) (rest := []) (c2_speedOf l G 0 (by decide) x m a1 v1 hq) kv_X2_speedOf ml_X3_92 ⟨rfl, rfl⟩ ⟨Nat.le_of_ble_eq_true rfl, Nat.le_of_ble_eq_true rfl⟩ ⟨Nat.zero_le _, Nat.zero_le _⟩ (w_recv C hw (wk_town G x m (by decide)) rfl) rfl rfl (Nat.le_of_ble_eq_true rfl) (lv_sub hl [] rfl) dX3_of_61 (fun H locs hw => ?_)
        replace h := Option.some.inj h
        subst h
        exact w_iret C hw (v := v1) rfl rfl dX3_of_64
      · replace h := p_f hc0 h
        by_cases hc1 : a2 = (4 : Int32)
        · replace h := p_t hc1 h
          refine lv_lookup (tgt := 65) hx hb dX3_of_28 (by decide) (by rw [hc1] <;> rfl) (by decide) ?_
          refine lv_aload_n hx hb dX3_of_65 rfl (lv_at hl 0 rfl) ?_
          refine w_get C hw (v := .ref (gq G (1 + 4 * 0))) (k := 0) (wk_main G x m) rfl it_3 (by decide) fl_X3_10 rfl dX3_of_66 ?_
          refine lv_iload_n hx hb dX3_of_69 rfl (lv_at hl 1 rfl) ?_
          obtain ⟨v2, hq, h⟩ := p_bd h
          refine w_Vi C hw (As := [.int a1]) (rest := []) (c2_gathersOf l G 0 (by decide) x m a1 v2 hq) kv_X2_gathersOf ml_X3_95 ⟨rfl, rfl⟩ ⟨Nat.le_of_ble_eq_true rfl, Nat.le_of_ble_eq_true rfl⟩ ⟨Nat.zero_le _, Nat.zero_le _⟩ (w_recv C hw (wk_town G x m (by decide)) rfl) rfl rfl (Nat.le_of_ble_eq_true rfl) (lv_sub hl [] rfl) dX3_of_70 (fun H locs hw => ?_)
          replace h := Option.some.inj h
          subst h
          exact w_iret C hw (v := v2) rfl rfl dX3_of_73
        · replace h := p_f hc1 h
          refine lv_lookup (tgt := 74) hx hb dX3_of_28 (by decide) (show Op.lookupswitch.offset [(3, 28), (4, 37)] (46) (a2).toInt = 46 by rw [lv_osw (a := 3) hc0 rfl, lv_osw (a := 4) hc1 rfl] <;> rfl) (by decide) ?_
          refine lv_aload_n hx hb dX3_of_74 rfl (lv_at hl 0 rfl) ?_
          refine w_get C hw (v := .ref (gq G (1 + 4 * 0))) (k := 0) (wk_main G x m) rfl it_3 (by decide) fl_X3_10 rfl dX3_of_75 ?_
          refine lv_iload_n hx hb dX3_of_78 rfl (lv_at hl 1 rfl) ?_
          refine lv_iload_n hx hb dX3_of_79 rfl (lv_at hl 2 rfl) ?_
          obtain ⟨v3, hq, h⟩ := p_bd h
          refine w_Vi C hw (As := [.int a1, .int a2]) (rest := []) (c2_quality l G 0 (by decide) x m a1 a2 v3 hq) kv_X2_quality ml_X3_98 ⟨rfl, rfl⟩ ⟨Nat.le_of_ble_eq_true rfl, Nat.le_of_ble_eq_true rfl⟩ ⟨Nat.zero_le _, Nat.zero_le _⟩ (w_recv C hw (wk_town G x m (by decide)) rfl) rfl rfl (Nat.le_of_ble_eq_true rfl) (lv_sub hl [] rfl) dX3_of_80 (fun H locs hw => ?_)
          replace h := Option.some.inj h
          subst h
          exact w_iret C hw (v := v3) rfl rfl dX3_of_83
    · replace h := p_t hc h
      exact B20 x _ _ _ (lv_sub hl [0] rfl) hw h

def f3_change_b19    (x : St) : Option (Int32 × St) :=
  (f3_finding (-1000001 : Int32) x).bind fun q => match q with
  | (v5, z4) =>
    some (v5, z4)
def f3_change  (a1 : Int32) (a2 : Int32) (a3 : Int32) (x : St) : Option (Int32 × St) :=
  if (f2_hasWhisper 0 a1 x) = 0 then
    f3_change_b19 x
  else
    (f3_isQuality a2 a3 x).bind fun v1 =>
    if v1 = 0 then
      f3_change_b19 x
    else
      (f2_quality 0 a1 a2 x).bind fun v2 =>
      (f2_setQuality 0 a1 a2 a3 x).bind fun z3 =>
      some (v2, z3)
set_option maxHeartbeats 4000000 in
set_option maxRecDepth 100000 in
theorem c3_change (l : Launch) (G : GT)  (x m : St) (a1 : Int32) (a2 : Int32) (a3 : Int32) (r : Int32 × St) (h : f3_change a1 a2 a3 x = some r) : Mt l yX3_change cX3_change 5 (some .int) (rmF 2 45) G x m [.ref (gq G 0), .int a1, .int a2, .int a3] (some (.int r.1)) r.2 m := by
  refine Mt.of (by decide) (Nat.le_of_ble_eq_true rfl) ?_
  intro p e s mm args below meth c C ls hl hw
  have hx := C.1
  have hb := C.2.1
  have hown := C.2.2.2.2.1
  replace hl : lv_has ls 5 [(0, .ref (gq G 0)), (1, .int a1), (2, .int a2), (3, .int a3)] := hl
  have B19 : ∀  (x : St) (H : Heap) (locs : List Loc) (ls : Array Slot), lv_has ls 5 [(0, .ref (gq G 0))] → Wd G s x m H locs → f3_change_b19 x = some r → W p l e (rmF 2 45) s mm args below meth c H locs 0 0 (QE below G (some (.int r.1)) r.2 m args s) (F0 mm 19 ls []) := by
    intro  x H locs ls hl hw h
    unfold f3_change_b19 at h
    refine lv_aload_n hx hb dX3_change_19 rfl (lv_at hl 0 rfl) ?_
    refine lv_ldc hx hb hown (C.w kc_X3_48) dX3_change_20 ?_
    obtain ⟨⟨v5, z4⟩, hq, h⟩ := p_bd h
    dsimp only at h
    refine w_Vi C hw (As := [.int (-1000001 : Int32)]) (rest := []) (c3_finding l G x m (-1000001 : Int32) (v5, z4) hq) kv_X3_finding ml_X3_49 ⟨rfl, rfl⟩ ⟨Nat.le_of_ble_eq_true rfl, Nat.le_of_ble_eq_true rfl⟩ ⟨Nat.zero_le _, Nat.zero_le _⟩ (w_recv C hw (wk_main G x m) rfl) rfl rfl (Nat.le_of_ble_eq_true rfl) (lv_sub hl [] rfl) dX3_change_22 (fun H locs hw => ?_)
    replace h := Option.some.inj h
    subst h
    exact w_iret C hw (v := v5) rfl rfl dX3_change_25
  unfold f3_change at h
  refine lv_aload_n hx hb dX3_change_0 rfl (lv_at hl 0 rfl) ?_
  refine w_get C hw (v := .ref (gq G (1 + 4 * 0))) (k := 0) (wk_main G x m) rfl it_3 (by decide) fl_X3_10 rfl dX3_change_1 ?_
  refine lv_iload_n hx hb dX3_change_4 rfl (lv_at hl 1 rfl) ?_
  refine w_Vi C hw (As := [.int a1]) (rest := []) (c2_hasWhisper l G 0 (by decide) x m a1 _ rfl) kv_X2_hasWhisper ml_X3_89 ⟨rfl, rfl⟩ ⟨Nat.le_of_ble_eq_true rfl, Nat.le_of_ble_eq_true rfl⟩ ⟨Nat.zero_le _, Nat.zero_le _⟩ (w_recv C hw (wk_town G x m (by decide)) rfl) rfl rfl (Nat.le_of_ble_eq_true rfl) (lv_sub hl [] rfl) dX3_change_5 (fun H locs hw => ?_)
  refine lv_if_eq (tgt := 19) hx hb dX3_change_8 (by decide) (fun hc => ?_) (fun hc => ?_)
  · replace h := p_t hc h
    exact B19 x _ _ _ (lv_sub hl [0] rfl) hw h
  · replace h := p_f hc h
    refine lv_iload_n hx hb dX3_change_11 rfl (lv_at hl 2 rfl) ?_
    refine lv_iload_n hx hb dX3_change_12 rfl (lv_at hl 3 rfl) ?_
    obtain ⟨v1, hq, h⟩ := p_bd h
    refine w_Si C hw (As := [.int a2, .int a3]) (rest := []) (c3_isQuality l G x m a2 a3 v1 hq) ks_X3_isQuality ml_X3_101 ⟨rfl, rfl⟩ ⟨Nat.le_of_ble_eq_true rfl, Nat.le_of_ble_eq_true rfl⟩ ⟨Nat.zero_le _, Nat.zero_le _⟩ rfl rfl (Nat.le_of_ble_eq_true rfl) (lv_sub hl [] rfl) dX3_change_13 (fun H locs hw => ?_)
    refine lv_if_ne (tgt := 26) hx hb dX3_change_16 (by decide) (fun hc => ?_) (fun hc => ?_)
    · replace h := p_f hc h
      refine lv_aload_n hx hb dX3_change_26 rfl (lv_at hl 0 rfl) ?_
      refine w_get C hw (v := .ref (gq G (1 + 4 * 0))) (k := 0) (wk_main G x m) rfl it_3 (by decide) fl_X3_10 rfl dX3_change_27 ?_
      refine lv_iload_n hx hb dX3_change_30 rfl (lv_at hl 1 rfl) ?_
      refine lv_iload_n hx hb dX3_change_31 rfl (lv_at hl 2 rfl) ?_
      obtain ⟨v2, hq, h⟩ := p_bd h
      refine w_Vi C hw (As := [.int a1, .int a2]) (rest := []) (c2_quality l G 0 (by decide) x m a1 a2 v2 hq) kv_X2_quality ml_X3_98 ⟨rfl, rfl⟩ ⟨Nat.le_of_ble_eq_true rfl, Nat.le_of_ble_eq_true rfl⟩ ⟨Nat.zero_le _, Nat.zero_le _⟩ (w_recv C hw (wk_town G x m (by decide)) rfl) rfl rfl (Nat.le_of_ble_eq_true rfl) (lv_sub hl [] rfl) dX3_change_32 (fun H locs hw => ?_)
      refine lv_istore (lv' := [(4, .int v2), (0, .ref (gq G 0)), (1, .int a1), (2, .int a2), (3, .int a3)]) hx hb dX3_change_35 hl (by decide) rfl (fun ls hl => ?_)
      refine lv_aload_n hx hb dX3_change_37 rfl (lv_at hl 1 rfl) ?_
      refine w_get C hw (v := .ref (gq G (1 + 4 * 0))) (k := 0) (wk_main G x m) rfl it_3 (by decide) fl_X3_10 rfl dX3_change_38 ?_
      refine lv_iload_n hx hb dX3_change_41 rfl (lv_at hl 2 rfl) ?_
      refine lv_iload_n hx hb dX3_change_42 rfl (lv_at hl 3 rfl) ?_
      refine lv_iload_n hx hb dX3_change_43 rfl (lv_at hl 4 rfl) ?_
      obtain ⟨z3, hq, h⟩ := p_bd h
      refine w_Vv C hw (As := [.int a1, .int a2, .int a3]) (rest := []) (c2_setQuality l G 0 (by decide) x m a1 a2 a3 z3 hq) kv_X2_setQuality ml_X3_104 ⟨rfl, rfl⟩ ⟨Nat.le_of_ble_eq_true rfl, Nat.le_of_ble_eq_true rfl⟩ ⟨Nat.zero_le _, Nat.zero_le _⟩ (w_recv C hw (wk_town G x m (by decide)) rfl) rfl rfl (Nat.le_of_ble_eq_true rfl) (lv_sub hl [] rfl) dX3_change_44 (fun H locs hw => ?_)
      refine lv_iload hx hb dX3_change_47 (lv_at hl 0 rfl) ?_
      replace h := Option.some.inj h
      subst h
      exact w_iret C hw (v := v2) rfl rfl dX3_change_49
    · replace h := p_t hc h
      exact B19 x _ _ _ (lv_sub hl [0] rfl) hw h

def f3_isSet  (a1 : Int32) : Int32 :=
  (f3_isWithin a1 (0 : Int32) (65535 : Int32))
theorem bz_X3_isSet  (a1 : Int32) : f3_isSet a1 = 0 ∨ f3_isSet a1 = 1 := by
  unfold f3_isSet
  repeat' split
  all_goals first | exact Or.inl rfl | exact Or.inr rfl | exact bz_X3_isWithin _ _ _ 
set_option maxHeartbeats 4000000 in
set_option maxRecDepth 100000 in
theorem c3_isSet (l : Launch) (G : GT)  (x m : St) (a1 : Int32) (r : Int32) (h : f3_isSet a1 = r) : Mt l yX3_isSet cX3_isSet 1 (some .boolean) (rmF 1 22) G x m [.int a1] (some (.int r)) x m := by
  refine Mt.of (by decide) (Nat.le_of_ble_eq_true rfl) ?_
  intro p e s mm args below meth c C ls hl hw
  have hx := C.1
  have hb := C.2.1
  have hown := C.2.2.2.2.1
  replace hl : lv_has ls 1 [(0, .int a1)] := hl
  unfold f3_isSet at h
  refine lv_iload_n hx hb dX3_isSet_0 rfl (lv_at hl 0 rfl) ?_
  refine lv_iconst (v := (0 : Int32)) hx hb dX3_isSet_1 (by decide) ?_
  refine lv_ldcw hx hb hown (C.w kc_X3_271) dX3_isSet_2 ?_
  refine w_Si C hw (As := [.int a1, .int (0 : Int32), .int (65535 : Int32)]) (rest := []) (c3_isWithin l G x m a1 (0 : Int32) (65535 : Int32) _ rfl) ks_X3_isWithin ml_X3_44 ⟨rfl, rfl⟩ ⟨Nat.le_of_ble_eq_true rfl, Nat.le_of_ble_eq_true rfl⟩ ⟨Nat.zero_le _, Nat.zero_le _⟩ rfl rfl (Nat.le_of_ble_eq_true rfl) (lv_sub hl [] rfl) dX3_isSet_5 (fun H locs hw => ?_)
  subst h
  exact w_iret C hw (v := (f3_isWithin a1 (0 : Int32) (65535 : Int32))) rfl (nz_b (bz_X3_isWithin a1 (0 : Int32) (65535 : Int32))) dX3_isSet_8

def f3_aunts  (a1 : Int32) (x : St) : Option (Int32 × St) :=
  if (f3_isSet a1) = 0 then
    (f3_finding (-1000001 : Int32) x).bind fun q => match q with
    | (v2, z1) =>
      some (v2, z1)
  else
    some ((x (1 + 4 * 0) 4), (up x (1 + 4 * 0) 4 a1))
set_option maxHeartbeats 4000000 in
set_option maxRecDepth 100000 in
theorem c3_aunts (l : Launch) (G : GT)  (x m : St) (a1 : Int32) (r : Int32 × St) (h : f3_aunts a1 x = some r) : Mt l yX3_aunts cX3_aunts 3 (some .int) (rmF 2 42) G x m [.ref (gq G 0), .int a1] (some (.int r.1)) r.2 m := by
  refine Mt.of (by decide) (Nat.le_of_ble_eq_true rfl) ?_
  intro p e s mm args below meth c C ls hl hw
  have hx := C.1
  have hb := C.2.1
  have hown := C.2.2.2.2.1
  replace hl : lv_has ls 3 [(0, .ref (gq G 0)), (1, .int a1)] := hl
  unfold f3_aunts at h
  refine lv_iload_n hx hb dX3_aunts_0 rfl (lv_at hl 1 rfl) ?_
  refine w_Si C hw (As := [.int a1]) (rest := []) (c3_isSet l G x m a1 _ rfl) ks_X3_isSet ml_X3_107 ⟨rfl, rfl⟩ ⟨Nat.le_of_ble_eq_true rfl, Nat.le_of_ble_eq_true rfl⟩ ⟨Nat.zero_le _, Nat.zero_le _⟩ rfl rfl (Nat.le_of_ble_eq_true rfl) (lv_sub hl [] rfl) dX3_aunts_1 (fun H locs hw => ?_)
  refine lv_if_ne (tgt := 14) hx hb dX3_aunts_4 (by decide) (fun hc => ?_) (fun hc => ?_)
  · replace h := p_f hc h
    refine lv_aload_n hx hb dX3_aunts_14 rfl (lv_at hl 0 rfl) ?_
    refine w_get C hw (v := .ref (gq G (1 + 4 * 0))) (k := 0) (wk_main G x m) rfl it_3 (by decide) fl_X3_10 rfl dX3_aunts_15 ?_
    refine w_getN C hw (v := .int (x (1 + 4 * 0) 4)) (k := 4) (wk_town G x m (by decide)) rfl it_2 (by decide) (List.mem_of_getElem? (i := 2) rfl) rfl dX3_aunts_18 ?_
    refine lv_istore_n (lv' := [(2, .int (x (1 + 4 * 0) 4)), (0, .ref (gq G 0)), (1, .int a1)]) hx hb dX3_aunts_21 rfl hl (by decide) rfl (fun ls hl => ?_)
    refine lv_aload_n hx hb dX3_aunts_22 rfl (lv_at hl 1 rfl) ?_
    refine w_get C hw (v := .ref (gq G (1 + 4 * 0))) (k := 0) (wk_main G x m) rfl it_3 (by decide) fl_X3_10 rfl dX3_aunts_23 ?_
    refine lv_iload_n hx hb dX3_aunts_26 rfl (lv_at hl 2 rfl) ?_
    refine w_putN C hw (k := 4) tyX2 tyX2_ok nmX2 (wk_town G x m (by decide)) rfl it_2 (by decide) (List.mem_of_getElem? (i := 2) rfl) rfl (ty := .int) rfl rfl rfl (Nat.le_of_ble_eq_true rfl) (ws_town G x m (by decide) 4 (by decide) _) dX3_aunts_27 (fun H locs hw => ?_)
    refine lv_iload_n hx hb dX3_aunts_30 rfl (lv_at hl 0 rfl) ?_
    replace h := Option.some.inj h
    subst h
    exact w_iret C hw (v := (x (1 + 4 * 0) 4)) rfl rfl dX3_aunts_31
  · replace h := p_t hc h
    refine lv_aload_n hx hb dX3_aunts_7 rfl (lv_at hl 0 rfl) ?_
    refine lv_ldc hx hb hown (C.w kc_X3_48) dX3_aunts_8 ?_
    obtain ⟨⟨v2, z1⟩, hq, h⟩ := p_bd h
    dsimp only at h
    refine w_Vi C hw (As := [.int (-1000001 : Int32)]) (rest := []) (c3_finding l G x m (-1000001 : Int32) (v2, z1) hq) kv_X3_finding ml_X3_49 ⟨rfl, rfl⟩ ⟨Nat.le_of_ble_eq_true rfl, Nat.le_of_ble_eq_true rfl⟩ ⟨Nat.zero_le _, Nat.zero_le _⟩ (w_recv C hw (wk_main G x m) rfl) rfl rfl (Nat.le_of_ble_eq_true rfl) (lv_sub hl [] rfl) dX3_aunts_10 (fun H locs hw => ?_)
    replace h := Option.some.inj h
    subst h
    exact w_iret C hw (v := v2) rfl rfl dX3_aunts_13

def f3_frost  (a1 : Int32) (x : St) : Option (Int32 × St) :=
  if (f3_isWithin a1 (0 : Int32) (1 : Int32)) = 0 then
    (f3_finding (-1000001 : Int32) x).bind fun q => match q with
    | (v2, z1) =>
      some (v2, z1)
  else
    some ((x (1 + 4 * 0) 5), (up x (1 + 4 * 0) 5 a1))
set_option maxHeartbeats 4000000 in
set_option maxRecDepth 100000 in
theorem c3_frost (l : Launch) (G : GT)  (x m : St) (a1 : Int32) (r : Int32 × St) (h : f3_frost a1 x = some r) : Mt l yX3_frost cX3_frost 3 (some .int) (rmF 1 22) G x m [.ref (gq G 0), .int a1] (some (.int r.1)) r.2 m := by
  refine Mt.of (by decide) (Nat.le_of_ble_eq_true rfl) ?_
  intro p e s mm args below meth c C ls hl hw
  have hx := C.1
  have hb := C.2.1
  have hown := C.2.2.2.2.1
  replace hl : lv_has ls 3 [(0, .ref (gq G 0)), (1, .int a1)] := hl
  unfold f3_frost at h
  refine lv_iload_n hx hb dX3_frost_0 rfl (lv_at hl 1 rfl) ?_
  refine lv_iconst (v := (0 : Int32)) hx hb dX3_frost_1 (by decide) ?_
  refine lv_iconst (v := (1 : Int32)) hx hb dX3_frost_2 (by decide) ?_
  refine w_Si C hw (As := [.int a1, .int (0 : Int32), .int (1 : Int32)]) (rest := []) (c3_isWithin l G x m a1 (0 : Int32) (1 : Int32) _ rfl) ks_X3_isWithin ml_X3_44 ⟨rfl, rfl⟩ ⟨Nat.le_of_ble_eq_true rfl, Nat.le_of_ble_eq_true rfl⟩ ⟨Nat.zero_le _, Nat.zero_le _⟩ rfl rfl (Nat.le_of_ble_eq_true rfl) (lv_sub hl [] rfl) dX3_frost_3 (fun H locs hw => ?_)
  refine lv_if_ne (tgt := 16) hx hb dX3_frost_6 (by decide) (fun hc => ?_) (fun hc => ?_)
  · replace h := p_f hc h
    refine lv_aload_n hx hb dX3_frost_16 rfl (lv_at hl 0 rfl) ?_
    refine w_get C hw (v := .ref (gq G (1 + 4 * 0))) (k := 0) (wk_main G x m) rfl it_3 (by decide) fl_X3_10 rfl dX3_frost_17 ?_
    refine w_getN C hw (v := .int (x (1 + 4 * 0) 5)) (k := 5) (wk_town G x m (by decide)) rfl it_2 (by decide) (List.mem_of_getElem? (i := 4) rfl) rfl dX3_frost_20 ?_
    refine lv_istore_n (lv' := [(2, .int (x (1 + 4 * 0) 5)), (0, .ref (gq G 0)), (1, .int a1)]) hx hb dX3_frost_23 rfl hl (by decide) rfl (fun ls hl => ?_)
    refine lv_aload_n hx hb dX3_frost_24 rfl (lv_at hl 1 rfl) ?_
    refine w_get C hw (v := .ref (gq G (1 + 4 * 0))) (k := 0) (wk_main G x m) rfl it_3 (by decide) fl_X3_10 rfl dX3_frost_25 ?_
    refine lv_iload_n hx hb dX3_frost_28 rfl (lv_at hl 2 rfl) ?_
    refine w_putN C hw (k := 5) tyX2 tyX2_ok nmX2 (wk_town G x m (by decide)) rfl it_2 (by decide) (List.mem_of_getElem? (i := 4) rfl) rfl (ty := .int) rfl rfl rfl (Nat.le_of_ble_eq_true rfl) (ws_town G x m (by decide) 5 (by decide) _) dX3_frost_29 (fun H locs hw => ?_)
    refine lv_iload_n hx hb dX3_frost_32 rfl (lv_at hl 0 rfl) ?_
    replace h := Option.some.inj h
    subst h
    exact w_iret C hw (v := (x (1 + 4 * 0) 5)) rfl rfl dX3_frost_33
  · replace h := p_t hc h
    refine lv_aload_n hx hb dX3_frost_9 rfl (lv_at hl 0 rfl) ?_
    refine lv_ldc hx hb hown (C.w kc_X3_48) dX3_frost_10 ?_
    obtain ⟨⟨v2, z1⟩, hq, h⟩ := p_bd h
    dsimp only at h
    refine w_Vi C hw (As := [.int (-1000001 : Int32)]) (rest := []) (c3_finding l G x m (-1000001 : Int32) (v2, z1) hq) kv_X3_finding ml_X3_49 ⟨rfl, rfl⟩ ⟨Nat.le_of_ble_eq_true rfl, Nat.le_of_ble_eq_true rfl⟩ ⟨Nat.zero_le _, Nat.zero_le _⟩ (w_recv C hw (wk_main G x m) rfl) rfl rfl (Nat.le_of_ble_eq_true rfl) (lv_sub hl [] rfl) dX3_frost_12 (fun H locs hw => ?_)
    replace h := Option.some.inj h
    subst h
    exact w_iret C hw (v := v2) rfl rfl dX3_frost_15

def f3_go  (a1 : Int32) (x : St) : Option (Int32 × St) :=
  if (f3_isWithin a1 (1 : Int32) (60 : Int32)) = 0 then
    (f3_finding (-1000001 : Int32) x).bind fun q => match q with
    | (v7, z6) =>
      some (v7, z6)
  else
    if ((x (1 + 4 * 0) 6) + a1) ≤ (99999 : Int32) then
      (f2_pass 0 a1 x).bind fun q => match q with
      | (v2, z1) =>
        (f2_loudAt 0 (15 : Int32) z1).bind fun v3 =>
        some (v3, z1)
    else
      (f3_finding (-1000005 : Int32) x).bind fun q => match q with
      | (v5, z4) =>
        some (v5, z4)
set_option maxHeartbeats 4000000 in
set_option maxRecDepth 100000 in
theorem c3_go (l : Launch) (G : GT)  (x m : St) (a1 : Int32) (r : Int32 × St) (h : f3_go a1 x = some r) : Mt l yX3_go cX3_go 2 (some .int) (rmF 5 122) G x m [.ref (gq G 0), .int a1] (some (.int r.1)) r.2 m := by
  refine Mt.of (by decide) (Nat.le_of_ble_eq_true rfl) ?_
  intro p e s mm args below meth c C ls hl hw
  have hx := C.1
  have hb := C.2.1
  have hown := C.2.2.2.2.1
  replace hl : lv_has ls 2 [(0, .ref (gq G 0)), (1, .int a1)] := hl
  unfold f3_go at h
  refine lv_iload_n hx hb dX3_go_0 rfl (lv_at hl 1 rfl) ?_
  refine lv_iconst (v := (1 : Int32)) hx hb dX3_go_1 (by decide) ?_
  refine lv_bipush (v := (60 : Int32)) hx hb dX3_go_2 (by decide) ?_
  refine w_Si C hw (As := [.int a1, .int (1 : Int32), .int (60 : Int32)]) (rest := []) (c3_isWithin l G x m a1 (1 : Int32) (60 : Int32) _ rfl) ks_X3_isWithin ml_X3_44 ⟨rfl, rfl⟩ ⟨Nat.le_of_ble_eq_true rfl, Nat.le_of_ble_eq_true rfl⟩ ⟨Nat.zero_le _, Nat.zero_le _⟩ rfl rfl (Nat.le_of_ble_eq_true rfl) (lv_sub hl [] rfl) dX3_go_4 (fun H locs hw => ?_)
  refine lv_if_ne (tgt := 17) hx hb dX3_go_7 (by decide) (fun hc => ?_) (fun hc => ?_)
  · replace h := p_f hc h
    refine lv_aload_n hx hb dX3_go_17 rfl (lv_at hl 0 rfl) ?_
    refine w_get C hw (v := .ref (gq G (1 + 4 * 0))) (k := 0) (wk_main G x m) rfl it_3 (by decide) fl_X3_10 rfl dX3_go_18 ?_
    refine w_getN C hw (v := .int (x (1 + 4 * 0) 6)) (k := 6) (wk_town G x m (by decide)) rfl it_2 (by decide) (List.mem_of_getElem? (i := 5) rfl) rfl dX3_go_21 ?_
    refine lv_iload_n hx hb dX3_go_24 rfl (lv_at hl 1 rfl) ?_
    refine lv_iadd hx hb dX3_go_25 ?_
    refine lv_ldc hx hb hown (C.w kc_X3_120) dX3_go_26 ?_
    refine lv_icmp_le (tgt := 38) hx hb dX3_go_28 (by decide) (fun hc => ?_) (fun hc => ?_)
    · replace h := p_t hc h
      refine lv_aload_n hx hb dX3_go_38 rfl (lv_at hl 0 rfl) ?_
      refine w_get C hw (v := .ref (gq G (1 + 4 * 0))) (k := 0) (wk_main G x m) rfl it_3 (by decide) fl_X3_10 rfl dX3_go_39 ?_
      refine lv_iload_n hx hb dX3_go_42 rfl (lv_at hl 1 rfl) ?_
      obtain ⟨⟨v2, z1⟩, hq, h⟩ := p_bd h
      dsimp only at h
      refine w_Vi C hw (As := [.int a1]) (rest := []) (c2_pass l G 0 (by decide) x m a1 (v2, z1) hq) kv_X2_pass ml_X3_122 ⟨rfl, rfl⟩ ⟨Nat.le_of_ble_eq_true rfl, Nat.le_of_ble_eq_true rfl⟩ ⟨Nat.zero_le _, Nat.zero_le _⟩ (w_recv C hw (wk_town G x m (by decide)) rfl) rfl rfl (Nat.le_of_ble_eq_true rfl) (lv_sub hl [] rfl) dX3_go_43 (fun H locs hw => ?_)
      refine lv_pop hx hb dX3_go_46 rfl ?_
      refine lv_aload_n hx hb dX3_go_47 rfl (lv_at hl 0 rfl) ?_
      refine w_get C hw (v := .ref (gq G (1 + 4 * 0))) (k := 0) (wk_main G z1 m) rfl it_3 (by decide) fl_X3_10 rfl dX3_go_48 ?_
      refine lv_bipush (v := (15 : Int32)) hx hb dX3_go_51 (by decide) ?_
      obtain ⟨v3, hq, h⟩ := p_bd h
      refine w_Vi C hw (As := [.int (15 : Int32)]) (rest := []) (c2_loudAt l G 0 (by decide) z1 m (15 : Int32) v3 hq) kv_X2_loudAt ml_X3_56 ⟨rfl, rfl⟩ ⟨Nat.le_of_ble_eq_true rfl, Nat.le_of_ble_eq_true rfl⟩ ⟨Nat.zero_le _, Nat.zero_le _⟩ (w_recv C hw (wk_town G z1 m (by decide)) rfl) rfl rfl (Nat.le_of_ble_eq_true rfl) (lv_sub hl [] rfl) dX3_go_53 (fun H locs hw => ?_)
      replace h := Option.some.inj h
      subst h
      exact w_iret C hw (v := v3) rfl rfl dX3_go_56
    · replace h := p_f hc h
      refine lv_aload_n hx hb dX3_go_31 rfl (lv_at hl 0 rfl) ?_
      refine lv_ldc hx hb hown (C.w kc_X3_121) dX3_go_32 ?_
      obtain ⟨⟨v5, z4⟩, hq, h⟩ := p_bd h
      dsimp only at h
      refine w_Vi C hw (As := [.int (-1000005 : Int32)]) (rest := []) (c3_finding l G x m (-1000005 : Int32) (v5, z4) hq) kv_X3_finding ml_X3_49 ⟨rfl, rfl⟩ ⟨Nat.le_of_ble_eq_true rfl, Nat.le_of_ble_eq_true rfl⟩ ⟨Nat.zero_le _, Nat.zero_le _⟩ (w_recv C hw (wk_main G x m) rfl) rfl rfl (Nat.le_of_ble_eq_true rfl) (lv_sub hl [] rfl) dX3_go_34 (fun H locs hw => ?_)
      replace h := Option.some.inj h
      subst h
      exact w_iret C hw (v := v5) rfl rfl dX3_go_37
  · replace h := p_t hc h
    refine lv_aload_n hx hb dX3_go_10 rfl (lv_at hl 0 rfl) ?_
    refine lv_ldc hx hb hown (C.w kc_X3_48) dX3_go_11 ?_
    obtain ⟨⟨v7, z6⟩, hq, h⟩ := p_bd h
    dsimp only at h
    refine w_Vi C hw (As := [.int (-1000001 : Int32)]) (rest := []) (c3_finding l G x m (-1000001 : Int32) (v7, z6) hq) kv_X3_finding ml_X3_49 ⟨rfl, rfl⟩ ⟨Nat.le_of_ble_eq_true rfl, Nat.le_of_ble_eq_true rfl⟩ ⟨Nat.zero_le _, Nat.zero_le _⟩ (w_recv C hw (wk_main G x m) rfl) rfl rfl (Nat.le_of_ble_eq_true rfl) (lv_sub hl [] rfl) dX3_go_13 (fun H locs hw => ?_)
    replace h := Option.some.inj h
    subst h
    exact w_iret C hw (v := v7) rfl rfl dX3_go_16
