set_option maxHeartbeats 40000000 in
set_option maxRecDepth 100000 in
theorem law_loop (l : Launch) (G : GT) {p : Program} {e : Env} {s : State} {mm : MethodId} {below : List Frame} {meth : Method} {c : Code} {b L : Nat} {xs : Nat → Int32} (hGA : gA G = fun q => s.heap.size ≤ q) (C : Cx G p s mm meth c #[Value.ref b] cL_law 4 yL_law ret) (hX : va_X b L xs s s.heap) (hbl : b < s.heap.size) : ∀ (n18 : Nat) (b3 : Int32) (x m : St) (H : Heap) (locs : List Loc) (ls : Array Slot), lv_has ls 4 [(0, .ref (b)), (1, .ref (gq G 0)), (2, .ref (gq G 25)), (3, .int b3)] → Wd G s x m H locs → fL_law_L18 xs L n18 b3 x m = some 1 → W p l e room_1 s mm #[Value.ref b] below meth c H locs 600000 7302250 (lw_Z below #[Value.ref b] s) (F0 mm 18 ls []) := by
  have hx := C.1
  have hb := C.2.1
  have hown := C.2.2.2.2.1
  have hbA : ¬ gA G b := by rw [hGA]; exact Nat.not_le.mpr hbl
  intro n18
  induction n18 with
  | zero =>
    intro b3 x m H locs ls hl hw h
    rw [fL_law_L18_0] at h
    exact absurd h.symm (Option.some_ne_none _)
  | succ n18 ih18 =>
    have B1598 : ∀ (b3 : Int32) (x : St) (m : St) (H : Heap) (locs : List Loc) (ls : Array Slot), lv_has ls 4 [(0, .ref (b)), (1, .ref (gq G 0)), (2, .ref (gq G 25)), (3, .int b3)] → Wd G s x m H locs → fL_law_b1598 xs L (fL_law_L18 xs L n18) b3 x m = some 1 → W p l e room_1 s mm #[Value.ref b] below meth c H locs 600000 7302250 (lw_Z below #[Value.ref b] s) (F0 mm 1598 ls []) := by
      intro b3 x m H locs ls hl hw h
      unfold fL_law_b1598 at h
      refine lv_iinc (v := (b3 + (6 : Int32))) (lv' := [(3, .int (b3 + (6 : Int32))), (0, .ref (b)), (1, .ref (gq G 0)), (2, .ref (gq G 25))]) hx hb dL_law_1598 hl (k := 3) rfl rfl (by decide) rfl (fun ls hl => ?_)
      refine lv_goto (tgt := 18) hx hb dL_law_1601 (by decide) ?_
      exact ih18 (b3 + (6 : Int32)) x m _ _ _ (lv_sub hl [1, 2, 3, 0] rfl) hw h
    have B1575 : ∀ (b3 : Int32) (x : St) (m : St) (H : Heap) (locs : List Loc) (ls : Array Slot), lv_has ls 4 [(0, .ref (b)), (1, .ref (gq G 0)), (2, .ref (gq G 25)), (3, .int b3)] → Wd G s x m H locs → fL_law_b1575 xs L (fL_law_L18 xs L n18) b3 x m = some 1 → W p l e room_1 s mm #[Value.ref b] below meth c H locs 600000 7302250 (lw_Z below #[Value.ref b] s) (F0 mm 1575 ls []) := by
      intro b3 x m H locs ls hl hw h
      unfold fL_law_b1575 at h
      refine lv_aload_n hx hb dL_law_1575 rfl (lv_at hl 1 rfl) ?_
      refine lv_aload_n hx hb dL_law_1576 rfl (lv_at hl 0 rfl) ?_
      refine lv_iload_n hx hb dL_law_1577 rfl (lv_at hl 3 rfl) ?_
      refine lv_iconst (v := (1 : Int32)) hx hb dL_law_1578 (by decide) ?_
      refine lv_iadd hx hb dL_law_1579 ?_
      obtain ⟨hq, h⟩ := p_if h
      refine va_sld C.1 C.2.1 hX hbl hbA hw.2 hq dL_law_1580 ?_
      obtain ⟨⟨v172, z171⟩, hq, h⟩ := p_bd h
      dsimp only at h
      refine w_Vi C hw (As := [.int (xs (b3 + (1 : Int32)).toNatClampNeg)]) (rest := []) (c3_status l G x m (xs (b3 + (1 : Int32)).toNatClampNeg) (v172, z171) hq) kv_X3_status ml_L_203 ⟨rfl, rfl⟩ ⟨Nat.le_of_ble_eq_true rfl, Nat.le_of_ble_eq_true rfl⟩ ⟨Nat.le_refl _, Nat.le_refl _⟩ (w_recv C hw (wk_main G x m) rfl) rfl rfl (Nat.le_of_ble_eq_true rfl) (lv_sub hl [] rfl) dL_law_1581 (fun H locs hw => ?_)
      refine lv_aload_n hx hb dL_law_1584 rfl (lv_at hl 2 rfl) ?_
      refine lv_aload_n hx hb dL_law_1585 rfl (lv_at hl 0 rfl) ?_
      refine lv_iload_n hx hb dL_law_1586 rfl (lv_at hl 3 rfl) ?_
      refine lv_iconst (v := (1 : Int32)) hx hb dL_law_1587 (by decide) ?_
      refine lv_iadd hx hb dL_law_1588 ?_
      obtain ⟨hq, h⟩ := p_if h
      refine va_sld C.1 C.2.1 hX hbl hbA hw.2 hq dL_law_1589 ?_
      obtain ⟨⟨v174, z173⟩, hq, h⟩ := p_bd h
      dsimp only at h
      refine w_Vi C hw (As := [.int (xs (b3 + (1 : Int32)).toNatClampNeg)]) (rest := [.int v172]) (c4_status l G z171 m (xs (b3 + (1 : Int32)).toNatClampNeg) (v174, z173) hq) kv_X4_status ml_L_206 ⟨rfl, rfl⟩ ⟨Nat.le_of_ble_eq_true rfl, Nat.le_of_ble_eq_true rfl⟩ ⟨Nat.le_refl _, Nat.le_refl _⟩ (w_recv C hw (wk_model G z171 m) rfl) rfl rfl (Nat.le_of_ble_eq_true rfl) (lv_sub hl [] rfl) dL_law_1590 (fun H locs hw => ?_)
      refine lv_icmp_eq (tgt := 1598) hx hb dL_law_1593 (by decide) (fun hc => ?_) (fun hc => ?_)
      · replace h := p_t hc h
        exact B1598 b3 z171 z173 _ _ _ (lv_sub hl [0, 1, 2, 3] rfl) hw h
      · replace h := p_f hc h
        refine lv_iconst (v := (0 : Int32)) hx hb dL_law_1596 (by decide) ?_
        replace h := Option.some.inj h
        exact absurd h (by decide)
    have B1552 : ∀ (b3 : Int32) (x : St) (m : St) (H : Heap) (locs : List Loc) (ls : Array Slot), lv_has ls 4 [(0, .ref (b)), (1, .ref (gq G 0)), (2, .ref (gq G 25)), (3, .int b3)] → Wd G s x m H locs → fL_law_b1552 xs L (fL_law_L18 xs L n18) b3 x m = some 1 → W p l e room_1 s mm #[Value.ref b] below meth c H locs 600000 7302250 (lw_Z below #[Value.ref b] s) (F0 mm 1552 ls []) := by
      intro b3 x m H locs ls hl hw h
      unfold fL_law_b1552 at h
      refine lv_aload_n hx hb dL_law_1552 rfl (lv_at hl 1 rfl) ?_
      refine lv_aload_n hx hb dL_law_1553 rfl (lv_at hl 0 rfl) ?_
      refine lv_iload_n hx hb dL_law_1554 rfl (lv_at hl 3 rfl) ?_
      refine lv_iconst (v := (1 : Int32)) hx hb dL_law_1555 (by decide) ?_
      refine lv_iadd hx hb dL_law_1556 ?_
      obtain ⟨hq, h⟩ := p_if h
      refine va_sld C.1 C.2.1 hX hbl hbA hw.2 hq dL_law_1557 ?_
      obtain ⟨⟨v168, z167⟩, hq, h⟩ := p_bd h
      dsimp only at h
      refine w_Vi C hw (As := [.int (xs (b3 + (1 : Int32)).toNatClampNeg)]) (rest := []) (c3_count l G x m (xs (b3 + (1 : Int32)).toNatClampNeg) (v168, z167) hq) kv_X3_count ml_L_199 ⟨rfl, rfl⟩ ⟨Nat.le_of_ble_eq_true rfl, Nat.le_of_ble_eq_true rfl⟩ ⟨Nat.le_refl _, Nat.le_refl _⟩ (w_recv C hw (wk_main G x m) rfl) rfl rfl (Nat.le_of_ble_eq_true rfl) (lv_sub hl [] rfl) dL_law_1558 (fun H locs hw => ?_)
      refine lv_aload_n hx hb dL_law_1561 rfl (lv_at hl 2 rfl) ?_
      refine lv_aload_n hx hb dL_law_1562 rfl (lv_at hl 0 rfl) ?_
      refine lv_iload_n hx hb dL_law_1563 rfl (lv_at hl 3 rfl) ?_
      refine lv_iconst (v := (1 : Int32)) hx hb dL_law_1564 (by decide) ?_
      refine lv_iadd hx hb dL_law_1565 ?_
      obtain ⟨hq, h⟩ := p_if h
      refine va_sld C.1 C.2.1 hX hbl hbA hw.2 hq dL_law_1566 ?_
      obtain ⟨⟨v170, z169⟩, hq, h⟩ := p_bd h
      dsimp only at h
      refine w_Vi C hw (As := [.int (xs (b3 + (1 : Int32)).toNatClampNeg)]) (rest := [.int v168]) (c4_count l G z167 m (xs (b3 + (1 : Int32)).toNatClampNeg) (v170, z169) hq) kv_X4_count ml_L_202 ⟨rfl, rfl⟩ ⟨Nat.le_of_ble_eq_true rfl, Nat.le_of_ble_eq_true rfl⟩ ⟨Nat.le_refl _, Nat.le_refl _⟩ (w_recv C hw (wk_model G z167 m) rfl) rfl rfl (Nat.le_of_ble_eq_true rfl) (lv_sub hl [] rfl) dL_law_1567 (fun H locs hw => ?_)
      refine lv_icmp_eq (tgt := 1598) hx hb dL_law_1570 (by decide) (fun hc => ?_) (fun hc => ?_)
      · replace h := p_t hc h
        exact B1598 b3 z167 z169 _ _ _ (lv_sub hl [0, 1, 2, 3] rfl) hw h
      · replace h := p_f hc h
        refine lv_iconst (v := (0 : Int32)) hx hb dL_law_1573 (by decide) ?_
        replace h := Option.some.inj h
        exact absurd h (by decide)
    have B1539 : ∀ (b3 : Int32) (x : St) (m : St) (H : Heap) (locs : List Loc) (ls : Array Slot), lv_has ls 4 [(0, .ref (b)), (1, .ref (gq G 0)), (2, .ref (gq G 25)), (3, .int b3)] → Wd G s x m H locs → fL_law_b1539 xs L (fL_law_L18 xs L n18) b3 x m = some 1 → W p l e room_1 s mm #[Value.ref b] below meth c H locs 600000 7302250 (lw_Z below #[Value.ref b] s) (F0 mm 1539 ls []) := by
      intro b3 x m H locs ls hl hw h
      unfold fL_law_b1539 at h
      refine lv_aload_n hx hb dL_law_1539 rfl (lv_at hl 1 rfl) ?_
      refine w_Vi C hw (As := []) (rest := []) (c3_tear l G x m _ rfl) kv_X3_tear ml_L_195 ⟨rfl, rfl⟩ ⟨Nat.le_of_ble_eq_true rfl, Nat.le_of_ble_eq_true rfl⟩ ⟨Nat.le_refl _, Nat.le_refl _⟩ (w_recv C hw (wk_main G x m) rfl) rfl rfl (Nat.le_of_ble_eq_true rfl) (lv_sub hl [] rfl) dL_law_1540 (fun H locs hw => ?_)
      refine lv_aload_n hx hb dL_law_1543 rfl (lv_at hl 2 rfl) ?_
      refine w_Vi C hw (As := []) (rest := [.int (f3_tear x).1]) (c4_tear l G (f3_tear x).2 m _ rfl) kv_X4_tear ml_L_198 ⟨rfl, rfl⟩ ⟨Nat.le_of_ble_eq_true rfl, Nat.le_of_ble_eq_true rfl⟩ ⟨Nat.le_refl _, Nat.le_refl _⟩ (w_recv C hw (wk_model G (f3_tear x).2 m) rfl) rfl rfl (Nat.le_of_ble_eq_true rfl) (lv_sub hl [] rfl) dL_law_1544 (fun H locs hw => ?_)
      refine lv_icmp_eq (tgt := 1598) hx hb dL_law_1547 (by decide) (fun hc => ?_) (fun hc => ?_)
      · replace h := p_t hc h
        exact B1598 b3 (f3_tear x).2 (f4_tear m).2 _ _ _ (lv_sub hl [0, 1, 2, 3] rfl) hw h
      · replace h := p_f hc h
        refine lv_iconst (v := (0 : Int32)) hx hb dL_law_1550 (by decide) ?_
        replace h := Option.some.inj h
        exact absurd h (by decide)
    have B1526 : ∀ (b3 : Int32) (x : St) (m : St) (H : Heap) (locs : List Loc) (ls : Array Slot), lv_has ls 4 [(0, .ref (b)), (1, .ref (gq G 0)), (2, .ref (gq G 25)), (3, .int b3)] → Wd G s x m H locs → fL_law_b1526 xs L (fL_law_L18 xs L n18) b3 x m = some 1 → W p l e room_1 s mm #[Value.ref b] below meth c H locs 600000 7302250 (lw_Z below #[Value.ref b] s) (F0 mm 1526 ls []) := by
      intro b3 x m H locs ls hl hw h
      unfold fL_law_b1526 at h
      refine lv_aload_n hx hb dL_law_1526 rfl (lv_at hl 1 rfl) ?_
      obtain ⟨⟨v164, z163⟩, hq, h⟩ := p_bd h
      dsimp only at h
      refine w_Vi C hw (As := []) (rest := []) (c3_undo l G x m (v164, z163) hq) kv_X3_undo ml_L_191 ⟨rfl, rfl⟩ ⟨Nat.le_of_ble_eq_true rfl, Nat.le_of_ble_eq_true rfl⟩ ⟨Nat.le_refl _, Nat.le_refl _⟩ (w_recv C hw (wk_main G x m) rfl) rfl rfl (Nat.le_of_ble_eq_true rfl) (lv_sub hl [] rfl) dL_law_1527 (fun H locs hw => ?_)
      refine lv_aload_n hx hb dL_law_1530 rfl (lv_at hl 2 rfl) ?_
      obtain ⟨⟨v166, z165⟩, hq, h⟩ := p_bd h
      dsimp only at h
      refine w_Vi C hw (As := []) (rest := [.int v164]) (c4_undo l G z163 m (v166, z165) hq) kv_X4_undo ml_L_194 ⟨rfl, rfl⟩ ⟨Nat.le_of_ble_eq_true rfl, Nat.le_of_ble_eq_true rfl⟩ ⟨Nat.le_refl _, Nat.le_refl _⟩ (w_recv C hw (wk_model G z163 m) rfl) rfl rfl (Nat.le_of_ble_eq_true rfl) (lv_sub hl [] rfl) dL_law_1531 (fun H locs hw => ?_)
      refine lv_icmp_eq (tgt := 1598) hx hb dL_law_1534 (by decide) (fun hc => ?_) (fun hc => ?_)
      · replace h := p_t hc h
        exact B1598 b3 z163 z165 _ _ _ (lv_sub hl [0, 1, 2, 3] rfl) hw h
      · replace h := p_f hc h
        refine lv_iconst (v := (0 : Int32)) hx hb dL_law_1537 (by decide) ?_
        replace h := Option.some.inj h
        exact absurd h (by decide)
    have B1513 : ∀ (b3 : Int32) (x : St) (m : St) (H : Heap) (locs : List Loc) (ls : Array Slot), lv_has ls 4 [(0, .ref (b)), (1, .ref (gq G 0)), (2, .ref (gq G 25)), (3, .int b3)] → Wd G s x m H locs → fL_law_b1513 xs L (fL_law_L18 xs L n18) b3 x m = some 1 → W p l e room_1 s mm #[Value.ref b] below meth c H locs 600000 7302250 (lw_Z below #[Value.ref b] s) (F0 mm 1513 ls []) := by
      intro b3 x m H locs ls hl hw h
      unfold fL_law_b1513 at h
      refine lv_aload_n hx hb dL_law_1513 rfl (lv_at hl 1 rfl) ?_
      obtain ⟨⟨v160, z159⟩, hq, h⟩ := p_bd h
      dsimp only at h
      refine w_Vi C hw (As := []) (rest := []) (c3_image l G x m (v160, z159) hq) kv_X3_image ml_L_187 ⟨rfl, rfl⟩ ⟨Nat.le_of_ble_eq_true rfl, Nat.le_of_ble_eq_true rfl⟩ ⟨Nat.le_refl _, Nat.le_refl _⟩ (w_recv C hw (wk_main G x m) rfl) rfl rfl (Nat.le_of_ble_eq_true rfl) (lv_sub hl [] rfl) dL_law_1514 (fun H locs hw => ?_)
      refine lv_aload_n hx hb dL_law_1517 rfl (lv_at hl 2 rfl) ?_
      obtain ⟨⟨v162, z161⟩, hq, h⟩ := p_bd h
      dsimp only at h
      refine w_Vi C hw (As := []) (rest := [.int v160]) (c4_image l G z159 m (v162, z161) hq) kv_X4_image ml_L_190 ⟨rfl, rfl⟩ ⟨Nat.le_of_ble_eq_true rfl, Nat.le_of_ble_eq_true rfl⟩ ⟨Nat.le_refl _, Nat.le_refl _⟩ (w_recv C hw (wk_model G z159 m) rfl) rfl rfl (Nat.le_of_ble_eq_true rfl) (lv_sub hl [] rfl) dL_law_1518 (fun H locs hw => ?_)
      refine lv_icmp_eq (tgt := 1598) hx hb dL_law_1521 (by decide) (fun hc => ?_) (fun hc => ?_)
      · replace h := p_t hc h
        exact B1598 b3 z159 z161 _ _ _ (lv_sub hl [0, 1, 2, 3] rfl) hw h
      · replace h := p_f hc h
        refine lv_iconst (v := (0 : Int32)) hx hb dL_law_1524 (by decide) ?_
        replace h := Option.some.inj h
        exact absurd h (by decide)
    have B1490 : ∀ (b3 : Int32) (x : St) (m : St) (H : Heap) (locs : List Loc) (ls : Array Slot), lv_has ls 4 [(0, .ref (b)), (1, .ref (gq G 0)), (2, .ref (gq G 25)), (3, .int b3)] → Wd G s x m H locs → fL_law_b1490 xs L (fL_law_L18 xs L n18) b3 x m = some 1 → W p l e room_1 s mm #[Value.ref b] below meth c H locs 600000 7302250 (lw_Z below #[Value.ref b] s) (F0 mm 1490 ls []) := by
      intro b3 x m H locs ls hl hw h
      unfold fL_law_b1490 at h
      refine lv_aload_n hx hb dL_law_1490 rfl (lv_at hl 1 rfl) ?_
      refine lv_aload_n hx hb dL_law_1491 rfl (lv_at hl 0 rfl) ?_
      refine lv_iload_n hx hb dL_law_1492 rfl (lv_at hl 3 rfl) ?_
      refine lv_iconst (v := (1 : Int32)) hx hb dL_law_1493 (by decide) ?_
      refine lv_iadd hx hb dL_law_1494 ?_
      obtain ⟨hq, h⟩ := p_if h
      refine va_sld C.1 C.2.1 hX hbl hbA hw.2 hq dL_law_1495 ?_
      obtain ⟨⟨v156, z155⟩, hq, h⟩ := p_bd h
      dsimp only at h
      refine w_Vi C hw (As := [.int (xs (b3 + (1 : Int32)).toNatClampNeg)]) (rest := []) (c3_judge l G x m (xs (b3 + (1 : Int32)).toNatClampNeg) (v156, z155) hq) kv_X3_judge ml_L_183 ⟨rfl, rfl⟩ ⟨Nat.le_of_ble_eq_true rfl, Nat.le_of_ble_eq_true rfl⟩ ⟨Nat.le_refl _, Nat.le_refl _⟩ (w_recv C hw (wk_main G x m) rfl) rfl rfl (Nat.le_of_ble_eq_true rfl) (lv_sub hl [] rfl) dL_law_1496 (fun H locs hw => ?_)
      refine lv_aload_n hx hb dL_law_1499 rfl (lv_at hl 2 rfl) ?_
      refine lv_aload_n hx hb dL_law_1500 rfl (lv_at hl 0 rfl) ?_
      refine lv_iload_n hx hb dL_law_1501 rfl (lv_at hl 3 rfl) ?_
      refine lv_iconst (v := (1 : Int32)) hx hb dL_law_1502 (by decide) ?_
      refine lv_iadd hx hb dL_law_1503 ?_
      obtain ⟨hq, h⟩ := p_if h
      refine va_sld C.1 C.2.1 hX hbl hbA hw.2 hq dL_law_1504 ?_
      obtain ⟨⟨v158, z157⟩, hq, h⟩ := p_bd h
      dsimp only at h
      refine w_Vi C hw (As := [.int (xs (b3 + (1 : Int32)).toNatClampNeg)]) (rest := [.int v156]) (c4_judge l G z155 m (xs (b3 + (1 : Int32)).toNatClampNeg) (v158, z157) hq) kv_X4_judge ml_L_186 ⟨rfl, rfl⟩ ⟨Nat.le_of_ble_eq_true rfl, Nat.le_of_ble_eq_true rfl⟩ ⟨Nat.le_refl _, Nat.le_refl _⟩ (w_recv C hw (wk_model G z155 m) rfl) rfl rfl (Nat.le_of_ble_eq_true rfl) (lv_sub hl [] rfl) dL_law_1505 (fun H locs hw => ?_)
      refine lv_icmp_eq (tgt := 1598) hx hb dL_law_1508 (by decide) (fun hc => ?_) (fun hc => ?_)
      · replace h := p_t hc h
        exact B1598 b3 z155 z157 _ _ _ (lv_sub hl [0, 1, 2, 3] rfl) hw h
      · replace h := p_f hc h
        refine lv_iconst (v := (0 : Int32)) hx hb dL_law_1511 (by decide) ?_
        replace h := Option.some.inj h
        exact absurd h (by decide)
    have B1467 : ∀ (b3 : Int32) (x : St) (m : St) (H : Heap) (locs : List Loc) (ls : Array Slot), lv_has ls 4 [(0, .ref (b)), (1, .ref (gq G 0)), (2, .ref (gq G 25)), (3, .int b3)] → Wd G s x m H locs → fL_law_b1467 xs L (fL_law_L18 xs L n18) b3 x m = some 1 → W p l e room_1 s mm #[Value.ref b] below meth c H locs 600000 7302250 (lw_Z below #[Value.ref b] s) (F0 mm 1467 ls []) := by
      intro b3 x m H locs ls hl hw h
      unfold fL_law_b1467 at h
      refine lv_aload_n hx hb dL_law_1467 rfl (lv_at hl 1 rfl) ?_
      refine lv_aload_n hx hb dL_law_1468 rfl (lv_at hl 0 rfl) ?_
      refine lv_iload_n hx hb dL_law_1469 rfl (lv_at hl 3 rfl) ?_
      refine lv_iconst (v := (1 : Int32)) hx hb dL_law_1470 (by decide) ?_
      refine lv_iadd hx hb dL_law_1471 ?_
      obtain ⟨hq, h⟩ := p_if h
      refine va_sld C.1 C.2.1 hX hbl hbA hw.2 hq dL_law_1472 ?_
      obtain ⟨⟨v152, z151⟩, hq, h⟩ := p_bd h
      dsimp only at h
      refine w_Vi C hw (As := [.int (xs (b3 + (1 : Int32)).toNatClampNeg)]) (rest := []) (c3_load l G x m (xs (b3 + (1 : Int32)).toNatClampNeg) (v152, z151) hq) kv_X3_load ml_L_179 ⟨rfl, rfl⟩ ⟨Nat.le_of_ble_eq_true rfl, Nat.le_of_ble_eq_true rfl⟩ ⟨Nat.le_refl _, Nat.le_refl _⟩ (w_recv C hw (wk_main G x m) rfl) rfl rfl (Nat.le_of_ble_eq_true rfl) (lv_sub hl [] rfl) dL_law_1473 (fun H locs hw => ?_)
      refine lv_aload_n hx hb dL_law_1476 rfl (lv_at hl 2 rfl) ?_
      refine lv_aload_n hx hb dL_law_1477 rfl (lv_at hl 0 rfl) ?_
      refine lv_iload_n hx hb dL_law_1478 rfl (lv_at hl 3 rfl) ?_
      refine lv_iconst (v := (1 : Int32)) hx hb dL_law_1479 (by decide) ?_
      refine lv_iadd hx hb dL_law_1480 ?_
      obtain ⟨hq, h⟩ := p_if h
      refine va_sld C.1 C.2.1 hX hbl hbA hw.2 hq dL_law_1481 ?_
      obtain ⟨⟨v154, z153⟩, hq, h⟩ := p_bd h
      dsimp only at h
      refine w_Vi C hw (As := [.int (xs (b3 + (1 : Int32)).toNatClampNeg)]) (rest := [.int v152]) (c4_load l G z151 m (xs (b3 + (1 : Int32)).toNatClampNeg) (v154, z153) hq) kv_X4_load ml_L_182 ⟨rfl, rfl⟩ ⟨Nat.le_of_ble_eq_true rfl, Nat.le_of_ble_eq_true rfl⟩ ⟨Nat.le_refl _, Nat.le_refl _⟩ (w_recv C hw (wk_model G z151 m) rfl) rfl rfl (Nat.le_of_ble_eq_true rfl) (lv_sub hl [] rfl) dL_law_1482 (fun H locs hw => ?_)
      refine lv_icmp_eq (tgt := 1598) hx hb dL_law_1485 (by decide) (fun hc => ?_) (fun hc => ?_)
      · replace h := p_t hc h
        exact B1598 b3 z151 z153 _ _ _ (lv_sub hl [0, 1, 2, 3] rfl) hw h
      · replace h := p_f hc h
        refine lv_iconst (v := (0 : Int32)) hx hb dL_law_1488 (by decide) ?_
        replace h := Option.some.inj h
        exact absurd h (by decide)
    have B1404 : ∀ (b3 : Int32) (x : St) (m : St) (H : Heap) (locs : List Loc) (ls : Array Slot), lv_has ls 4 [(0, .ref (b)), (1, .ref (gq G 0)), (2, .ref (gq G 25)), (3, .int b3)] → Wd G s x m H locs → fL_law_b1404 xs L (fL_law_L18 xs L n18) b3 x m = some 1 → W p l e room_1 s mm #[Value.ref b] below meth c H locs 600000 7302250 (lw_Z below #[Value.ref b] s) (F0 mm 1404 ls []) := by
      intro b3 x m H locs ls hl hw h
      unfold fL_law_b1404 at h
      refine lv_aload_n hx hb dL_law_1404 rfl (lv_at hl 1 rfl) ?_
      refine lv_aload_n hx hb dL_law_1405 rfl (lv_at hl 0 rfl) ?_
      refine lv_iload_n hx hb dL_law_1406 rfl (lv_at hl 3 rfl) ?_
      refine lv_iconst (v := (1 : Int32)) hx hb dL_law_1407 (by decide) ?_
      refine lv_iadd hx hb dL_law_1408 ?_
      obtain ⟨hq, h⟩ := p_if h
      refine va_sld C.1 C.2.1 hX hbl hbA hw.2 hq dL_law_1409 ?_
      refine lv_aload_n hx hb dL_law_1410 rfl (lv_at hl 0 rfl) ?_
      refine lv_iload_n hx hb dL_law_1411 rfl (lv_at hl 3 rfl) ?_
      refine lv_iconst (v := (2 : Int32)) hx hb dL_law_1412 (by decide) ?_
      refine lv_iadd hx hb dL_law_1413 ?_
      obtain ⟨hq, h⟩ := p_if h
      refine va_sld C.1 C.2.1 hX hbl hbA hw.2 hq dL_law_1414 ?_
      refine lv_aload_n hx hb dL_law_1415 rfl (lv_at hl 0 rfl) ?_
      refine lv_iload_n hx hb dL_law_1416 rfl (lv_at hl 3 rfl) ?_
      refine lv_iconst (v := (3 : Int32)) hx hb dL_law_1417 (by decide) ?_
      refine lv_iadd hx hb dL_law_1418 ?_
      obtain ⟨hq, h⟩ := p_if h
      refine va_sld C.1 C.2.1 hX hbl hbA hw.2 hq dL_law_1419 ?_
      refine lv_aload_n hx hb dL_law_1420 rfl (lv_at hl 0 rfl) ?_
      refine lv_iload_n hx hb dL_law_1421 rfl (lv_at hl 3 rfl) ?_
      refine lv_iconst (v := (4 : Int32)) hx hb dL_law_1422 (by decide) ?_
      refine lv_iadd hx hb dL_law_1423 ?_
      obtain ⟨hq, h⟩ := p_if h
      refine va_sld C.1 C.2.1 hX hbl hbA hw.2 hq dL_law_1424 ?_
      refine lv_aload_n hx hb dL_law_1425 rfl (lv_at hl 0 rfl) ?_
      refine lv_iload_n hx hb dL_law_1426 rfl (lv_at hl 3 rfl) ?_
      refine lv_iconst (v := (5 : Int32)) hx hb dL_law_1427 (by decide) ?_
      refine lv_iadd hx hb dL_law_1428 ?_
      obtain ⟨hq, h⟩ := p_if h
      refine va_sld C.1 C.2.1 hX hbl hbA hw.2 hq dL_law_1429 ?_
      obtain ⟨⟨v148, z147⟩, hq, h⟩ := p_bd h
      dsimp only at h
      refine w_Vi C hw (As := [.int (xs (b3 + (1 : Int32)).toNatClampNeg), .int (xs (b3 + (2 : Int32)).toNatClampNeg), .int (xs (b3 + (3 : Int32)).toNatClampNeg), .int (xs (b3 + (4 : Int32)).toNatClampNeg), .int (xs (b3 + (5 : Int32)).toNatClampNeg)]) (rest := []) (c3_copy l G x m (xs (b3 + (1 : Int32)).toNatClampNeg) (xs (b3 + (2 : Int32)).toNatClampNeg) (xs (b3 + (3 : Int32)).toNatClampNeg) (xs (b3 + (4 : Int32)).toNatClampNeg) (xs (b3 + (5 : Int32)).toNatClampNeg) (v148, z147) hq) kv_X3_copy ml_L_174 ⟨rfl, rfl⟩ ⟨Nat.le_of_ble_eq_true rfl, Nat.le_of_ble_eq_true rfl⟩ ⟨Nat.le_refl _, Nat.le_refl _⟩ (w_recv C hw (wk_main G x m) rfl) rfl rfl (Nat.le_of_ble_eq_true rfl) (lv_sub hl [] rfl) dL_law_1430 (fun H locs hw => ?_)
      refine lv_aload_n hx hb dL_law_1433 rfl (lv_at hl 2 rfl) ?_
      refine lv_aload_n hx hb dL_law_1434 rfl (lv_at hl 0 rfl) ?_
      refine lv_iload_n hx hb dL_law_1435 rfl (lv_at hl 3 rfl) ?_
      refine lv_iconst (v := (1 : Int32)) hx hb dL_law_1436 (by decide) ?_
      refine lv_iadd hx hb dL_law_1437 ?_
      obtain ⟨hq, h⟩ := p_if h
      refine va_sld C.1 C.2.1 hX hbl hbA hw.2 hq dL_law_1438 ?_
      refine lv_aload_n hx hb dL_law_1439 rfl (lv_at hl 0 rfl) ?_
      refine lv_iload_n hx hb dL_law_1440 rfl (lv_at hl 3 rfl) ?_
      refine lv_iconst (v := (2 : Int32)) hx hb dL_law_1441 (by decide) ?_
      refine lv_iadd hx hb dL_law_1442 ?_
      obtain ⟨hq, h⟩ := p_if h
      refine va_sld C.1 C.2.1 hX hbl hbA hw.2 hq dL_law_1443 ?_
      refine lv_aload_n hx hb dL_law_1444 rfl (lv_at hl 0 rfl) ?_
      refine lv_iload_n hx hb dL_law_1445 rfl (lv_at hl 3 rfl) ?_
      refine lv_iconst (v := (3 : Int32)) hx hb dL_law_1446 (by decide) ?_
      refine lv_iadd hx hb dL_law_1447 ?_
      obtain ⟨hq, h⟩ := p_if h
      refine va_sld C.1 C.2.1 hX hbl hbA hw.2 hq dL_law_1448 ?_
      refine lv_aload_n hx hb dL_law_1449 rfl (lv_at hl 0 rfl) ?_
      refine lv_iload_n hx hb dL_law_1450 rfl (lv_at hl 3 rfl) ?_
      refine lv_iconst (v := (4 : Int32)) hx hb dL_law_1451 (by decide) ?_
      refine lv_iadd hx hb dL_law_1452 ?_
      obtain ⟨hq, h⟩ := p_if h
      refine va_sld C.1 C.2.1 hX hbl hbA hw.2 hq dL_law_1453 ?_
      refine lv_aload_n hx hb dL_law_1454 rfl (lv_at hl 0 rfl) ?_
      refine lv_iload_n hx hb dL_law_1455 rfl (lv_at hl 3 rfl) ?_
      refine lv_iconst (v := (5 : Int32)) hx hb dL_law_1456 (by decide) ?_
      refine lv_iadd hx hb dL_law_1457 ?_
      obtain ⟨hq, h⟩ := p_if h
      refine va_sld C.1 C.2.1 hX hbl hbA hw.2 hq dL_law_1458 ?_
      obtain ⟨⟨v150, z149⟩, hq, h⟩ := p_bd h
      dsimp only at h
      refine w_Vi C hw (As := [.int (xs (b3 + (1 : Int32)).toNatClampNeg), .int (xs (b3 + (2 : Int32)).toNatClampNeg), .int (xs (b3 + (3 : Int32)).toNatClampNeg), .int (xs (b3 + (4 : Int32)).toNatClampNeg), .int (xs (b3 + (5 : Int32)).toNatClampNeg)]) (rest := [.int v148]) (c4_copy l G z147 m (xs (b3 + (1 : Int32)).toNatClampNeg) (xs (b3 + (2 : Int32)).toNatClampNeg) (xs (b3 + (3 : Int32)).toNatClampNeg) (xs (b3 + (4 : Int32)).toNatClampNeg) (xs (b3 + (5 : Int32)).toNatClampNeg) (v150, z149) hq) kv_X4_copy ml_L_178 ⟨rfl, rfl⟩ ⟨Nat.le_of_ble_eq_true rfl, Nat.le_of_ble_eq_true rfl⟩ ⟨Nat.le_refl _, Nat.le_refl _⟩ (w_recv C hw (wk_model G z147 m) rfl) rfl rfl (Nat.le_of_ble_eq_true rfl) (lv_sub hl [] rfl) dL_law_1459 (fun H locs hw => ?_)
      refine lv_icmp_eq (tgt := 1598) hx hb dL_law_1462 (by decide) (fun hc => ?_) (fun hc => ?_)
      · replace h := p_t hc h
        exact B1598 b3 z147 z149 _ _ _ (lv_sub hl [0, 1, 2, 3] rfl) hw h
      · replace h := p_f hc h
        refine lv_iconst (v := (0 : Int32)) hx hb dL_law_1465 (by decide) ?_
        replace h := Option.some.inj h
        exact absurd h (by decide)
    have B1361 : ∀ (b3 : Int32) (x : St) (m : St) (H : Heap) (locs : List Loc) (ls : Array Slot), lv_has ls 4 [(0, .ref (b)), (1, .ref (gq G 0)), (2, .ref (gq G 25)), (3, .int b3)] → Wd G s x m H locs → fL_law_b1361 xs L (fL_law_L18 xs L n18) b3 x m = some 1 → W p l e room_1 s mm #[Value.ref b] below meth c H locs 600000 7302250 (lw_Z below #[Value.ref b] s) (F0 mm 1361 ls []) := by
      intro b3 x m H locs ls hl hw h
      unfold fL_law_b1361 at h
      refine lv_aload_n hx hb dL_law_1361 rfl (lv_at hl 1 rfl) ?_
      refine lv_aload_n hx hb dL_law_1362 rfl (lv_at hl 0 rfl) ?_
      refine lv_iload_n hx hb dL_law_1363 rfl (lv_at hl 3 rfl) ?_
      refine lv_iconst (v := (1 : Int32)) hx hb dL_law_1364 (by decide) ?_
      refine lv_iadd hx hb dL_law_1365 ?_
      obtain ⟨hq, h⟩ := p_if h
      refine va_sld C.1 C.2.1 hX hbl hbA hw.2 hq dL_law_1366 ?_
      refine lv_aload_n hx hb dL_law_1367 rfl (lv_at hl 0 rfl) ?_
      refine lv_iload_n hx hb dL_law_1368 rfl (lv_at hl 3 rfl) ?_
      refine lv_iconst (v := (2 : Int32)) hx hb dL_law_1369 (by decide) ?_
      refine lv_iadd hx hb dL_law_1370 ?_
      obtain ⟨hq, h⟩ := p_if h
      refine va_sld C.1 C.2.1 hX hbl hbA hw.2 hq dL_law_1371 ?_
      refine lv_aload_n hx hb dL_law_1372 rfl (lv_at hl 0 rfl) ?_
      refine lv_iload_n hx hb dL_law_1373 rfl (lv_at hl 3 rfl) ?_
      refine lv_iconst (v := (3 : Int32)) hx hb dL_law_1374 (by decide) ?_
      refine lv_iadd hx hb dL_law_1375 ?_
      obtain ⟨hq, h⟩ := p_if h
      refine va_sld C.1 C.2.1 hX hbl hbA hw.2 hq dL_law_1376 ?_
      obtain ⟨⟨v144, z143⟩, hq, h⟩ := p_bd h
      dsimp only at h
      refine w_Vi C hw (As := [.int (xs (b3 + (1 : Int32)).toNatClampNeg), .int (xs (b3 + (2 : Int32)).toNatClampNeg), .int (xs (b3 + (3 : Int32)).toNatClampNeg)]) (rest := []) (c3_write l G x m (xs (b3 + (1 : Int32)).toNatClampNeg) (xs (b3 + (2 : Int32)).toNatClampNeg) (xs (b3 + (3 : Int32)).toNatClampNeg) (v144, z143) hq) kv_X3_write ml_L_170 ⟨rfl, rfl⟩ ⟨Nat.le_of_ble_eq_true rfl, Nat.le_of_ble_eq_true rfl⟩ ⟨Nat.le_refl _, Nat.le_refl _⟩ (w_recv C hw (wk_main G x m) rfl) rfl rfl (Nat.le_of_ble_eq_true rfl) (lv_sub hl [] rfl) dL_law_1377 (fun H locs hw => ?_)
      refine lv_aload_n hx hb dL_law_1380 rfl (lv_at hl 2 rfl) ?_
      refine lv_aload_n hx hb dL_law_1381 rfl (lv_at hl 0 rfl) ?_
      refine lv_iload_n hx hb dL_law_1382 rfl (lv_at hl 3 rfl) ?_
      refine lv_iconst (v := (1 : Int32)) hx hb dL_law_1383 (by decide) ?_
      refine lv_iadd hx hb dL_law_1384 ?_
      obtain ⟨hq, h⟩ := p_if h
      refine va_sld C.1 C.2.1 hX hbl hbA hw.2 hq dL_law_1385 ?_
      refine lv_aload_n hx hb dL_law_1386 rfl (lv_at hl 0 rfl) ?_
      refine lv_iload_n hx hb dL_law_1387 rfl (lv_at hl 3 rfl) ?_
      refine lv_iconst (v := (2 : Int32)) hx hb dL_law_1388 (by decide) ?_
      refine lv_iadd hx hb dL_law_1389 ?_
      obtain ⟨hq, h⟩ := p_if h
      refine va_sld C.1 C.2.1 hX hbl hbA hw.2 hq dL_law_1390 ?_
      refine lv_aload_n hx hb dL_law_1391 rfl (lv_at hl 0 rfl) ?_
      refine lv_iload_n hx hb dL_law_1392 rfl (lv_at hl 3 rfl) ?_
      refine lv_iconst (v := (3 : Int32)) hx hb dL_law_1393 (by decide) ?_
      refine lv_iadd hx hb dL_law_1394 ?_
      obtain ⟨hq, h⟩ := p_if h
      refine va_sld C.1 C.2.1 hX hbl hbA hw.2 hq dL_law_1395 ?_
      obtain ⟨⟨v146, z145⟩, hq, h⟩ := p_bd h
      dsimp only at h
      refine w_Vi C hw (As := [.int (xs (b3 + (1 : Int32)).toNatClampNeg), .int (xs (b3 + (2 : Int32)).toNatClampNeg), .int (xs (b3 + (3 : Int32)).toNatClampNeg)]) (rest := [.int v144]) (c4_write l G z143 m (xs (b3 + (1 : Int32)).toNatClampNeg) (xs (b3 + (2 : Int32)).toNatClampNeg) (xs (b3 + (3 : Int32)).toNatClampNeg) (v146, z145) hq) kv_X4_write ml_L_173 ⟨rfl, rfl⟩ ⟨Nat.le_of_ble_eq_true rfl, Nat.le_of_ble_eq_true rfl⟩ ⟨Nat.le_refl _, Nat.le_refl _⟩ (w_recv C hw (wk_model G z143 m) rfl) rfl rfl (Nat.le_of_ble_eq_true rfl) (lv_sub hl [] rfl) dL_law_1396 (fun H locs hw => ?_)
      refine lv_icmp_eq (tgt := 1598) hx hb dL_law_1399 (by decide) (fun hc => ?_) (fun hc => ?_)
      · replace h := p_t hc h
        exact B1598 b3 z143 z145 _ _ _ (lv_sub hl [0, 1, 2, 3] rfl) hw h
      · replace h := p_f hc h
        refine lv_iconst (v := (0 : Int32)) hx hb dL_law_1402 (by decide) ?_
        replace h := Option.some.inj h
        exact absurd h (by decide)
    have B1318 : ∀ (b3 : Int32) (x : St) (m : St) (H : Heap) (locs : List Loc) (ls : Array Slot), lv_has ls 4 [(0, .ref (b)), (1, .ref (gq G 0)), (2, .ref (gq G 25)), (3, .int b3)] → Wd G s x m H locs → fL_law_b1318 xs L (fL_law_L18 xs L n18) b3 x m = some 1 → W p l e room_1 s mm #[Value.ref b] below meth c H locs 600000 7302250 (lw_Z below #[Value.ref b] s) (F0 mm 1318 ls []) := by
      intro b3 x m H locs ls hl hw h
      unfold fL_law_b1318 at h
      refine lv_aload_n hx hb dL_law_1318 rfl (lv_at hl 1 rfl) ?_
      refine lv_aload_n hx hb dL_law_1319 rfl (lv_at hl 0 rfl) ?_
      refine lv_iload_n hx hb dL_law_1320 rfl (lv_at hl 3 rfl) ?_
      refine lv_iconst (v := (1 : Int32)) hx hb dL_law_1321 (by decide) ?_
      refine lv_iadd hx hb dL_law_1322 ?_
      obtain ⟨hq, h⟩ := p_if h
      refine va_sld C.1 C.2.1 hX hbl hbA hw.2 hq dL_law_1323 ?_
      refine lv_aload_n hx hb dL_law_1324 rfl (lv_at hl 0 rfl) ?_
      refine lv_iload_n hx hb dL_law_1325 rfl (lv_at hl 3 rfl) ?_
      refine lv_iconst (v := (2 : Int32)) hx hb dL_law_1326 (by decide) ?_
      refine lv_iadd hx hb dL_law_1327 ?_
      obtain ⟨hq, h⟩ := p_if h
      refine va_sld C.1 C.2.1 hX hbl hbA hw.2 hq dL_law_1328 ?_
      refine lv_aload_n hx hb dL_law_1329 rfl (lv_at hl 0 rfl) ?_
      refine lv_iload_n hx hb dL_law_1330 rfl (lv_at hl 3 rfl) ?_
      refine lv_iconst (v := (3 : Int32)) hx hb dL_law_1331 (by decide) ?_
      refine lv_iadd hx hb dL_law_1332 ?_
      obtain ⟨hq, h⟩ := p_if h
      refine va_sld C.1 C.2.1 hX hbl hbA hw.2 hq dL_law_1333 ?_
      obtain ⟨⟨v140, z139⟩, hq, h⟩ := p_bd h
      dsimp only at h
      refine w_Vi C hw (As := [.int (xs (b3 + (1 : Int32)).toNatClampNeg), .int (xs (b3 + (2 : Int32)).toNatClampNeg), .int (xs (b3 + (3 : Int32)).toNatClampNeg)]) (rest := []) (c3_sheet l G x m (xs (b3 + (1 : Int32)).toNatClampNeg) (xs (b3 + (2 : Int32)).toNatClampNeg) (xs (b3 + (3 : Int32)).toNatClampNeg) (v140, z139) hq) kv_X3_sheet ml_L_166 ⟨rfl, rfl⟩ ⟨Nat.le_of_ble_eq_true rfl, Nat.le_of_ble_eq_true rfl⟩ ⟨Nat.le_refl _, Nat.le_refl _⟩ (w_recv C hw (wk_main G x m) rfl) rfl rfl (Nat.le_of_ble_eq_true rfl) (lv_sub hl [] rfl) dL_law_1334 (fun H locs hw => ?_)
      refine lv_aload_n hx hb dL_law_1337 rfl (lv_at hl 2 rfl) ?_
      refine lv_aload_n hx hb dL_law_1338 rfl (lv_at hl 0 rfl) ?_
      refine lv_iload_n hx hb dL_law_1339 rfl (lv_at hl 3 rfl) ?_
      refine lv_iconst (v := (1 : Int32)) hx hb dL_law_1340 (by decide) ?_
      refine lv_iadd hx hb dL_law_1341 ?_
      obtain ⟨hq, h⟩ := p_if h
      refine va_sld C.1 C.2.1 hX hbl hbA hw.2 hq dL_law_1342 ?_
      refine lv_aload_n hx hb dL_law_1343 rfl (lv_at hl 0 rfl) ?_
      refine lv_iload_n hx hb dL_law_1344 rfl (lv_at hl 3 rfl) ?_
      refine lv_iconst (v := (2 : Int32)) hx hb dL_law_1345 (by decide) ?_
      refine lv_iadd hx hb dL_law_1346 ?_
      obtain ⟨hq, h⟩ := p_if h
      refine va_sld C.1 C.2.1 hX hbl hbA hw.2 hq dL_law_1347 ?_
      refine lv_aload_n hx hb dL_law_1348 rfl (lv_at hl 0 rfl) ?_
      refine lv_iload_n hx hb dL_law_1349 rfl (lv_at hl 3 rfl) ?_
      refine lv_iconst (v := (3 : Int32)) hx hb dL_law_1350 (by decide) ?_
      refine lv_iadd hx hb dL_law_1351 ?_
      obtain ⟨hq, h⟩ := p_if h
      refine va_sld C.1 C.2.1 hX hbl hbA hw.2 hq dL_law_1352 ?_
      obtain ⟨⟨v142, z141⟩, hq, h⟩ := p_bd h
      dsimp only at h
      refine w_Vi C hw (As := [.int (xs (b3 + (1 : Int32)).toNatClampNeg), .int (xs (b3 + (2 : Int32)).toNatClampNeg), .int (xs (b3 + (3 : Int32)).toNatClampNeg)]) (rest := [.int v140]) (c4_sheet l G z139 m (xs (b3 + (1 : Int32)).toNatClampNeg) (xs (b3 + (2 : Int32)).toNatClampNeg) (xs (b3 + (3 : Int32)).toNatClampNeg) (v142, z141) hq) kv_X4_sheet ml_L_169 ⟨rfl, rfl⟩ ⟨Nat.le_of_ble_eq_true rfl, Nat.le_of_ble_eq_true rfl⟩ ⟨Nat.le_refl _, Nat.le_refl _⟩ (w_recv C hw (wk_model G z139 m) rfl) rfl rfl (Nat.le_of_ble_eq_true rfl) (lv_sub hl [] rfl) dL_law_1353 (fun H locs hw => ?_)
      refine lv_icmp_eq (tgt := 1598) hx hb dL_law_1356 (by decide) (fun hc => ?_) (fun hc => ?_)
      · replace h := p_t hc h
        exact B1598 b3 z139 z141 _ _ _ (lv_sub hl [0, 1, 2, 3] rfl) hw h
      · replace h := p_f hc h
        refine lv_iconst (v := (0 : Int32)) hx hb dL_law_1359 (by decide) ?_
        replace h := Option.some.inj h
        exact absurd h (by decide)
    have B1285 : ∀ (b3 : Int32) (x : St) (m : St) (H : Heap) (locs : List Loc) (ls : Array Slot), lv_has ls 4 [(0, .ref (b)), (1, .ref (gq G 0)), (2, .ref (gq G 25)), (3, .int b3)] → Wd G s x m H locs → fL_law_b1285 xs L (fL_law_L18 xs L n18) b3 x m = some 1 → W p l e room_1 s mm #[Value.ref b] below meth c H locs 600000 7302250 (lw_Z below #[Value.ref b] s) (F0 mm 1285 ls []) := by
      intro b3 x m H locs ls hl hw h
      unfold fL_law_b1285 at h
      refine lv_aload_n hx hb dL_law_1285 rfl (lv_at hl 1 rfl) ?_
      refine lv_aload_n hx hb dL_law_1286 rfl (lv_at hl 0 rfl) ?_
      refine lv_iload_n hx hb dL_law_1287 rfl (lv_at hl 3 rfl) ?_
      refine lv_iconst (v := (1 : Int32)) hx hb dL_law_1288 (by decide) ?_
      refine lv_iadd hx hb dL_law_1289 ?_
      obtain ⟨hq, h⟩ := p_if h
      refine va_sld C.1 C.2.1 hX hbl hbA hw.2 hq dL_law_1290 ?_
      refine lv_aload_n hx hb dL_law_1291 rfl (lv_at hl 0 rfl) ?_
      refine lv_iload_n hx hb dL_law_1292 rfl (lv_at hl 3 rfl) ?_
      refine lv_iconst (v := (2 : Int32)) hx hb dL_law_1293 (by decide) ?_
      refine lv_iadd hx hb dL_law_1294 ?_
      obtain ⟨hq, h⟩ := p_if h
      refine va_sld C.1 C.2.1 hX hbl hbA hw.2 hq dL_law_1295 ?_
      obtain ⟨⟨v136, z135⟩, hq, h⟩ := p_bd h
      dsimp only at h
      refine w_Vi C hw (As := [.int (xs (b3 + (1 : Int32)).toNatClampNeg), .int (xs (b3 + (2 : Int32)).toNatClampNeg)]) (rest := []) (c3_as l G x m (xs (b3 + (1 : Int32)).toNatClampNeg) (xs (b3 + (2 : Int32)).toNatClampNeg) (v136, z135) hq) kv_X3_as ml_L_162 ⟨rfl, rfl⟩ ⟨Nat.le_of_ble_eq_true rfl, Nat.le_of_ble_eq_true rfl⟩ ⟨Nat.le_refl _, Nat.le_refl _⟩ (w_recv C hw (wk_main G x m) rfl) rfl rfl (Nat.le_of_ble_eq_true rfl) (lv_sub hl [] rfl) dL_law_1296 (fun H locs hw => ?_)
      refine lv_aload_n hx hb dL_law_1299 rfl (lv_at hl 2 rfl) ?_
      refine lv_aload_n hx hb dL_law_1300 rfl (lv_at hl 0 rfl) ?_
      refine lv_iload_n hx hb dL_law_1301 rfl (lv_at hl 3 rfl) ?_
      refine lv_iconst (v := (1 : Int32)) hx hb dL_law_1302 (by decide) ?_
      refine lv_iadd hx hb dL_law_1303 ?_
      obtain ⟨hq, h⟩ := p_if h
      refine va_sld C.1 C.2.1 hX hbl hbA hw.2 hq dL_law_1304 ?_
      refine lv_aload_n hx hb dL_law_1305 rfl (lv_at hl 0 rfl) ?_
      refine lv_iload_n hx hb dL_law_1306 rfl (lv_at hl 3 rfl) ?_
      refine lv_iconst (v := (2 : Int32)) hx hb dL_law_1307 (by decide) ?_
      refine lv_iadd hx hb dL_law_1308 ?_
      obtain ⟨hq, h⟩ := p_if h
      refine va_sld C.1 C.2.1 hX hbl hbA hw.2 hq dL_law_1309 ?_
      obtain ⟨⟨v138, z137⟩, hq, h⟩ := p_bd h
      dsimp only at h
      refine w_Vi C hw (As := [.int (xs (b3 + (1 : Int32)).toNatClampNeg), .int (xs (b3 + (2 : Int32)).toNatClampNeg)]) (rest := [.int v136]) (c4_as l G z135 m (xs (b3 + (1 : Int32)).toNatClampNeg) (xs (b3 + (2 : Int32)).toNatClampNeg) (v138, z137) hq) kv_X4_as ml_L_165 ⟨rfl, rfl⟩ ⟨Nat.le_of_ble_eq_true rfl, Nat.le_of_ble_eq_true rfl⟩ ⟨Nat.le_refl _, Nat.le_refl _⟩ (w_recv C hw (wk_model G z135 m) rfl) rfl rfl (Nat.le_of_ble_eq_true rfl) (lv_sub hl [] rfl) dL_law_1310 (fun H locs hw => ?_)
      refine lv_icmp_eq (tgt := 1598) hx hb dL_law_1313 (by decide) (fun hc => ?_) (fun hc => ?_)
      · replace h := p_t hc h
        exact B1598 b3 z135 z137 _ _ _ (lv_sub hl [0, 1, 2, 3] rfl) hw h
      · replace h := p_f hc h
        refine lv_iconst (v := (0 : Int32)) hx hb dL_law_1316 (by decide) ?_
        replace h := Option.some.inj h
        exact absurd h (by decide)
    have B1252 : ∀ (b3 : Int32) (x : St) (m : St) (H : Heap) (locs : List Loc) (ls : Array Slot), lv_has ls 4 [(0, .ref (b)), (1, .ref (gq G 0)), (2, .ref (gq G 25)), (3, .int b3)] → Wd G s x m H locs → fL_law_b1252 xs L (fL_law_L18 xs L n18) b3 x m = some 1 → W p l e room_1 s mm #[Value.ref b] below meth c H locs 600000 7302250 (lw_Z below #[Value.ref b] s) (F0 mm 1252 ls []) := by
      intro b3 x m H locs ls hl hw h
      unfold fL_law_b1252 at h
      refine lv_aload_n hx hb dL_law_1252 rfl (lv_at hl 1 rfl) ?_
      refine lv_aload_n hx hb dL_law_1253 rfl (lv_at hl 0 rfl) ?_
      refine lv_iload_n hx hb dL_law_1254 rfl (lv_at hl 3 rfl) ?_
      refine lv_iconst (v := (1 : Int32)) hx hb dL_law_1255 (by decide) ?_
      refine lv_iadd hx hb dL_law_1256 ?_
      obtain ⟨hq, h⟩ := p_if h
      refine va_sld C.1 C.2.1 hX hbl hbA hw.2 hq dL_law_1257 ?_
      refine lv_aload_n hx hb dL_law_1258 rfl (lv_at hl 0 rfl) ?_
      refine lv_iload_n hx hb dL_law_1259 rfl (lv_at hl 3 rfl) ?_
      refine lv_iconst (v := (2 : Int32)) hx hb dL_law_1260 (by decide) ?_
      refine lv_iadd hx hb dL_law_1261 ?_
      obtain ⟨hq, h⟩ := p_if h
      refine va_sld C.1 C.2.1 hX hbl hbA hw.2 hq dL_law_1262 ?_
      obtain ⟨⟨v132, z131⟩, hq, h⟩ := p_bd h
      dsimp only at h
      refine w_Vi C hw (As := [.int (xs (b3 + (1 : Int32)).toNatClampNeg), .int (xs (b3 + (2 : Int32)).toNatClampNeg)]) (rest := []) (c3_hold l G x m (xs (b3 + (1 : Int32)).toNatClampNeg) (xs (b3 + (2 : Int32)).toNatClampNeg) (v132, z131) hq) kv_X3_hold ml_L_158 ⟨rfl, rfl⟩ ⟨Nat.le_of_ble_eq_true rfl, Nat.le_of_ble_eq_true rfl⟩ ⟨Nat.le_refl _, Nat.le_refl _⟩ (w_recv C hw (wk_main G x m) rfl) rfl rfl (Nat.le_of_ble_eq_true rfl) (lv_sub hl [] rfl) dL_law_1263 (fun H locs hw => ?_)
      refine lv_aload_n hx hb dL_law_1266 rfl (lv_at hl 2 rfl) ?_
      refine lv_aload_n hx hb dL_law_1267 rfl (lv_at hl 0 rfl) ?_
      refine lv_iload_n hx hb dL_law_1268 rfl (lv_at hl 3 rfl) ?_
      refine lv_iconst (v := (1 : Int32)) hx hb dL_law_1269 (by decide) ?_
      refine lv_iadd hx hb dL_law_1270 ?_
      obtain ⟨hq, h⟩ := p_if h
      refine va_sld C.1 C.2.1 hX hbl hbA hw.2 hq dL_law_1271 ?_
      refine lv_aload_n hx hb dL_law_1272 rfl (lv_at hl 0 rfl) ?_
      refine lv_iload_n hx hb dL_law_1273 rfl (lv_at hl 3 rfl) ?_
      refine lv_iconst (v := (2 : Int32)) hx hb dL_law_1274 (by decide) ?_
      refine lv_iadd hx hb dL_law_1275 ?_
      obtain ⟨hq, h⟩ := p_if h
      refine va_sld C.1 C.2.1 hX hbl hbA hw.2 hq dL_law_1276 ?_
      obtain ⟨⟨v134, z133⟩, hq, h⟩ := p_bd h
      dsimp only at h
      refine w_Vi C hw (As := [.int (xs (b3 + (1 : Int32)).toNatClampNeg), .int (xs (b3 + (2 : Int32)).toNatClampNeg)]) (rest := [.int v132]) (c4_hold l G z131 m (xs (b3 + (1 : Int32)).toNatClampNeg) (xs (b3 + (2 : Int32)).toNatClampNeg) (v134, z133) hq) kv_X4_hold ml_L_161 ⟨rfl, rfl⟩ ⟨Nat.le_of_ble_eq_true rfl, Nat.le_of_ble_eq_true rfl⟩ ⟨Nat.le_refl _, Nat.le_refl _⟩ (w_recv C hw (wk_model G z131 m) rfl) rfl rfl (Nat.le_of_ble_eq_true rfl) (lv_sub hl [] rfl) dL_law_1277 (fun H locs hw => ?_)
      refine lv_icmp_eq (tgt := 1598) hx hb dL_law_1280 (by decide) (fun hc => ?_) (fun hc => ?_)
      · replace h := p_t hc h
        exact B1598 b3 z131 z133 _ _ _ (lv_sub hl [0, 1, 2, 3] rfl) hw h
      · replace h := p_f hc h
        refine lv_iconst (v := (0 : Int32)) hx hb dL_law_1283 (by decide) ?_
        replace h := Option.some.inj h
        exact absurd h (by decide)
    have B1239 : ∀ (b3 : Int32) (x : St) (m : St) (H : Heap) (locs : List Loc) (ls : Array Slot), lv_has ls 4 [(0, .ref (b)), (1, .ref (gq G 0)), (2, .ref (gq G 25)), (3, .int b3)] → Wd G s x m H locs → fL_law_b1239 xs L (fL_law_L18 xs L n18) b3 x m = some 1 → W p l e room_1 s mm #[Value.ref b] below meth c H locs 600000 7302250 (lw_Z below #[Value.ref b] s) (F0 mm 1239 ls []) := by
      intro b3 x m H locs ls hl hw h
      unfold fL_law_b1239 at h
      refine lv_aload_n hx hb dL_law_1239 rfl (lv_at hl 1 rfl) ?_
      obtain ⟨⟨v128, z127⟩, hq, h⟩ := p_bd h
      dsimp only at h
      refine w_Vi C hw (As := []) (rest := []) (c3_text l G x m (v128, z127) hq) kv_X3_text ml_L_154 ⟨rfl, rfl⟩ ⟨Nat.le_of_ble_eq_true rfl, Nat.le_of_ble_eq_true rfl⟩ ⟨Nat.le_refl _, Nat.le_refl _⟩ (w_recv C hw (wk_main G x m) rfl) rfl rfl (Nat.le_of_ble_eq_true rfl) (lv_sub hl [] rfl) dL_law_1240 (fun H locs hw => ?_)
      refine lv_aload_n hx hb dL_law_1243 rfl (lv_at hl 2 rfl) ?_
      obtain ⟨⟨v130, z129⟩, hq, h⟩ := p_bd h
      dsimp only at h
      refine w_Vi C hw (As := []) (rest := [.int v128]) (c4_text l G z127 m (v130, z129) hq) kv_X4_text ml_L_157 ⟨rfl, rfl⟩ ⟨Nat.le_of_ble_eq_true rfl, Nat.le_of_ble_eq_true rfl⟩ ⟨Nat.le_refl _, Nat.le_refl _⟩ (w_recv C hw (wk_model G z127 m) rfl) rfl rfl (Nat.le_of_ble_eq_true rfl) (lv_sub hl [] rfl) dL_law_1244 (fun H locs hw => ?_)
      refine lv_icmp_eq (tgt := 1598) hx hb dL_law_1247 (by decide) (fun hc => ?_) (fun hc => ?_)
      · replace h := p_t hc h
        exact B1598 b3 z127 z129 _ _ _ (lv_sub hl [0, 1, 2, 3] rfl) hw h
      · replace h := p_f hc h
        refine lv_iconst (v := (0 : Int32)) hx hb dL_law_1250 (by decide) ?_
        replace h := Option.some.inj h
        exact absurd h (by decide)
    have B1226 : ∀ (b3 : Int32) (x : St) (m : St) (H : Heap) (locs : List Loc) (ls : Array Slot), lv_has ls 4 [(0, .ref (b)), (1, .ref (gq G 0)), (2, .ref (gq G 25)), (3, .int b3)] → Wd G s x m H locs → fL_law_b1226 xs L (fL_law_L18 xs L n18) b3 x m = some 1 → W p l e room_1 s mm #[Value.ref b] below meth c H locs 600000 7302250 (lw_Z below #[Value.ref b] s) (F0 mm 1226 ls []) := by
      intro b3 x m H locs ls hl hw h
      unfold fL_law_b1226 at h
      refine lv_aload_n hx hb dL_law_1226 rfl (lv_at hl 1 rfl) ?_
      refine w_Vi C hw (As := []) (rest := []) (c3_wipe l G x m _ rfl) kv_X3_wipe ml_L_150 ⟨rfl, rfl⟩ ⟨Nat.le_of_ble_eq_true rfl, Nat.le_of_ble_eq_true rfl⟩ ⟨Nat.le_refl _, Nat.le_refl _⟩ (w_recv C hw (wk_main G x m) rfl) rfl rfl (Nat.le_of_ble_eq_true rfl) (lv_sub hl [] rfl) dL_law_1227 (fun H locs hw => ?_)
      refine lv_aload_n hx hb dL_law_1230 rfl (lv_at hl 2 rfl) ?_
      refine w_Vi C hw (As := []) (rest := [.int (f3_wipe x).1]) (c4_wipe l G (f3_wipe x).2 m _ rfl) kv_X4_wipe ml_L_153 ⟨rfl, rfl⟩ ⟨Nat.le_of_ble_eq_true rfl, Nat.le_of_ble_eq_true rfl⟩ ⟨Nat.le_refl _, Nat.le_refl _⟩ (w_recv C hw (wk_model G (f3_wipe x).2 m) rfl) rfl rfl (Nat.le_of_ble_eq_true rfl) (lv_sub hl [] rfl) dL_law_1231 (fun H locs hw => ?_)
      refine lv_icmp_eq (tgt := 1598) hx hb dL_law_1234 (by decide) (fun hc => ?_) (fun hc => ?_)
      · replace h := p_t hc h
        exact B1598 b3 (f3_wipe x).2 (f4_wipe m).2 _ _ _ (lv_sub hl [0, 1, 2, 3] rfl) hw h
      · replace h := p_f hc h
        refine lv_iconst (v := (0 : Int32)) hx hb dL_law_1237 (by decide) ?_
        replace h := Option.some.inj h
        exact absurd h (by decide)
    have B1193 : ∀ (b3 : Int32) (x : St) (m : St) (H : Heap) (locs : List Loc) (ls : Array Slot), lv_has ls 4 [(0, .ref (b)), (1, .ref (gq G 0)), (2, .ref (gq G 25)), (3, .int b3)] → Wd G s x m H locs → fL_law_b1193 xs L (fL_law_L18 xs L n18) b3 x m = some 1 → W p l e room_1 s mm #[Value.ref b] below meth c H locs 600000 7302250 (lw_Z below #[Value.ref b] s) (F0 mm 1193 ls []) := by
      intro b3 x m H locs ls hl hw h
      unfold fL_law_b1193 at h
      refine lv_aload_n hx hb dL_law_1193 rfl (lv_at hl 1 rfl) ?_
      refine lv_aload_n hx hb dL_law_1194 rfl (lv_at hl 0 rfl) ?_
      refine lv_iload_n hx hb dL_law_1195 rfl (lv_at hl 3 rfl) ?_
      refine lv_iconst (v := (1 : Int32)) hx hb dL_law_1196 (by decide) ?_
      refine lv_iadd hx hb dL_law_1197 ?_
      obtain ⟨hq, h⟩ := p_if h
      refine va_sld C.1 C.2.1 hX hbl hbA hw.2 hq dL_law_1198 ?_
      refine lv_aload_n hx hb dL_law_1199 rfl (lv_at hl 0 rfl) ?_
      refine lv_iload_n hx hb dL_law_1200 rfl (lv_at hl 3 rfl) ?_
      refine lv_iconst (v := (2 : Int32)) hx hb dL_law_1201 (by decide) ?_
      refine lv_iadd hx hb dL_law_1202 ?_
      obtain ⟨hq, h⟩ := p_if h
      refine va_sld C.1 C.2.1 hX hbl hbA hw.2 hq dL_law_1203 ?_
      obtain ⟨⟨v124, z123⟩, hq, h⟩ := p_bd h
      dsimp only at h
      refine w_Vi C hw (As := [.int (xs (b3 + (1 : Int32)).toNatClampNeg), .int (xs (b3 + (2 : Int32)).toNatClampNeg)]) (rest := []) (c3_feed l G x m (xs (b3 + (1 : Int32)).toNatClampNeg) (xs (b3 + (2 : Int32)).toNatClampNeg) (v124, z123) hq) kv_X3_feed ml_L_146 ⟨rfl, rfl⟩ ⟨Nat.le_of_ble_eq_true rfl, Nat.le_of_ble_eq_true rfl⟩ ⟨Nat.le_refl _, Nat.le_refl _⟩ (w_recv C hw (wk_main G x m) rfl) rfl rfl (Nat.le_of_ble_eq_true rfl) (lv_sub hl [] rfl) dL_law_1204 (fun H locs hw => ?_)
      refine lv_aload_n hx hb dL_law_1207 rfl (lv_at hl 2 rfl) ?_
      refine lv_aload_n hx hb dL_law_1208 rfl (lv_at hl 0 rfl) ?_
      refine lv_iload_n hx hb dL_law_1209 rfl (lv_at hl 3 rfl) ?_
      refine lv_iconst (v := (1 : Int32)) hx hb dL_law_1210 (by decide) ?_
      refine lv_iadd hx hb dL_law_1211 ?_
      obtain ⟨hq, h⟩ := p_if h
      refine va_sld C.1 C.2.1 hX hbl hbA hw.2 hq dL_law_1212 ?_
      refine lv_aload_n hx hb dL_law_1213 rfl (lv_at hl 0 rfl) ?_
      refine lv_iload_n hx hb dL_law_1214 rfl (lv_at hl 3 rfl) ?_
      refine lv_iconst (v := (2 : Int32)) hx hb dL_law_1215 (by decide) ?_
      refine lv_iadd hx hb dL_law_1216 ?_
      obtain ⟨hq, h⟩ := p_if h
      refine va_sld C.1 C.2.1 hX hbl hbA hw.2 hq dL_law_1217 ?_
      obtain ⟨⟨v126, z125⟩, hq, h⟩ := p_bd h
      dsimp only at h
      refine w_Vi C hw (As := [.int (xs (b3 + (1 : Int32)).toNatClampNeg), .int (xs (b3 + (2 : Int32)).toNatClampNeg)]) (rest := [.int v124]) (c4_feed l G z123 m (xs (b3 + (1 : Int32)).toNatClampNeg) (xs (b3 + (2 : Int32)).toNatClampNeg) (v126, z125) hq) kv_X4_feed ml_L_149 ⟨rfl, rfl⟩ ⟨Nat.le_of_ble_eq_true rfl, Nat.le_of_ble_eq_true rfl⟩ ⟨Nat.le_refl _, Nat.le_refl _⟩ (w_recv C hw (wk_model G z123 m) rfl) rfl rfl (Nat.le_of_ble_eq_true rfl) (lv_sub hl [] rfl) dL_law_1218 (fun H locs hw => ?_)
      refine lv_icmp_eq (tgt := 1598) hx hb dL_law_1221 (by decide) (fun hc => ?_) (fun hc => ?_)
      · replace h := p_t hc h
        exact B1598 b3 z123 z125 _ _ _ (lv_sub hl [0, 1, 2, 3] rfl) hw h
      · replace h := p_f hc h
        refine lv_iconst (v := (0 : Int32)) hx hb dL_law_1224 (by decide) ?_
        replace h := Option.some.inj h
        exact absurd h (by decide)
    have B1170 : ∀ (b3 : Int32) (x : St) (m : St) (H : Heap) (locs : List Loc) (ls : Array Slot), lv_has ls 4 [(0, .ref (b)), (1, .ref (gq G 0)), (2, .ref (gq G 25)), (3, .int b3)] → Wd G s x m H locs → fL_law_b1170 xs L (fL_law_L18 xs L n18) b3 x m = some 1 → W p l e room_1 s mm #[Value.ref b] below meth c H locs 600000 7302250 (lw_Z below #[Value.ref b] s) (F0 mm 1170 ls []) := by
      intro b3 x m H locs ls hl hw h
      unfold fL_law_b1170 at h
      refine lv_aload_n hx hb dL_law_1170 rfl (lv_at hl 1 rfl) ?_
      refine lv_aload_n hx hb dL_law_1171 rfl (lv_at hl 0 rfl) ?_
      refine lv_iload_n hx hb dL_law_1172 rfl (lv_at hl 3 rfl) ?_
      refine lv_iconst (v := (1 : Int32)) hx hb dL_law_1173 (by decide) ?_
      refine lv_iadd hx hb dL_law_1174 ?_
      obtain ⟨hq, h⟩ := p_if h
      refine va_sld C.1 C.2.1 hX hbl hbA hw.2 hq dL_law_1175 ?_
      refine w_Vi C hw (As := [.int (xs (b3 + (1 : Int32)).toNatClampNeg)]) (rest := []) (c3_seed l G x m (xs (b3 + (1 : Int32)).toNatClampNeg) _ rfl) kv_X3_seed ml_L_142 ⟨rfl, rfl⟩ ⟨Nat.le_of_ble_eq_true rfl, Nat.le_of_ble_eq_true rfl⟩ ⟨Nat.le_refl _, Nat.le_refl _⟩ (w_recv C hw (wk_main G x m) rfl) rfl rfl (Nat.le_of_ble_eq_true rfl) (lv_sub hl [] rfl) dL_law_1176 (fun H locs hw => ?_)
      refine lv_aload_n hx hb dL_law_1179 rfl (lv_at hl 2 rfl) ?_
      refine lv_aload_n hx hb dL_law_1180 rfl (lv_at hl 0 rfl) ?_
      refine lv_iload_n hx hb dL_law_1181 rfl (lv_at hl 3 rfl) ?_
      refine lv_iconst (v := (1 : Int32)) hx hb dL_law_1182 (by decide) ?_
      refine lv_iadd hx hb dL_law_1183 ?_
      obtain ⟨hq, h⟩ := p_if h
      refine va_sld C.1 C.2.1 hX hbl hbA hw.2 hq dL_law_1184 ?_
      obtain ⟨⟨v122, z121⟩, hq, h⟩ := p_bd h
      dsimp only at h
      refine w_Vi C hw (As := [.int (xs (b3 + (1 : Int32)).toNatClampNeg)]) (rest := [.int (f3_seed (xs (b3 + (1 : Int32)).toNatClampNeg) x).1]) (c4_seed l G (f3_seed (xs (b3 + (1 : Int32)).toNatClampNeg) x).2 m (xs (b3 + (1 : Int32)).toNatClampNeg) (v122, z121) hq) kv_X4_seed ml_L_145 ⟨rfl, rfl⟩ ⟨Nat.le_of_ble_eq_true rfl, Nat.le_of_ble_eq_true rfl⟩ ⟨Nat.le_refl _, Nat.le_refl _⟩ (w_recv C hw (wk_model G (f3_seed (xs (b3 + (1 : Int32)).toNatClampNeg) x).2 m) rfl) rfl rfl (Nat.le_of_ble_eq_true rfl) (lv_sub hl [] rfl) dL_law_1185 (fun H locs hw => ?_)
      refine lv_icmp_eq (tgt := 1598) hx hb dL_law_1188 (by decide) (fun hc => ?_) (fun hc => ?_)
      · replace h := p_t hc h
        exact B1598 b3 (f3_seed (xs (b3 + (1 : Int32)).toNatClampNeg) x).2 z121 _ _ _ (lv_sub hl [0, 1, 2, 3] rfl) hw h
      · replace h := p_f hc h
        refine lv_iconst (v := (0 : Int32)) hx hb dL_law_1191 (by decide) ?_
        replace h := Option.some.inj h
        exact absurd h (by decide)
    have B1126 : ∀ (b3 : Int32) (x : St) (m : St) (H : Heap) (locs : List Loc) (ls : Array Slot), lv_has ls 4 [(0, .ref (b)), (1, .ref (gq G 0)), (2, .ref (gq G 25)), (3, .int b3)] → Wd G s x m H locs → fL_law_b1126 xs L (fL_law_L18 xs L n18) b3 x m = some 1 → W p l e room_1 s mm #[Value.ref b] below meth c H locs 600000 7302250 (lw_Z below #[Value.ref b] s) (F0 mm 1126 ls []) := by
      intro b3 x m H locs ls hl hw h
      unfold fL_law_b1126 at h
      refine lv_aload_n hx hb dL_law_1126 rfl (lv_at hl 1 rfl) ?_
      refine lv_aload_n hx hb dL_law_1127 rfl (lv_at hl 0 rfl) ?_
      refine lv_iload_n hx hb dL_law_1128 rfl (lv_at hl 3 rfl) ?_
      refine lv_iconst (v := (1 : Int32)) hx hb dL_law_1129 (by decide) ?_
      refine lv_iadd hx hb dL_law_1130 ?_
      obtain ⟨hq, h⟩ := p_if h
      refine va_sld C.1 C.2.1 hX hbl hbA hw.2 hq dL_law_1131 ?_
      refine lv_aload_n hx hb dL_law_1132 rfl (lv_at hl 0 rfl) ?_
      refine lv_iload_n hx hb dL_law_1133 rfl (lv_at hl 3 rfl) ?_
      refine lv_iconst (v := (2 : Int32)) hx hb dL_law_1134 (by decide) ?_
      refine lv_iadd hx hb dL_law_1135 ?_
      obtain ⟨hq, h⟩ := p_if h
      refine va_sld C.1 C.2.1 hX hbl hbA hw.2 hq dL_law_1136 ?_
      refine lv_aload_n hx hb dL_law_1137 rfl (lv_at hl 0 rfl) ?_
      refine lv_iload_n hx hb dL_law_1138 rfl (lv_at hl 3 rfl) ?_
      refine lv_iconst (v := (3 : Int32)) hx hb dL_law_1139 (by decide) ?_
      refine lv_iadd hx hb dL_law_1140 ?_
      obtain ⟨hq, h⟩ := p_if h
      refine va_sld C.1 C.2.1 hX hbl hbA hw.2 hq dL_law_1141 ?_
      obtain ⟨⟨v118, z117⟩, hq, h⟩ := p_bd h
      dsimp only at h
      refine w_Vl C hw (As := [.int (xs (b3 + (1 : Int32)).toNatClampNeg), .int (xs (b3 + (2 : Int32)).toNatClampNeg), .int (xs (b3 + (3 : Int32)).toNatClampNeg)]) (rest := []) (c3_odds l G x m (xs (b3 + (1 : Int32)).toNatClampNeg) (xs (b3 + (2 : Int32)).toNatClampNeg) (xs (b3 + (3 : Int32)).toNatClampNeg) (v118, z117) hq) kv_X3_odds ml_L_137 ⟨rfl, rfl⟩ ⟨Nat.le_of_ble_eq_true rfl, Nat.le_of_ble_eq_true rfl⟩ ⟨Nat.le_refl _, Nat.le_refl _⟩ (w_recv C hw (wk_main G x m) rfl) rfl rfl (Nat.le_of_ble_eq_true rfl) (lv_sub hl [] rfl) dL_law_1142 (fun H locs hw => ?_)
      refine lv_aload_n hx hb dL_law_1145 rfl (lv_at hl 2 rfl) ?_
      refine lv_aload_n hx hb dL_law_1146 rfl (lv_at hl 0 rfl) ?_
      refine lv_iload_n hx hb dL_law_1147 rfl (lv_at hl 3 rfl) ?_
      refine lv_iconst (v := (1 : Int32)) hx hb dL_law_1148 (by decide) ?_
      refine lv_iadd hx hb dL_law_1149 ?_
      obtain ⟨hq, h⟩ := p_if h
      refine va_sld C.1 C.2.1 hX hbl hbA hw.2 hq dL_law_1150 ?_
      refine lv_aload_n hx hb dL_law_1151 rfl (lv_at hl 0 rfl) ?_
      refine lv_iload_n hx hb dL_law_1152 rfl (lv_at hl 3 rfl) ?_
      refine lv_iconst (v := (2 : Int32)) hx hb dL_law_1153 (by decide) ?_
      refine lv_iadd hx hb dL_law_1154 ?_
      obtain ⟨hq, h⟩ := p_if h
      refine va_sld C.1 C.2.1 hX hbl hbA hw.2 hq dL_law_1155 ?_
      refine lv_aload_n hx hb dL_law_1156 rfl (lv_at hl 0 rfl) ?_
      refine lv_iload_n hx hb dL_law_1157 rfl (lv_at hl 3 rfl) ?_
      refine lv_iconst (v := (3 : Int32)) hx hb dL_law_1158 (by decide) ?_
      refine lv_iadd hx hb dL_law_1159 ?_
      obtain ⟨hq, h⟩ := p_if h
      refine va_sld C.1 C.2.1 hX hbl hbA hw.2 hq dL_law_1160 ?_
      obtain ⟨⟨v120, z119⟩, hq, h⟩ := p_bd h
      dsimp only at h
      refine w_Vl C hw (As := [.int (xs (b3 + (1 : Int32)).toNatClampNeg), .int (xs (b3 + (2 : Int32)).toNatClampNeg), .int (xs (b3 + (3 : Int32)).toNatClampNeg)]) (rest := [.long v118]) (c4_odds l G z117 m (xs (b3 + (1 : Int32)).toNatClampNeg) (xs (b3 + (2 : Int32)).toNatClampNeg) (xs (b3 + (3 : Int32)).toNatClampNeg) (v120, z119) hq) kv_X4_odds ml_L_141 ⟨rfl, rfl⟩ ⟨Nat.le_of_ble_eq_true rfl, Nat.le_of_ble_eq_true rfl⟩ ⟨Nat.le_refl _, Nat.le_refl _⟩ (w_recv C hw (wk_model G z117 m) rfl) rfl rfl (Nat.le_of_ble_eq_true rfl) (lv_sub hl [] rfl) dL_law_1161 (fun H locs hw => ?_)
      refine W.lcmp hx hb dL_law_1164 ?_
      refine lv_if_eq (tgt := 1598) hx hb dL_law_1165 (by decide) (fun hc => ?_) (fun hc => ?_)
      · replace h := p_t hc h
        exact B1598 b3 z117 z119 _ _ _ (lv_sub hl [0, 1, 2, 3] rfl) hw h
      · replace h := p_f hc h
        refine lv_iconst (v := (0 : Int32)) hx hb dL_law_1168 (by decide) ?_
        replace h := Option.some.inj h
        exact absurd h (by decide)
    have B1103 : ∀ (b3 : Int32) (x : St) (m : St) (H : Heap) (locs : List Loc) (ls : Array Slot), lv_has ls 4 [(0, .ref (b)), (1, .ref (gq G 0)), (2, .ref (gq G 25)), (3, .int b3)] → Wd G s x m H locs → fL_law_b1103 xs L (fL_law_L18 xs L n18) b3 x m = some 1 → W p l e room_1 s mm #[Value.ref b] below meth c H locs 600000 7302250 (lw_Z below #[Value.ref b] s) (F0 mm 1103 ls []) := by
      intro b3 x m H locs ls hl hw h
      unfold fL_law_b1103 at h
      refine lv_aload_n hx hb dL_law_1103 rfl (lv_at hl 1 rfl) ?_
      refine lv_aload_n hx hb dL_law_1104 rfl (lv_at hl 0 rfl) ?_
      refine lv_iload_n hx hb dL_law_1105 rfl (lv_at hl 3 rfl) ?_
      refine lv_iconst (v := (1 : Int32)) hx hb dL_law_1106 (by decide) ?_
      refine lv_iadd hx hb dL_law_1107 ?_
      obtain ⟨hq, h⟩ := p_if h
      refine va_sld C.1 C.2.1 hX hbl hbA hw.2 hq dL_law_1108 ?_
      obtain ⟨⟨v114, z113⟩, hq, h⟩ := p_bd h
      dsimp only at h
      refine w_Vi C hw (As := [.int (xs (b3 + (1 : Int32)).toNatClampNeg)]) (rest := []) (c3_frosts l G x m (xs (b3 + (1 : Int32)).toNatClampNeg) (v114, z113) hq) kv_X3_frosts ml_L_133 ⟨rfl, rfl⟩ ⟨Nat.le_of_ble_eq_true rfl, Nat.le_of_ble_eq_true rfl⟩ ⟨Nat.le_refl _, Nat.le_refl _⟩ (w_recv C hw (wk_main G x m) rfl) rfl rfl (Nat.le_of_ble_eq_true rfl) (lv_sub hl [] rfl) dL_law_1109 (fun H locs hw => ?_)
      refine lv_aload_n hx hb dL_law_1112 rfl (lv_at hl 2 rfl) ?_
      refine lv_aload_n hx hb dL_law_1113 rfl (lv_at hl 0 rfl) ?_
      refine lv_iload_n hx hb dL_law_1114 rfl (lv_at hl 3 rfl) ?_
      refine lv_iconst (v := (1 : Int32)) hx hb dL_law_1115 (by decide) ?_
      refine lv_iadd hx hb dL_law_1116 ?_
      obtain ⟨hq, h⟩ := p_if h
      refine va_sld C.1 C.2.1 hX hbl hbA hw.2 hq dL_law_1117 ?_
      obtain ⟨⟨v116, z115⟩, hq, h⟩ := p_bd h
      dsimp only at h
      refine w_Vi C hw (As := [.int (xs (b3 + (1 : Int32)).toNatClampNeg)]) (rest := [.int v114]) (c4_frosts l G z113 m (xs (b3 + (1 : Int32)).toNatClampNeg) (v116, z115) hq) kv_X4_frosts ml_L_136 ⟨rfl, rfl⟩ ⟨Nat.le_of_ble_eq_true rfl, Nat.le_of_ble_eq_true rfl⟩ ⟨Nat.le_refl _, Nat.le_refl _⟩ (w_recv C hw (wk_model G z113 m) rfl) rfl rfl (Nat.le_of_ble_eq_true rfl) (lv_sub hl [] rfl) dL_law_1118 (fun H locs hw => ?_)
      refine lv_icmp_eq (tgt := 1598) hx hb dL_law_1121 (by decide) (fun hc => ?_) (fun hc => ?_)
      · replace h := p_t hc h
        exact B1598 b3 z113 z115 _ _ _ (lv_sub hl [0, 1, 2, 3] rfl) hw h
      · replace h := p_f hc h
        refine lv_iconst (v := (0 : Int32)) hx hb dL_law_1124 (by decide) ?_
        replace h := Option.some.inj h
        exact absurd h (by decide)
    have B1090 : ∀ (b3 : Int32) (x : St) (m : St) (H : Heap) (locs : List Loc) (ls : Array Slot), lv_has ls 4 [(0, .ref (b)), (1, .ref (gq G 0)), (2, .ref (gq G 25)), (3, .int b3)] → Wd G s x m H locs → fL_law_b1090 xs L (fL_law_L18 xs L n18) b3 x m = some 1 → W p l e room_1 s mm #[Value.ref b] below meth c H locs 600000 7302250 (lw_Z below #[Value.ref b] s) (F0 mm 1090 ls []) := by
      intro b3 x m H locs ls hl hw h
      unfold fL_law_b1090 at h
      refine lv_aload_n hx hb dL_law_1090 rfl (lv_at hl 1 rfl) ?_
      obtain ⟨v111, hq, h⟩ := p_bd h
      refine w_Vi C hw (As := []) (rest := []) (c3_rents l G x m v111 hq) kv_X3_rents ml_L_129 ⟨rfl, rfl⟩ ⟨Nat.le_of_ble_eq_true rfl, Nat.le_of_ble_eq_true rfl⟩ ⟨Nat.le_refl _, Nat.le_refl _⟩ (w_recv C hw (wk_main G x m) rfl) rfl rfl (Nat.le_of_ble_eq_true rfl) (lv_sub hl [] rfl) dL_law_1091 (fun H locs hw => ?_)
      refine lv_aload_n hx hb dL_law_1094 rfl (lv_at hl 2 rfl) ?_
      obtain ⟨v112, hq, h⟩ := p_bd h
      refine w_Vi C hw (As := []) (rest := [.int v111]) (c4_rents l G x m v112 hq) kv_X4_rents ml_L_132 ⟨rfl, rfl⟩ ⟨Nat.le_of_ble_eq_true rfl, Nat.le_of_ble_eq_true rfl⟩ ⟨Nat.le_refl _, Nat.le_refl _⟩ (w_recv C hw (wk_model G x m) rfl) rfl rfl (Nat.le_of_ble_eq_true rfl) (lv_sub hl [] rfl) dL_law_1095 (fun H locs hw => ?_)
      refine lv_icmp_eq (tgt := 1598) hx hb dL_law_1098 (by decide) (fun hc => ?_) (fun hc => ?_)
      · replace h := p_t hc h
        exact B1598 b3 x m _ _ _ (lv_sub hl [0, 1, 2, 3] rfl) hw h
      · replace h := p_f hc h
        refine lv_iconst (v := (0 : Int32)) hx hb dL_law_1101 (by decide) ?_
        replace h := Option.some.inj h
        exact absurd h (by decide)
    have B1077 : ∀ (b3 : Int32) (x : St) (m : St) (H : Heap) (locs : List Loc) (ls : Array Slot), lv_has ls 4 [(0, .ref (b)), (1, .ref (gq G 0)), (2, .ref (gq G 25)), (3, .int b3)] → Wd G s x m H locs → fL_law_b1077 xs L (fL_law_L18 xs L n18) b3 x m = some 1 → W p l e room_1 s mm #[Value.ref b] below meth c H locs 600000 7302250 (lw_Z below #[Value.ref b] s) (F0 mm 1077 ls []) := by
      intro b3 x m H locs ls hl hw h
      unfold fL_law_b1077 at h
      refine lv_aload_n hx hb dL_law_1077 rfl (lv_at hl 1 rfl) ?_
      obtain ⟨v109, hq, h⟩ := p_bd h
      refine w_Vi C hw (As := []) (rest := []) (c3_dearest l G x m v109 hq) kv_X3_dearest ml_L_125 ⟨rfl, rfl⟩ ⟨Nat.le_of_ble_eq_true rfl, Nat.le_of_ble_eq_true rfl⟩ ⟨Nat.le_refl _, Nat.le_refl _⟩ (w_recv C hw (wk_main G x m) rfl) rfl rfl (Nat.le_of_ble_eq_true rfl) (lv_sub hl [] rfl) dL_law_1078 (fun H locs hw => ?_)
      refine lv_aload_n hx hb dL_law_1081 rfl (lv_at hl 2 rfl) ?_
      obtain ⟨v110, hq, h⟩ := p_bd h
      refine w_Vi C hw (As := []) (rest := [.int v109]) (c4_dearest l G x m v110 hq) kv_X4_dearest ml_L_128 ⟨rfl, rfl⟩ ⟨Nat.le_of_ble_eq_true rfl, Nat.le_of_ble_eq_true rfl⟩ ⟨Nat.le_refl _, Nat.le_refl _⟩ (w_recv C hw (wk_model G x m) rfl) rfl rfl (Nat.le_of_ble_eq_true rfl) (lv_sub hl [] rfl) dL_law_1082 (fun H locs hw => ?_)
      refine lv_icmp_eq (tgt := 1598) hx hb dL_law_1085 (by decide) (fun hc => ?_) (fun hc => ?_)
      · replace h := p_t hc h
        exact B1598 b3 x m _ _ _ (lv_sub hl [0, 1, 2, 3] rfl) hw h
      · replace h := p_f hc h
        refine lv_iconst (v := (0 : Int32)) hx hb dL_law_1088 (by decide) ?_
        replace h := Option.some.inj h
        exact absurd h (by decide)
    have B1044 : ∀ (b3 : Int32) (x : St) (m : St) (H : Heap) (locs : List Loc) (ls : Array Slot), lv_has ls 4 [(0, .ref (b)), (1, .ref (gq G 0)), (2, .ref (gq G 25)), (3, .int b3)] → Wd G s x m H locs → fL_law_b1044 xs L (fL_law_L18 xs L n18) b3 x m = some 1 → W p l e room_1 s mm #[Value.ref b] below meth c H locs 600000 7302250 (lw_Z below #[Value.ref b] s) (F0 mm 1044 ls []) := by
      intro b3 x m H locs ls hl hw h
      unfold fL_law_b1044 at h
      refine lv_aload_n hx hb dL_law_1044 rfl (lv_at hl 1 rfl) ?_
      refine lv_aload_n hx hb dL_law_1045 rfl (lv_at hl 0 rfl) ?_
      refine lv_iload_n hx hb dL_law_1046 rfl (lv_at hl 3 rfl) ?_
      refine lv_iconst (v := (1 : Int32)) hx hb dL_law_1047 (by decide) ?_
      refine lv_iadd hx hb dL_law_1048 ?_
      obtain ⟨hq, h⟩ := p_if h
      refine va_sld C.1 C.2.1 hX hbl hbA hw.2 hq dL_law_1049 ?_
      refine lv_aload_n hx hb dL_law_1050 rfl (lv_at hl 0 rfl) ?_
      refine lv_iload_n hx hb dL_law_1051 rfl (lv_at hl 3 rfl) ?_
      refine lv_iconst (v := (2 : Int32)) hx hb dL_law_1052 (by decide) ?_
      refine lv_iadd hx hb dL_law_1053 ?_
      obtain ⟨hq, h⟩ := p_if h
      refine va_sld C.1 C.2.1 hX hbl hbA hw.2 hq dL_law_1054 ?_
      obtain ⟨⟨v106, z105⟩, hq, h⟩ := p_bd h
      dsimp only at h
      refine w_Vi C hw (As := [.int (xs (b3 + (1 : Int32)).toNatClampNeg), .int (xs (b3 + (2 : Int32)).toNatClampNeg)]) (rest := []) (c3_said l G x m (xs (b3 + (1 : Int32)).toNatClampNeg) (xs (b3 + (2 : Int32)).toNatClampNeg) (v106, z105) hq) kv_X3_said ml_L_121 ⟨rfl, rfl⟩ ⟨Nat.le_of_ble_eq_true rfl, Nat.le_of_ble_eq_true rfl⟩ ⟨Nat.le_refl _, Nat.le_refl _⟩ (w_recv C hw (wk_main G x m) rfl) rfl rfl (Nat.le_of_ble_eq_true rfl) (lv_sub hl [] rfl) dL_law_1055 (fun H locs hw => ?_)
      refine lv_aload_n hx hb dL_law_1058 rfl (lv_at hl 2 rfl) ?_
      refine lv_aload_n hx hb dL_law_1059 rfl (lv_at hl 0 rfl) ?_
      refine lv_iload_n hx hb dL_law_1060 rfl (lv_at hl 3 rfl) ?_
      refine lv_iconst (v := (1 : Int32)) hx hb dL_law_1061 (by decide) ?_
      refine lv_iadd hx hb dL_law_1062 ?_
      obtain ⟨hq, h⟩ := p_if h
      refine va_sld C.1 C.2.1 hX hbl hbA hw.2 hq dL_law_1063 ?_
      refine lv_aload_n hx hb dL_law_1064 rfl (lv_at hl 0 rfl) ?_
      refine lv_iload_n hx hb dL_law_1065 rfl (lv_at hl 3 rfl) ?_
      refine lv_iconst (v := (2 : Int32)) hx hb dL_law_1066 (by decide) ?_
      refine lv_iadd hx hb dL_law_1067 ?_
      obtain ⟨hq, h⟩ := p_if h
      refine va_sld C.1 C.2.1 hX hbl hbA hw.2 hq dL_law_1068 ?_
      obtain ⟨⟨v108, z107⟩, hq, h⟩ := p_bd h
      dsimp only at h
      refine w_Vi C hw (As := [.int (xs (b3 + (1 : Int32)).toNatClampNeg), .int (xs (b3 + (2 : Int32)).toNatClampNeg)]) (rest := [.int v106]) (c4_said l G z105 m (xs (b3 + (1 : Int32)).toNatClampNeg) (xs (b3 + (2 : Int32)).toNatClampNeg) (v108, z107) hq) kv_X4_said ml_L_124 ⟨rfl, rfl⟩ ⟨Nat.le_of_ble_eq_true rfl, Nat.le_of_ble_eq_true rfl⟩ ⟨Nat.le_refl _, Nat.le_refl _⟩ (w_recv C hw (wk_model G z105 m) rfl) rfl rfl (Nat.le_of_ble_eq_true rfl) (lv_sub hl [] rfl) dL_law_1069 (fun H locs hw => ?_)
      refine lv_icmp_eq (tgt := 1598) hx hb dL_law_1072 (by decide) (fun hc => ?_) (fun hc => ?_)
      · replace h := p_t hc h
        exact B1598 b3 z105 z107 _ _ _ (lv_sub hl [0, 1, 2, 3] rfl) hw h
      · replace h := p_f hc h
        refine lv_iconst (v := (0 : Int32)) hx hb dL_law_1075 (by decide) ?_
        replace h := Option.some.inj h
        exact absurd h (by decide)
    have B1011 : ∀ (b3 : Int32) (x : St) (m : St) (H : Heap) (locs : List Loc) (ls : Array Slot), lv_has ls 4 [(0, .ref (b)), (1, .ref (gq G 0)), (2, .ref (gq G 25)), (3, .int b3)] → Wd G s x m H locs → fL_law_b1011 xs L (fL_law_L18 xs L n18) b3 x m = some 1 → W p l e room_1 s mm #[Value.ref b] below meth c H locs 600000 7302250 (lw_Z below #[Value.ref b] s) (F0 mm 1011 ls []) := by
      intro b3 x m H locs ls hl hw h
      unfold fL_law_b1011 at h
      refine lv_aload_n hx hb dL_law_1011 rfl (lv_at hl 1 rfl) ?_
      refine lv_aload_n hx hb dL_law_1012 rfl (lv_at hl 0 rfl) ?_
      refine lv_iload_n hx hb dL_law_1013 rfl (lv_at hl 3 rfl) ?_
      refine lv_iconst (v := (1 : Int32)) hx hb dL_law_1014 (by decide) ?_
      refine lv_iadd hx hb dL_law_1015 ?_
      obtain ⟨hq, h⟩ := p_if h
      refine va_sld C.1 C.2.1 hX hbl hbA hw.2 hq dL_law_1016 ?_
      refine lv_aload_n hx hb dL_law_1017 rfl (lv_at hl 0 rfl) ?_
      refine lv_iload_n hx hb dL_law_1018 rfl (lv_at hl 3 rfl) ?_
      refine lv_iconst (v := (2 : Int32)) hx hb dL_law_1019 (by decide) ?_
      refine lv_iadd hx hb dL_law_1020 ?_
      obtain ⟨hq, h⟩ := p_if h
      refine va_sld C.1 C.2.1 hX hbl hbA hw.2 hq dL_law_1021 ?_
      obtain ⟨⟨v102, z101⟩, hq, h⟩ := p_bd h
      dsimp only at h
      refine w_Vi C hw (As := [.int (xs (b3 + (1 : Int32)).toNatClampNeg), .int (xs (b3 + (2 : Int32)).toNatClampNeg)]) (rest := []) (c3_fits l G x m (xs (b3 + (1 : Int32)).toNatClampNeg) (xs (b3 + (2 : Int32)).toNatClampNeg) (v102, z101) hq) kv_X3_fits ml_L_117 ⟨rfl, rfl⟩ ⟨Nat.le_of_ble_eq_true rfl, Nat.le_of_ble_eq_true rfl⟩ ⟨Nat.le_refl _, Nat.le_refl _⟩ (w_recv C hw (wk_main G x m) rfl) rfl rfl (Nat.le_of_ble_eq_true rfl) (lv_sub hl [] rfl) dL_law_1022 (fun H locs hw => ?_)
      refine lv_aload_n hx hb dL_law_1025 rfl (lv_at hl 2 rfl) ?_
      refine lv_aload_n hx hb dL_law_1026 rfl (lv_at hl 0 rfl) ?_
      refine lv_iload_n hx hb dL_law_1027 rfl (lv_at hl 3 rfl) ?_
      refine lv_iconst (v := (1 : Int32)) hx hb dL_law_1028 (by decide) ?_
      refine lv_iadd hx hb dL_law_1029 ?_
      obtain ⟨hq, h⟩ := p_if h
      refine va_sld C.1 C.2.1 hX hbl hbA hw.2 hq dL_law_1030 ?_
      refine lv_aload_n hx hb dL_law_1031 rfl (lv_at hl 0 rfl) ?_
      refine lv_iload_n hx hb dL_law_1032 rfl (lv_at hl 3 rfl) ?_
      refine lv_iconst (v := (2 : Int32)) hx hb dL_law_1033 (by decide) ?_
      refine lv_iadd hx hb dL_law_1034 ?_
      obtain ⟨hq, h⟩ := p_if h
      refine va_sld C.1 C.2.1 hX hbl hbA hw.2 hq dL_law_1035 ?_
      obtain ⟨⟨v104, z103⟩, hq, h⟩ := p_bd h
      dsimp only at h
      refine w_Vi C hw (As := [.int (xs (b3 + (1 : Int32)).toNatClampNeg), .int (xs (b3 + (2 : Int32)).toNatClampNeg)]) (rest := [.int v102]) (c4_fits l G z101 m (xs (b3 + (1 : Int32)).toNatClampNeg) (xs (b3 + (2 : Int32)).toNatClampNeg) (v104, z103) hq) kv_X4_fits ml_L_120 ⟨rfl, rfl⟩ ⟨Nat.le_of_ble_eq_true rfl, Nat.le_of_ble_eq_true rfl⟩ ⟨Nat.le_refl _, Nat.le_refl _⟩ (w_recv C hw (wk_model G z101 m) rfl) rfl rfl (Nat.le_of_ble_eq_true rfl) (lv_sub hl [] rfl) dL_law_1036 (fun H locs hw => ?_)
      refine lv_icmp_eq (tgt := 1598) hx hb dL_law_1039 (by decide) (fun hc => ?_) (fun hc => ?_)
      · replace h := p_t hc h
        exact B1598 b3 z101 z103 _ _ _ (lv_sub hl [0, 1, 2, 3] rfl) hw h
      · replace h := p_f hc h
        refine lv_iconst (v := (0 : Int32)) hx hb dL_law_1042 (by decide) ?_
        replace h := Option.some.inj h
        exact absurd h (by decide)
    have B988 : ∀ (b3 : Int32) (x : St) (m : St) (H : Heap) (locs : List Loc) (ls : Array Slot), lv_has ls 4 [(0, .ref (b)), (1, .ref (gq G 0)), (2, .ref (gq G 25)), (3, .int b3)] → Wd G s x m H locs → fL_law_b988 xs L (fL_law_L18 xs L n18) b3 x m = some 1 → W p l e room_1 s mm #[Value.ref b] below meth c H locs 600000 7302250 (lw_Z below #[Value.ref b] s) (F0 mm 988 ls []) := by
      intro b3 x m H locs ls hl hw h
      unfold fL_law_b988 at h
      refine lv_aload_n hx hb dL_law_988 rfl (lv_at hl 1 rfl) ?_
      refine lv_aload_n hx hb dL_law_989 rfl (lv_at hl 0 rfl) ?_
      refine lv_iload_n hx hb dL_law_990 rfl (lv_at hl 3 rfl) ?_
      refine lv_iconst (v := (1 : Int32)) hx hb dL_law_991 (by decide) ?_
      refine lv_iadd hx hb dL_law_992 ?_
      obtain ⟨hq, h⟩ := p_if h
      refine va_sld C.1 C.2.1 hX hbl hbA hw.2 hq dL_law_993 ?_
      obtain ⟨⟨v98, z97⟩, hq, h⟩ := p_bd h
      dsimp only at h
      refine w_Vi C hw (As := [.int (xs (b3 + (1 : Int32)).toNatClampNeg)]) (rest := []) (c3_aunt l G x m (xs (b3 + (1 : Int32)).toNatClampNeg) (v98, z97) hq) kv_X3_aunt ml_L_113 ⟨rfl, rfl⟩ ⟨Nat.le_of_ble_eq_true rfl, Nat.le_of_ble_eq_true rfl⟩ ⟨Nat.le_refl _, Nat.le_refl _⟩ (w_recv C hw (wk_main G x m) rfl) rfl rfl (Nat.le_of_ble_eq_true rfl) (lv_sub hl [] rfl) dL_law_994 (fun H locs hw => ?_)
      refine lv_aload_n hx hb dL_law_997 rfl (lv_at hl 2 rfl) ?_
      refine lv_aload_n hx hb dL_law_998 rfl (lv_at hl 0 rfl) ?_
      refine lv_iload_n hx hb dL_law_999 rfl (lv_at hl 3 rfl) ?_
      refine lv_iconst (v := (1 : Int32)) hx hb dL_law_1000 (by decide) ?_
      refine lv_iadd hx hb dL_law_1001 ?_
      obtain ⟨hq, h⟩ := p_if h
      refine va_sld C.1 C.2.1 hX hbl hbA hw.2 hq dL_law_1002 ?_
      obtain ⟨⟨v100, z99⟩, hq, h⟩ := p_bd h
      dsimp only at h
      refine w_Vi C hw (As := [.int (xs (b3 + (1 : Int32)).toNatClampNeg)]) (rest := [.int v98]) (c4_aunt l G z97 m (xs (b3 + (1 : Int32)).toNatClampNeg) (v100, z99) hq) kv_X4_aunt ml_L_116 ⟨rfl, rfl⟩ ⟨Nat.le_of_ble_eq_true rfl, Nat.le_of_ble_eq_true rfl⟩ ⟨Nat.le_refl _, Nat.le_refl _⟩ (w_recv C hw (wk_model G z97 m) rfl) rfl rfl (Nat.le_of_ble_eq_true rfl) (lv_sub hl [] rfl) dL_law_1003 (fun H locs hw => ?_)
      refine lv_icmp_eq (tgt := 1598) hx hb dL_law_1006 (by decide) (fun hc => ?_) (fun hc => ?_)
      · replace h := p_t hc h
        exact B1598 b3 z97 z99 _ _ _ (lv_sub hl [0, 1, 2, 3] rfl) hw h
      · replace h := p_f hc h
        refine lv_iconst (v := (0 : Int32)) hx hb dL_law_1009 (by decide) ?_
        replace h := Option.some.inj h
        exact absurd h (by decide)
    have B945 : ∀ (b3 : Int32) (x : St) (m : St) (H : Heap) (locs : List Loc) (ls : Array Slot), lv_has ls 4 [(0, .ref (b)), (1, .ref (gq G 0)), (2, .ref (gq G 25)), (3, .int b3)] → Wd G s x m H locs → fL_law_b945 xs L (fL_law_L18 xs L n18) b3 x m = some 1 → W p l e room_1 s mm #[Value.ref b] below meth c H locs 600000 7302250 (lw_Z below #[Value.ref b] s) (F0 mm 945 ls []) := by
      intro b3 x m H locs ls hl hw h
      unfold fL_law_b945 at h
      refine lv_aload_n hx hb dL_law_945 rfl (lv_at hl 1 rfl) ?_
      refine lv_aload_n hx hb dL_law_946 rfl (lv_at hl 0 rfl) ?_
      refine lv_iload_n hx hb dL_law_947 rfl (lv_at hl 3 rfl) ?_
      refine lv_iconst (v := (1 : Int32)) hx hb dL_law_948 (by decide) ?_
      refine lv_iadd hx hb dL_law_949 ?_
      obtain ⟨hq, h⟩ := p_if h
      refine va_sld C.1 C.2.1 hX hbl hbA hw.2 hq dL_law_950 ?_
      refine lv_aload_n hx hb dL_law_951 rfl (lv_at hl 0 rfl) ?_
      refine lv_iload_n hx hb dL_law_952 rfl (lv_at hl 3 rfl) ?_
      refine lv_iconst (v := (2 : Int32)) hx hb dL_law_953 (by decide) ?_
      refine lv_iadd hx hb dL_law_954 ?_
      obtain ⟨hq, h⟩ := p_if h
      refine va_sld C.1 C.2.1 hX hbl hbA hw.2 hq dL_law_955 ?_
      refine lv_aload_n hx hb dL_law_956 rfl (lv_at hl 0 rfl) ?_
      refine lv_iload_n hx hb dL_law_957 rfl (lv_at hl 3 rfl) ?_
      refine lv_iconst (v := (3 : Int32)) hx hb dL_law_958 (by decide) ?_
      refine lv_iadd hx hb dL_law_959 ?_
      obtain ⟨hq, h⟩ := p_if h
      refine va_sld C.1 C.2.1 hX hbl hbA hw.2 hq dL_law_960 ?_
      obtain ⟨⟨v94, z93⟩, hq, h⟩ := p_bd h
      dsimp only at h
      refine w_Vi C hw (As := [.int (xs (b3 + (1 : Int32)).toNatClampNeg), .int (xs (b3 + (2 : Int32)).toNatClampNeg), .int (xs (b3 + (3 : Int32)).toNatClampNeg)]) (rest := []) (c3_costs l G x m (xs (b3 + (1 : Int32)).toNatClampNeg) (xs (b3 + (2 : Int32)).toNatClampNeg) (xs (b3 + (3 : Int32)).toNatClampNeg) (v94, z93) hq) kv_X3_costs ml_L_109 ⟨rfl, rfl⟩ ⟨Nat.le_of_ble_eq_true rfl, Nat.le_of_ble_eq_true rfl⟩ ⟨Nat.le_refl _, Nat.le_refl _⟩ (w_recv C hw (wk_main G x m) rfl) rfl rfl (Nat.le_of_ble_eq_true rfl) (lv_sub hl [] rfl) dL_law_961 (fun H locs hw => ?_)
      refine lv_aload_n hx hb dL_law_964 rfl (lv_at hl 2 rfl) ?_
      refine lv_aload_n hx hb dL_law_965 rfl (lv_at hl 0 rfl) ?_
      refine lv_iload_n hx hb dL_law_966 rfl (lv_at hl 3 rfl) ?_
      refine lv_iconst (v := (1 : Int32)) hx hb dL_law_967 (by decide) ?_
      refine lv_iadd hx hb dL_law_968 ?_
      obtain ⟨hq, h⟩ := p_if h
      refine va_sld C.1 C.2.1 hX hbl hbA hw.2 hq dL_law_969 ?_
      refine lv_aload_n hx hb dL_law_970 rfl (lv_at hl 0 rfl) ?_
      refine lv_iload_n hx hb dL_law_971 rfl (lv_at hl 3 rfl) ?_
      refine lv_iconst (v := (2 : Int32)) hx hb dL_law_972 (by decide) ?_
      refine lv_iadd hx hb dL_law_973 ?_
      obtain ⟨hq, h⟩ := p_if h
      refine va_sld C.1 C.2.1 hX hbl hbA hw.2 hq dL_law_974 ?_
      refine lv_aload_n hx hb dL_law_975 rfl (lv_at hl 0 rfl) ?_
      refine lv_iload_n hx hb dL_law_976 rfl (lv_at hl 3 rfl) ?_
      refine lv_iconst (v := (3 : Int32)) hx hb dL_law_977 (by decide) ?_
      refine lv_iadd hx hb dL_law_978 ?_
      obtain ⟨hq, h⟩ := p_if h
      refine va_sld C.1 C.2.1 hX hbl hbA hw.2 hq dL_law_979 ?_
      obtain ⟨⟨v96, z95⟩, hq, h⟩ := p_bd h
      dsimp only at h
      refine w_Vi C hw (As := [.int (xs (b3 + (1 : Int32)).toNatClampNeg), .int (xs (b3 + (2 : Int32)).toNatClampNeg), .int (xs (b3 + (3 : Int32)).toNatClampNeg)]) (rest := [.int v94]) (c4_costs l G z93 m (xs (b3 + (1 : Int32)).toNatClampNeg) (xs (b3 + (2 : Int32)).toNatClampNeg) (xs (b3 + (3 : Int32)).toNatClampNeg) (v96, z95) hq) kv_X4_costs ml_L_112 ⟨rfl, rfl⟩ ⟨Nat.le_of_ble_eq_true rfl, Nat.le_of_ble_eq_true rfl⟩ ⟨Nat.le_refl _, Nat.le_refl _⟩ (w_recv C hw (wk_model G z93 m) rfl) rfl rfl (Nat.le_of_ble_eq_true rfl) (lv_sub hl [] rfl) dL_law_980 (fun H locs hw => ?_)
      refine lv_icmp_eq (tgt := 1598) hx hb dL_law_983 (by decide) (fun hc => ?_) (fun hc => ?_)
      · replace h := p_t hc h
        exact B1598 b3 z93 z95 _ _ _ (lv_sub hl [0, 1, 2, 3] rfl) hw h
      · replace h := p_f hc h
        refine lv_iconst (v := (0 : Int32)) hx hb dL_law_986 (by decide) ?_
        replace h := Option.some.inj h
        exact absurd h (by decide)
    have B902 : ∀ (b3 : Int32) (x : St) (m : St) (H : Heap) (locs : List Loc) (ls : Array Slot), lv_has ls 4 [(0, .ref (b)), (1, .ref (gq G 0)), (2, .ref (gq G 25)), (3, .int b3)] → Wd G s x m H locs → fL_law_b902 xs L (fL_law_L18 xs L n18) b3 x m = some 1 → W p l e room_1 s mm #[Value.ref b] below meth c H locs 600000 7302250 (lw_Z below #[Value.ref b] s) (F0 mm 902 ls []) := by
      intro b3 x m H locs ls hl hw h
      unfold fL_law_b902 at h
      refine lv_aload_n hx hb dL_law_902 rfl (lv_at hl 1 rfl) ?_
      refine lv_aload_n hx hb dL_law_903 rfl (lv_at hl 0 rfl) ?_
      refine lv_iload_n hx hb dL_law_904 rfl (lv_at hl 3 rfl) ?_
      refine lv_iconst (v := (1 : Int32)) hx hb dL_law_905 (by decide) ?_
      refine lv_iadd hx hb dL_law_906 ?_
      obtain ⟨hq, h⟩ := p_if h
      refine va_sld C.1 C.2.1 hX hbl hbA hw.2 hq dL_law_907 ?_
      refine lv_aload_n hx hb dL_law_908 rfl (lv_at hl 0 rfl) ?_
      refine lv_iload_n hx hb dL_law_909 rfl (lv_at hl 3 rfl) ?_
      refine lv_iconst (v := (2 : Int32)) hx hb dL_law_910 (by decide) ?_
      refine lv_iadd hx hb dL_law_911 ?_
      obtain ⟨hq, h⟩ := p_if h
      refine va_sld C.1 C.2.1 hX hbl hbA hw.2 hq dL_law_912 ?_
      refine lv_aload_n hx hb dL_law_913 rfl (lv_at hl 0 rfl) ?_
      refine lv_iload_n hx hb dL_law_914 rfl (lv_at hl 3 rfl) ?_
      refine lv_iconst (v := (3 : Int32)) hx hb dL_law_915 (by decide) ?_
      refine lv_iadd hx hb dL_law_916 ?_
      obtain ⟨hq, h⟩ := p_if h
      refine va_sld C.1 C.2.1 hX hbl hbA hw.2 hq dL_law_917 ?_
      obtain ⟨⟨v90, z89⟩, hq, h⟩ := p_bd h
      dsimp only at h
      refine w_Vi C hw (As := [.int (xs (b3 + (1 : Int32)).toNatClampNeg), .int (xs (b3 + (2 : Int32)).toNatClampNeg), .int (xs (b3 + (3 : Int32)).toNatClampNeg)]) (rest := []) (c3_sand l G x m (xs (b3 + (1 : Int32)).toNatClampNeg) (xs (b3 + (2 : Int32)).toNatClampNeg) (xs (b3 + (3 : Int32)).toNatClampNeg) (v90, z89) hq) kv_X3_sand ml_L_105 ⟨rfl, rfl⟩ ⟨Nat.le_of_ble_eq_true rfl, Nat.le_of_ble_eq_true rfl⟩ ⟨Nat.le_refl _, Nat.le_refl _⟩ (w_recv C hw (wk_main G x m) rfl) rfl rfl (Nat.le_of_ble_eq_true rfl) (lv_sub hl [] rfl) dL_law_918 (fun H locs hw => ?_)
      refine lv_aload_n hx hb dL_law_921 rfl (lv_at hl 2 rfl) ?_
      refine lv_aload_n hx hb dL_law_922 rfl (lv_at hl 0 rfl) ?_
      refine lv_iload_n hx hb dL_law_923 rfl (lv_at hl 3 rfl) ?_
      refine lv_iconst (v := (1 : Int32)) hx hb dL_law_924 (by decide) ?_
      refine lv_iadd hx hb dL_law_925 ?_
      obtain ⟨hq, h⟩ := p_if h
      refine va_sld C.1 C.2.1 hX hbl hbA hw.2 hq dL_law_926 ?_
      refine lv_aload_n hx hb dL_law_927 rfl (lv_at hl 0 rfl) ?_
      refine lv_iload_n hx hb dL_law_928 rfl (lv_at hl 3 rfl) ?_
      refine lv_iconst (v := (2 : Int32)) hx hb dL_law_929 (by decide) ?_
      refine lv_iadd hx hb dL_law_930 ?_
      obtain ⟨hq, h⟩ := p_if h
      refine va_sld C.1 C.2.1 hX hbl hbA hw.2 hq dL_law_931 ?_
      refine lv_aload_n hx hb dL_law_932 rfl (lv_at hl 0 rfl) ?_
      refine lv_iload_n hx hb dL_law_933 rfl (lv_at hl 3 rfl) ?_
      refine lv_iconst (v := (3 : Int32)) hx hb dL_law_934 (by decide) ?_
      refine lv_iadd hx hb dL_law_935 ?_
      obtain ⟨hq, h⟩ := p_if h
      refine va_sld C.1 C.2.1 hX hbl hbA hw.2 hq dL_law_936 ?_
      obtain ⟨⟨v92, z91⟩, hq, h⟩ := p_bd h
      dsimp only at h
      refine w_Vi C hw (As := [.int (xs (b3 + (1 : Int32)).toNatClampNeg), .int (xs (b3 + (2 : Int32)).toNatClampNeg), .int (xs (b3 + (3 : Int32)).toNatClampNeg)]) (rest := [.int v90]) (c4_sand l G z89 m (xs (b3 + (1 : Int32)).toNatClampNeg) (xs (b3 + (2 : Int32)).toNatClampNeg) (xs (b3 + (3 : Int32)).toNatClampNeg) (v92, z91) hq) kv_X4_sand ml_L_108 ⟨rfl, rfl⟩ ⟨Nat.le_of_ble_eq_true rfl, Nat.le_of_ble_eq_true rfl⟩ ⟨Nat.le_refl _, Nat.le_refl _⟩ (w_recv C hw (wk_model G z89 m) rfl) rfl rfl (Nat.le_of_ble_eq_true rfl) (lv_sub hl [] rfl) dL_law_937 (fun H locs hw => ?_)
      refine lv_icmp_eq (tgt := 1598) hx hb dL_law_940 (by decide) (fun hc => ?_) (fun hc => ?_)
      · replace h := p_t hc h
        exact B1598 b3 z89 z91 _ _ _ (lv_sub hl [0, 1, 2, 3] rfl) hw h
      · replace h := p_f hc h
        refine lv_iconst (v := (0 : Int32)) hx hb dL_law_943 (by decide) ?_
        replace h := Option.some.inj h
        exact absurd h (by decide)
    have B859 : ∀ (b3 : Int32) (x : St) (m : St) (H : Heap) (locs : List Loc) (ls : Array Slot), lv_has ls 4 [(0, .ref (b)), (1, .ref (gq G 0)), (2, .ref (gq G 25)), (3, .int b3)] → Wd G s x m H locs → fL_law_b859 xs L (fL_law_L18 xs L n18) b3 x m = some 1 → W p l e room_1 s mm #[Value.ref b] below meth c H locs 600000 7302250 (lw_Z below #[Value.ref b] s) (F0 mm 859 ls []) := by
      intro b3 x m H locs ls hl hw h
      unfold fL_law_b859 at h
      refine lv_aload_n hx hb dL_law_859 rfl (lv_at hl 1 rfl) ?_
      refine lv_aload_n hx hb dL_law_860 rfl (lv_at hl 0 rfl) ?_
      refine lv_iload_n hx hb dL_law_861 rfl (lv_at hl 3 rfl) ?_
      refine lv_iconst (v := (1 : Int32)) hx hb dL_law_862 (by decide) ?_
      refine lv_iadd hx hb dL_law_863 ?_
      obtain ⟨hq, h⟩ := p_if h
      refine va_sld C.1 C.2.1 hX hbl hbA hw.2 hq dL_law_864 ?_
      refine lv_aload_n hx hb dL_law_865 rfl (lv_at hl 0 rfl) ?_
      refine lv_iload_n hx hb dL_law_866 rfl (lv_at hl 3 rfl) ?_
      refine lv_iconst (v := (2 : Int32)) hx hb dL_law_867 (by decide) ?_
      refine lv_iadd hx hb dL_law_868 ?_
      obtain ⟨hq, h⟩ := p_if h
      refine va_sld C.1 C.2.1 hX hbl hbA hw.2 hq dL_law_869 ?_
      refine lv_aload_n hx hb dL_law_870 rfl (lv_at hl 0 rfl) ?_
      refine lv_iload_n hx hb dL_law_871 rfl (lv_at hl 3 rfl) ?_
      refine lv_iconst (v := (3 : Int32)) hx hb dL_law_872 (by decide) ?_
      refine lv_iadd hx hb dL_law_873 ?_
      obtain ⟨hq, h⟩ := p_if h
      refine va_sld C.1 C.2.1 hX hbl hbA hw.2 hq dL_law_874 ?_
      obtain ⟨⟨v86, z85⟩, hq, h⟩ := p_bd h
      dsimp only at h
      refine w_Vi C hw (As := [.int (xs (b3 + (1 : Int32)).toNatClampNeg), .int (xs (b3 + (2 : Int32)).toNatClampNeg), .int (xs (b3 + (3 : Int32)).toNatClampNeg)]) (rest := []) (c3_weightFor l G x m (xs (b3 + (1 : Int32)).toNatClampNeg) (xs (b3 + (2 : Int32)).toNatClampNeg) (xs (b3 + (3 : Int32)).toNatClampNeg) (v86, z85) hq) kv_X3_weightFor ml_L_101 ⟨rfl, rfl⟩ ⟨Nat.le_of_ble_eq_true rfl, Nat.le_of_ble_eq_true rfl⟩ ⟨Nat.le_refl _, Nat.le_refl _⟩ (w_recv C hw (wk_main G x m) rfl) rfl rfl (Nat.le_of_ble_eq_true rfl) (lv_sub hl [] rfl) dL_law_875 (fun H locs hw => ?_)
      refine lv_aload_n hx hb dL_law_878 rfl (lv_at hl 2 rfl) ?_
      refine lv_aload_n hx hb dL_law_879 rfl (lv_at hl 0 rfl) ?_
      refine lv_iload_n hx hb dL_law_880 rfl (lv_at hl 3 rfl) ?_
      refine lv_iconst (v := (1 : Int32)) hx hb dL_law_881 (by decide) ?_
      refine lv_iadd hx hb dL_law_882 ?_
      obtain ⟨hq, h⟩ := p_if h
      refine va_sld C.1 C.2.1 hX hbl hbA hw.2 hq dL_law_883 ?_
      refine lv_aload_n hx hb dL_law_884 rfl (lv_at hl 0 rfl) ?_
      refine lv_iload_n hx hb dL_law_885 rfl (lv_at hl 3 rfl) ?_
      refine lv_iconst (v := (2 : Int32)) hx hb dL_law_886 (by decide) ?_
      refine lv_iadd hx hb dL_law_887 ?_
      obtain ⟨hq, h⟩ := p_if h
      refine va_sld C.1 C.2.1 hX hbl hbA hw.2 hq dL_law_888 ?_
      refine lv_aload_n hx hb dL_law_889 rfl (lv_at hl 0 rfl) ?_
      refine lv_iload_n hx hb dL_law_890 rfl (lv_at hl 3 rfl) ?_
      refine lv_iconst (v := (3 : Int32)) hx hb dL_law_891 (by decide) ?_
      refine lv_iadd hx hb dL_law_892 ?_
      obtain ⟨hq, h⟩ := p_if h
      refine va_sld C.1 C.2.1 hX hbl hbA hw.2 hq dL_law_893 ?_
      obtain ⟨⟨v88, z87⟩, hq, h⟩ := p_bd h
      dsimp only at h
      refine w_Vi C hw (As := [.int (xs (b3 + (1 : Int32)).toNatClampNeg), .int (xs (b3 + (2 : Int32)).toNatClampNeg), .int (xs (b3 + (3 : Int32)).toNatClampNeg)]) (rest := [.int v86]) (c4_weightFor l G z85 m (xs (b3 + (1 : Int32)).toNatClampNeg) (xs (b3 + (2 : Int32)).toNatClampNeg) (xs (b3 + (3 : Int32)).toNatClampNeg) (v88, z87) hq) kv_X4_weightFor ml_L_104 ⟨rfl, rfl⟩ ⟨Nat.le_of_ble_eq_true rfl, Nat.le_of_ble_eq_true rfl⟩ ⟨Nat.le_refl _, Nat.le_refl _⟩ (w_recv C hw (wk_model G z85 m) rfl) rfl rfl (Nat.le_of_ble_eq_true rfl) (lv_sub hl [] rfl) dL_law_894 (fun H locs hw => ?_)
      refine lv_icmp_eq (tgt := 1598) hx hb dL_law_897 (by decide) (fun hc => ?_) (fun hc => ?_)
      · replace h := p_t hc h
        exact B1598 b3 z85 z87 _ _ _ (lv_sub hl [0, 1, 2, 3] rfl) hw h
      · replace h := p_f hc h
        refine lv_iconst (v := (0 : Int32)) hx hb dL_law_900 (by decide) ?_
        replace h := Option.some.inj h
        exact absurd h (by decide)
    have B816 : ∀ (b3 : Int32) (x : St) (m : St) (H : Heap) (locs : List Loc) (ls : Array Slot), lv_has ls 4 [(0, .ref (b)), (1, .ref (gq G 0)), (2, .ref (gq G 25)), (3, .int b3)] → Wd G s x m H locs → fL_law_b816 xs L (fL_law_L18 xs L n18) b3 x m = some 1 → W p l e room_1 s mm #[Value.ref b] below meth c H locs 600000 7302250 (lw_Z below #[Value.ref b] s) (F0 mm 816 ls []) := by
      intro b3 x m H locs ls hl hw h
      unfold fL_law_b816 at h
      refine lv_aload_n hx hb dL_law_816 rfl (lv_at hl 1 rfl) ?_
      refine lv_aload_n hx hb dL_law_817 rfl (lv_at hl 0 rfl) ?_
      refine lv_iload_n hx hb dL_law_818 rfl (lv_at hl 3 rfl) ?_
      refine lv_iconst (v := (1 : Int32)) hx hb dL_law_819 (by decide) ?_
      refine lv_iadd hx hb dL_law_820 ?_
      obtain ⟨hq, h⟩ := p_if h
      refine va_sld C.1 C.2.1 hX hbl hbA hw.2 hq dL_law_821 ?_
      refine lv_aload_n hx hb dL_law_822 rfl (lv_at hl 0 rfl) ?_
      refine lv_iload_n hx hb dL_law_823 rfl (lv_at hl 3 rfl) ?_
      refine lv_iconst (v := (2 : Int32)) hx hb dL_law_824 (by decide) ?_
      refine lv_iadd hx hb dL_law_825 ?_
      obtain ⟨hq, h⟩ := p_if h
      refine va_sld C.1 C.2.1 hX hbl hbA hw.2 hq dL_law_826 ?_
      refine lv_aload_n hx hb dL_law_827 rfl (lv_at hl 0 rfl) ?_
      refine lv_iload_n hx hb dL_law_828 rfl (lv_at hl 3 rfl) ?_
      refine lv_iconst (v := (3 : Int32)) hx hb dL_law_829 (by decide) ?_
      refine lv_iadd hx hb dL_law_830 ?_
      obtain ⟨hq, h⟩ := p_if h
      refine va_sld C.1 C.2.1 hX hbl hbA hw.2 hq dL_law_831 ?_
      obtain ⟨⟨v82, z81⟩, hq, h⟩ := p_bd h
      dsimp only at h
      refine w_Vi C hw (As := [.int (xs (b3 + (1 : Int32)).toNatClampNeg), .int (xs (b3 + (2 : Int32)).toNatClampNeg), .int (xs (b3 + (3 : Int32)).toNatClampNeg)]) (rest := []) (c3_places l G x m (xs (b3 + (1 : Int32)).toNatClampNeg) (xs (b3 + (2 : Int32)).toNatClampNeg) (xs (b3 + (3 : Int32)).toNatClampNeg) (v82, z81) hq) kv_X3_places ml_L_97 ⟨rfl, rfl⟩ ⟨Nat.le_of_ble_eq_true rfl, Nat.le_of_ble_eq_true rfl⟩ ⟨Nat.le_refl _, Nat.le_refl _⟩ (w_recv C hw (wk_main G x m) rfl) rfl rfl (Nat.le_of_ble_eq_true rfl) (lv_sub hl [] rfl) dL_law_832 (fun H locs hw => ?_)
      refine lv_aload_n hx hb dL_law_835 rfl (lv_at hl 2 rfl) ?_
      refine lv_aload_n hx hb dL_law_836 rfl (lv_at hl 0 rfl) ?_
      refine lv_iload_n hx hb dL_law_837 rfl (lv_at hl 3 rfl) ?_
      refine lv_iconst (v := (1 : Int32)) hx hb dL_law_838 (by decide) ?_
      refine lv_iadd hx hb dL_law_839 ?_
      obtain ⟨hq, h⟩ := p_if h
      refine va_sld C.1 C.2.1 hX hbl hbA hw.2 hq dL_law_840 ?_
      refine lv_aload_n hx hb dL_law_841 rfl (lv_at hl 0 rfl) ?_
      refine lv_iload_n hx hb dL_law_842 rfl (lv_at hl 3 rfl) ?_
      refine lv_iconst (v := (2 : Int32)) hx hb dL_law_843 (by decide) ?_
      refine lv_iadd hx hb dL_law_844 ?_
      obtain ⟨hq, h⟩ := p_if h
      refine va_sld C.1 C.2.1 hX hbl hbA hw.2 hq dL_law_845 ?_
      refine lv_aload_n hx hb dL_law_846 rfl (lv_at hl 0 rfl) ?_
      refine lv_iload_n hx hb dL_law_847 rfl (lv_at hl 3 rfl) ?_
      refine lv_iconst (v := (3 : Int32)) hx hb dL_law_848 (by decide) ?_
      refine lv_iadd hx hb dL_law_849 ?_
      obtain ⟨hq, h⟩ := p_if h
      refine va_sld C.1 C.2.1 hX hbl hbA hw.2 hq dL_law_850 ?_
      obtain ⟨⟨v84, z83⟩, hq, h⟩ := p_bd h
      dsimp only at h
      refine w_Vi C hw (As := [.int (xs (b3 + (1 : Int32)).toNatClampNeg), .int (xs (b3 + (2 : Int32)).toNatClampNeg), .int (xs (b3 + (3 : Int32)).toNatClampNeg)]) (rest := [.int v82]) (c4_places l G z81 m (xs (b3 + (1 : Int32)).toNatClampNeg) (xs (b3 + (2 : Int32)).toNatClampNeg) (xs (b3 + (3 : Int32)).toNatClampNeg) (v84, z83) hq) kv_X4_places ml_L_100 ⟨rfl, rfl⟩ ⟨Nat.le_of_ble_eq_true rfl, Nat.le_of_ble_eq_true rfl⟩ ⟨Nat.le_refl _, Nat.le_refl _⟩ (w_recv C hw (wk_model G z81 m) rfl) rfl rfl (Nat.le_of_ble_eq_true rfl) (lv_sub hl [] rfl) dL_law_851 (fun H locs hw => ?_)
      refine lv_icmp_eq (tgt := 1598) hx hb dL_law_854 (by decide) (fun hc => ?_) (fun hc => ?_)
      · replace h := p_t hc h
        exact B1598 b3 z81 z83 _ _ _ (lv_sub hl [0, 1, 2, 3] rfl) hw h
      · replace h := p_f hc h
        refine lv_iconst (v := (0 : Int32)) hx hb dL_law_857 (by decide) ?_
        replace h := Option.some.inj h
        exact absurd h (by decide)
    have B773 : ∀ (b3 : Int32) (x : St) (m : St) (H : Heap) (locs : List Loc) (ls : Array Slot), lv_has ls 4 [(0, .ref (b)), (1, .ref (gq G 0)), (2, .ref (gq G 25)), (3, .int b3)] → Wd G s x m H locs → fL_law_b773 xs L (fL_law_L18 xs L n18) b3 x m = some 1 → W p l e room_1 s mm #[Value.ref b] below meth c H locs 600000 7302250 (lw_Z below #[Value.ref b] s) (F0 mm 773 ls []) := by
      intro b3 x m H locs ls hl hw h
      unfold fL_law_b773 at h
      refine lv_aload_n hx hb dL_law_773 rfl (lv_at hl 1 rfl) ?_
      refine lv_aload_n hx hb dL_law_774 rfl (lv_at hl 0 rfl) ?_
      refine lv_iload_n hx hb dL_law_775 rfl (lv_at hl 3 rfl) ?_
      refine lv_iconst (v := (1 : Int32)) hx hb dL_law_776 (by decide) ?_
      refine lv_iadd hx hb dL_law_777 ?_
      obtain ⟨hq, h⟩ := p_if h
      refine va_sld C.1 C.2.1 hX hbl hbA hw.2 hq dL_law_778 ?_
      refine lv_aload_n hx hb dL_law_779 rfl (lv_at hl 0 rfl) ?_
      refine lv_iload_n hx hb dL_law_780 rfl (lv_at hl 3 rfl) ?_
      refine lv_iconst (v := (2 : Int32)) hx hb dL_law_781 (by decide) ?_
      refine lv_iadd hx hb dL_law_782 ?_
      obtain ⟨hq, h⟩ := p_if h
      refine va_sld C.1 C.2.1 hX hbl hbA hw.2 hq dL_law_783 ?_
      refine lv_aload_n hx hb dL_law_784 rfl (lv_at hl 0 rfl) ?_
      refine lv_iload_n hx hb dL_law_785 rfl (lv_at hl 3 rfl) ?_
      refine lv_iconst (v := (3 : Int32)) hx hb dL_law_786 (by decide) ?_
      refine lv_iadd hx hb dL_law_787 ?_
      obtain ⟨hq, h⟩ := p_if h
      refine va_sld C.1 C.2.1 hX hbl hbA hw.2 hq dL_law_788 ?_
      obtain ⟨⟨v78, z77⟩, hq, h⟩ := p_bd h
      dsimp only at h
      refine w_Vi C hw (As := [.int (xs (b3 + (1 : Int32)).toNatClampNeg), .int (xs (b3 + (2 : Int32)).toNatClampNeg), .int (xs (b3 + (3 : Int32)).toNatClampNeg)]) (rest := []) (c3_where l G x m (xs (b3 + (1 : Int32)).toNatClampNeg) (xs (b3 + (2 : Int32)).toNatClampNeg) (xs (b3 + (3 : Int32)).toNatClampNeg) (v78, z77) hq) kv_X3_where ml_L_93 ⟨rfl, rfl⟩ ⟨Nat.le_of_ble_eq_true rfl, Nat.le_of_ble_eq_true rfl⟩ ⟨Nat.le_refl _, Nat.le_refl _⟩ (w_recv C hw (wk_main G x m) rfl) rfl rfl (Nat.le_of_ble_eq_true rfl) (lv_sub hl [] rfl) dL_law_789 (fun H locs hw => ?_)
      refine lv_aload_n hx hb dL_law_792 rfl (lv_at hl 2 rfl) ?_
      refine lv_aload_n hx hb dL_law_793 rfl (lv_at hl 0 rfl) ?_
      refine lv_iload_n hx hb dL_law_794 rfl (lv_at hl 3 rfl) ?_
      refine lv_iconst (v := (1 : Int32)) hx hb dL_law_795 (by decide) ?_
      refine lv_iadd hx hb dL_law_796 ?_
      obtain ⟨hq, h⟩ := p_if h
      refine va_sld C.1 C.2.1 hX hbl hbA hw.2 hq dL_law_797 ?_
      refine lv_aload_n hx hb dL_law_798 rfl (lv_at hl 0 rfl) ?_
      refine lv_iload_n hx hb dL_law_799 rfl (lv_at hl 3 rfl) ?_
      refine lv_iconst (v := (2 : Int32)) hx hb dL_law_800 (by decide) ?_
      refine lv_iadd hx hb dL_law_801 ?_
      obtain ⟨hq, h⟩ := p_if h
      refine va_sld C.1 C.2.1 hX hbl hbA hw.2 hq dL_law_802 ?_
      refine lv_aload_n hx hb dL_law_803 rfl (lv_at hl 0 rfl) ?_
      refine lv_iload_n hx hb dL_law_804 rfl (lv_at hl 3 rfl) ?_
      refine lv_iconst (v := (3 : Int32)) hx hb dL_law_805 (by decide) ?_
      refine lv_iadd hx hb dL_law_806 ?_
      obtain ⟨hq, h⟩ := p_if h
      refine va_sld C.1 C.2.1 hX hbl hbA hw.2 hq dL_law_807 ?_
      obtain ⟨⟨v80, z79⟩, hq, h⟩ := p_bd h
      dsimp only at h
      refine w_Vi C hw (As := [.int (xs (b3 + (1 : Int32)).toNatClampNeg), .int (xs (b3 + (2 : Int32)).toNatClampNeg), .int (xs (b3 + (3 : Int32)).toNatClampNeg)]) (rest := [.int v78]) (c4_where l G z77 m (xs (b3 + (1 : Int32)).toNatClampNeg) (xs (b3 + (2 : Int32)).toNatClampNeg) (xs (b3 + (3 : Int32)).toNatClampNeg) (v80, z79) hq) kv_X4_where ml_L_96 ⟨rfl, rfl⟩ ⟨Nat.le_of_ble_eq_true rfl, Nat.le_of_ble_eq_true rfl⟩ ⟨Nat.le_refl _, Nat.le_refl _⟩ (w_recv C hw (wk_model G z77 m) rfl) rfl rfl (Nat.le_of_ble_eq_true rfl) (lv_sub hl [] rfl) dL_law_808 (fun H locs hw => ?_)
      refine lv_icmp_eq (tgt := 1598) hx hb dL_law_811 (by decide) (fun hc => ?_) (fun hc => ?_)
      · replace h := p_t hc h
        exact B1598 b3 z77 z79 _ _ _ (lv_sub hl [0, 1, 2, 3] rfl) hw h
      · replace h := p_f hc h
        refine lv_iconst (v := (0 : Int32)) hx hb dL_law_814 (by decide) ?_
        replace h := Option.some.inj h
        exact absurd h (by decide)
    have B750 : ∀ (b3 : Int32) (x : St) (m : St) (H : Heap) (locs : List Loc) (ls : Array Slot), lv_has ls 4 [(0, .ref (b)), (1, .ref (gq G 0)), (2, .ref (gq G 25)), (3, .int b3)] → Wd G s x m H locs → fL_law_b750 xs L (fL_law_L18 xs L n18) b3 x m = some 1 → W p l e room_1 s mm #[Value.ref b] below meth c H locs 600000 7302250 (lw_Z below #[Value.ref b] s) (F0 mm 750 ls []) := by
      intro b3 x m H locs ls hl hw h
      unfold fL_law_b750 at h
      refine lv_aload_n hx hb dL_law_750 rfl (lv_at hl 1 rfl) ?_
      refine lv_aload_n hx hb dL_law_751 rfl (lv_at hl 0 rfl) ?_
      refine lv_iload_n hx hb dL_law_752 rfl (lv_at hl 3 rfl) ?_
      refine lv_iconst (v := (1 : Int32)) hx hb dL_law_753 (by decide) ?_
      refine lv_iadd hx hb dL_law_754 ?_
      obtain ⟨hq, h⟩ := p_if h
      refine va_sld C.1 C.2.1 hX hbl hbA hw.2 hq dL_law_755 ?_
      obtain ⟨⟨v74, z73⟩, hq, h⟩ := p_bd h
      dsimp only at h
      refine w_Vi C hw (As := [.int (xs (b3 + (1 : Int32)).toNatClampNeg)]) (rest := []) (c3_goesBy l G x m (xs (b3 + (1 : Int32)).toNatClampNeg) (v74, z73) hq) kv_X3_goesBy ml_L_89 ⟨rfl, rfl⟩ ⟨Nat.le_of_ble_eq_true rfl, Nat.le_of_ble_eq_true rfl⟩ ⟨Nat.le_refl _, Nat.le_refl _⟩ (w_recv C hw (wk_main G x m) rfl) rfl rfl (Nat.le_of_ble_eq_true rfl) (lv_sub hl [] rfl) dL_law_756 (fun H locs hw => ?_)
      refine lv_aload_n hx hb dL_law_759 rfl (lv_at hl 2 rfl) ?_
      refine lv_aload_n hx hb dL_law_760 rfl (lv_at hl 0 rfl) ?_
      refine lv_iload_n hx hb dL_law_761 rfl (lv_at hl 3 rfl) ?_
      refine lv_iconst (v := (1 : Int32)) hx hb dL_law_762 (by decide) ?_
      refine lv_iadd hx hb dL_law_763 ?_
      obtain ⟨hq, h⟩ := p_if h
      refine va_sld C.1 C.2.1 hX hbl hbA hw.2 hq dL_law_764 ?_
      obtain ⟨⟨v76, z75⟩, hq, h⟩ := p_bd h
      dsimp only at h
      refine w_Vi C hw (As := [.int (xs (b3 + (1 : Int32)).toNatClampNeg)]) (rest := [.int v74]) (c4_goesBy l G z73 m (xs (b3 + (1 : Int32)).toNatClampNeg) (v76, z75) hq) kv_X4_goesBy ml_L_92 ⟨rfl, rfl⟩ ⟨Nat.le_of_ble_eq_true rfl, Nat.le_of_ble_eq_true rfl⟩ ⟨Nat.le_refl _, Nat.le_refl _⟩ (w_recv C hw (wk_model G z73 m) rfl) rfl rfl (Nat.le_of_ble_eq_true rfl) (lv_sub hl [] rfl) dL_law_765 (fun H locs hw => ?_)
      refine lv_icmp_eq (tgt := 1598) hx hb dL_law_768 (by decide) (fun hc => ?_) (fun hc => ?_)
      · replace h := p_t hc h
        exact B1598 b3 z73 z75 _ _ _ (lv_sub hl [0, 1, 2, 3] rfl) hw h
      · replace h := p_f hc h
        refine lv_iconst (v := (0 : Int32)) hx hb dL_law_771 (by decide) ?_
        replace h := Option.some.inj h
        exact absurd h (by decide)
    have B727 : ∀ (b3 : Int32) (x : St) (m : St) (H : Heap) (locs : List Loc) (ls : Array Slot), lv_has ls 4 [(0, .ref (b)), (1, .ref (gq G 0)), (2, .ref (gq G 25)), (3, .int b3)] → Wd G s x m H locs → fL_law_b727 xs L (fL_law_L18 xs L n18) b3 x m = some 1 → W p l e room_1 s mm #[Value.ref b] below meth c H locs 600000 7302250 (lw_Z below #[Value.ref b] s) (F0 mm 727 ls []) := by
      intro b3 x m H locs ls hl hw h
      unfold fL_law_b727 at h
      refine lv_aload_n hx hb dL_law_727 rfl (lv_at hl 1 rfl) ?_
      refine lv_aload_n hx hb dL_law_728 rfl (lv_at hl 0 rfl) ?_
      refine lv_iload_n hx hb dL_law_729 rfl (lv_at hl 3 rfl) ?_
      refine lv_iconst (v := (1 : Int32)) hx hb dL_law_730 (by decide) ?_
      refine lv_iadd hx hb dL_law_731 ?_
      obtain ⟨hq, h⟩ := p_if h
      refine va_sld C.1 C.2.1 hX hbl hbA hw.2 hq dL_law_732 ?_
      obtain ⟨⟨v70, z69⟩, hq, h⟩ := p_bd h
      dsimp only at h
      refine w_Vi C hw (As := [.int (xs (b3 + (1 : Int32)).toNatClampNeg)]) (rest := []) (c3_kindFor l G x m (xs (b3 + (1 : Int32)).toNatClampNeg) (v70, z69) hq) kv_X3_kindFor ml_L_85 ⟨rfl, rfl⟩ ⟨Nat.le_of_ble_eq_true rfl, Nat.le_of_ble_eq_true rfl⟩ ⟨Nat.le_refl _, Nat.le_refl _⟩ (w_recv C hw (wk_main G x m) rfl) rfl rfl (Nat.le_of_ble_eq_true rfl) (lv_sub hl [] rfl) dL_law_733 (fun H locs hw => ?_)
      refine lv_aload_n hx hb dL_law_736 rfl (lv_at hl 2 rfl) ?_
      refine lv_aload_n hx hb dL_law_737 rfl (lv_at hl 0 rfl) ?_
      refine lv_iload_n hx hb dL_law_738 rfl (lv_at hl 3 rfl) ?_
      refine lv_iconst (v := (1 : Int32)) hx hb dL_law_739 (by decide) ?_
      refine lv_iadd hx hb dL_law_740 ?_
      obtain ⟨hq, h⟩ := p_if h
      refine va_sld C.1 C.2.1 hX hbl hbA hw.2 hq dL_law_741 ?_
      obtain ⟨⟨v72, z71⟩, hq, h⟩ := p_bd h
      dsimp only at h
      refine w_Vi C hw (As := [.int (xs (b3 + (1 : Int32)).toNatClampNeg)]) (rest := [.int v70]) (c4_kindFor l G z69 m (xs (b3 + (1 : Int32)).toNatClampNeg) (v72, z71) hq) kv_X4_kindFor ml_L_88 ⟨rfl, rfl⟩ ⟨Nat.le_of_ble_eq_true rfl, Nat.le_of_ble_eq_true rfl⟩ ⟨Nat.le_refl _, Nat.le_refl _⟩ (w_recv C hw (wk_model G z69 m) rfl) rfl rfl (Nat.le_of_ble_eq_true rfl) (lv_sub hl [] rfl) dL_law_742 (fun H locs hw => ?_)
      refine lv_icmp_eq (tgt := 1598) hx hb dL_law_745 (by decide) (fun hc => ?_) (fun hc => ?_)
      · replace h := p_t hc h
        exact B1598 b3 z69 z71 _ _ _ (lv_sub hl [0, 1, 2, 3] rfl) hw h
      · replace h := p_f hc h
        refine lv_iconst (v := (0 : Int32)) hx hb dL_law_748 (by decide) ?_
        replace h := Option.some.inj h
        exact absurd h (by decide)
    have B694 : ∀ (b3 : Int32) (x : St) (m : St) (H : Heap) (locs : List Loc) (ls : Array Slot), lv_has ls 4 [(0, .ref (b)), (1, .ref (gq G 0)), (2, .ref (gq G 25)), (3, .int b3)] → Wd G s x m H locs → fL_law_b694 xs L (fL_law_L18 xs L n18) b3 x m = some 1 → W p l e room_1 s mm #[Value.ref b] below meth c H locs 600000 7302250 (lw_Z below #[Value.ref b] s) (F0 mm 694 ls []) := by
      intro b3 x m H locs ls hl hw h
      unfold fL_law_b694 at h
      refine lv_aload_n hx hb dL_law_694 rfl (lv_at hl 1 rfl) ?_
      refine lv_aload_n hx hb dL_law_695 rfl (lv_at hl 0 rfl) ?_
      refine lv_iload_n hx hb dL_law_696 rfl (lv_at hl 3 rfl) ?_
      refine lv_iconst (v := (1 : Int32)) hx hb dL_law_697 (by decide) ?_
      refine lv_iadd hx hb dL_law_698 ?_
      obtain ⟨hq, h⟩ := p_if h
      refine va_sld C.1 C.2.1 hX hbl hbA hw.2 hq dL_law_699 ?_
      refine lv_aload_n hx hb dL_law_700 rfl (lv_at hl 0 rfl) ?_
      refine lv_iload_n hx hb dL_law_701 rfl (lv_at hl 3 rfl) ?_
      refine lv_iconst (v := (2 : Int32)) hx hb dL_law_702 (by decide) ?_
      refine lv_iadd hx hb dL_law_703 ?_
      obtain ⟨hq, h⟩ := p_if h
      refine va_sld C.1 C.2.1 hX hbl hbA hw.2 hq dL_law_704 ?_
      obtain ⟨⟨v66, z65⟩, hq, h⟩ := p_bd h
      dsimp only at h
      refine w_Vi C hw (As := [.int (xs (b3 + (1 : Int32)).toNatClampNeg), .int (xs (b3 + (2 : Int32)).toNatClampNeg)]) (rest := []) (c3_overtakes l G x m (xs (b3 + (1 : Int32)).toNatClampNeg) (xs (b3 + (2 : Int32)).toNatClampNeg) (v66, z65) hq) kv_X3_overtakes ml_L_81 ⟨rfl, rfl⟩ ⟨Nat.le_of_ble_eq_true rfl, Nat.le_of_ble_eq_true rfl⟩ ⟨Nat.le_refl _, Nat.le_refl _⟩ (w_recv C hw (wk_main G x m) rfl) rfl rfl (Nat.le_of_ble_eq_true rfl) (lv_sub hl [] rfl) dL_law_705 (fun H locs hw => ?_)
      refine lv_aload_n hx hb dL_law_708 rfl (lv_at hl 2 rfl) ?_
      refine lv_aload_n hx hb dL_law_709 rfl (lv_at hl 0 rfl) ?_
      refine lv_iload_n hx hb dL_law_710 rfl (lv_at hl 3 rfl) ?_
      refine lv_iconst (v := (1 : Int32)) hx hb dL_law_711 (by decide) ?_
      refine lv_iadd hx hb dL_law_712 ?_
      obtain ⟨hq, h⟩ := p_if h
      refine va_sld C.1 C.2.1 hX hbl hbA hw.2 hq dL_law_713 ?_
      refine lv_aload_n hx hb dL_law_714 rfl (lv_at hl 0 rfl) ?_
      refine lv_iload_n hx hb dL_law_715 rfl (lv_at hl 3 rfl) ?_
      refine lv_iconst (v := (2 : Int32)) hx hb dL_law_716 (by decide) ?_
      refine lv_iadd hx hb dL_law_717 ?_
      obtain ⟨hq, h⟩ := p_if h
      refine va_sld C.1 C.2.1 hX hbl hbA hw.2 hq dL_law_718 ?_
      obtain ⟨⟨v68, z67⟩, hq, h⟩ := p_bd h
      dsimp only at h
      refine w_Vi C hw (As := [.int (xs (b3 + (1 : Int32)).toNatClampNeg), .int (xs (b3 + (2 : Int32)).toNatClampNeg)]) (rest := [.int v66]) (c4_overtakes l G z65 m (xs (b3 + (1 : Int32)).toNatClampNeg) (xs (b3 + (2 : Int32)).toNatClampNeg) (v68, z67) hq) kv_X4_overtakes ml_L_84 ⟨rfl, rfl⟩ ⟨Nat.le_of_ble_eq_true rfl, Nat.le_of_ble_eq_true rfl⟩ ⟨Nat.le_refl _, Nat.le_refl _⟩ (w_recv C hw (wk_model G z65 m) rfl) rfl rfl (Nat.le_of_ble_eq_true rfl) (lv_sub hl [] rfl) dL_law_719 (fun H locs hw => ?_)
      refine lv_icmp_eq (tgt := 1598) hx hb dL_law_722 (by decide) (fun hc => ?_) (fun hc => ?_)
      · replace h := p_t hc h
        exact B1598 b3 z65 z67 _ _ _ (lv_sub hl [0, 1, 2, 3] rfl) hw h
      · replace h := p_f hc h
        refine lv_iconst (v := (0 : Int32)) hx hb dL_law_725 (by decide) ?_
        replace h := Option.some.inj h
        exact absurd h (by decide)
    have B661 : ∀ (b3 : Int32) (x : St) (m : St) (H : Heap) (locs : List Loc) (ls : Array Slot), lv_has ls 4 [(0, .ref (b)), (1, .ref (gq G 0)), (2, .ref (gq G 25)), (3, .int b3)] → Wd G s x m H locs → fL_law_b661 xs L (fL_law_L18 xs L n18) b3 x m = some 1 → W p l e room_1 s mm #[Value.ref b] below meth c H locs 600000 7302250 (lw_Z below #[Value.ref b] s) (F0 mm 661 ls []) := by
      intro b3 x m H locs ls hl hw h
      unfold fL_law_b661 at h
      refine lv_aload_n hx hb dL_law_661 rfl (lv_at hl 1 rfl) ?_
      refine lv_aload_n hx hb dL_law_662 rfl (lv_at hl 0 rfl) ?_
      refine lv_iload_n hx hb dL_law_663 rfl (lv_at hl 3 rfl) ?_
      refine lv_iconst (v := (1 : Int32)) hx hb dL_law_664 (by decide) ?_
      refine lv_iadd hx hb dL_law_665 ?_
      obtain ⟨hq, h⟩ := p_if h
      refine va_sld C.1 C.2.1 hX hbl hbA hw.2 hq dL_law_666 ?_
      refine lv_aload_n hx hb dL_law_667 rfl (lv_at hl 0 rfl) ?_
      refine lv_iload_n hx hb dL_law_668 rfl (lv_at hl 3 rfl) ?_
      refine lv_iconst (v := (2 : Int32)) hx hb dL_law_669 (by decide) ?_
      refine lv_iadd hx hb dL_law_670 ?_
      obtain ⟨hq, h⟩ := p_if h
      refine va_sld C.1 C.2.1 hX hbl hbA hw.2 hq dL_law_671 ?_
      obtain ⟨⟨v62, z61⟩, hq, h⟩ := p_bd h
      dsimp only at h
      refine w_Vi C hw (As := [.int (xs (b3 + (1 : Int32)).toNatClampNeg), .int (xs (b3 + (2 : Int32)).toNatClampNeg)]) (rest := []) (c3_loudest l G x m (xs (b3 + (1 : Int32)).toNatClampNeg) (xs (b3 + (2 : Int32)).toNatClampNeg) (v62, z61) hq) kv_X3_loudest ml_L_77 ⟨rfl, rfl⟩ ⟨Nat.le_of_ble_eq_true rfl, Nat.le_of_ble_eq_true rfl⟩ ⟨Nat.le_refl _, Nat.le_refl _⟩ (w_recv C hw (wk_main G x m) rfl) rfl rfl (Nat.le_of_ble_eq_true rfl) (lv_sub hl [] rfl) dL_law_672 (fun H locs hw => ?_)
      refine lv_aload_n hx hb dL_law_675 rfl (lv_at hl 2 rfl) ?_
      refine lv_aload_n hx hb dL_law_676 rfl (lv_at hl 0 rfl) ?_
      refine lv_iload_n hx hb dL_law_677 rfl (lv_at hl 3 rfl) ?_
      refine lv_iconst (v := (1 : Int32)) hx hb dL_law_678 (by decide) ?_
      refine lv_iadd hx hb dL_law_679 ?_
      obtain ⟨hq, h⟩ := p_if h
      refine va_sld C.1 C.2.1 hX hbl hbA hw.2 hq dL_law_680 ?_
      refine lv_aload_n hx hb dL_law_681 rfl (lv_at hl 0 rfl) ?_
      refine lv_iload_n hx hb dL_law_682 rfl (lv_at hl 3 rfl) ?_
      refine lv_iconst (v := (2 : Int32)) hx hb dL_law_683 (by decide) ?_
      refine lv_iadd hx hb dL_law_684 ?_
      obtain ⟨hq, h⟩ := p_if h
      refine va_sld C.1 C.2.1 hX hbl hbA hw.2 hq dL_law_685 ?_
      obtain ⟨⟨v64, z63⟩, hq, h⟩ := p_bd h
      dsimp only at h
      refine w_Vi C hw (As := [.int (xs (b3 + (1 : Int32)).toNatClampNeg), .int (xs (b3 + (2 : Int32)).toNatClampNeg)]) (rest := [.int v62]) (c4_loudest l G z61 m (xs (b3 + (1 : Int32)).toNatClampNeg) (xs (b3 + (2 : Int32)).toNatClampNeg) (v64, z63) hq) kv_X4_loudest ml_L_80 ⟨rfl, rfl⟩ ⟨Nat.le_of_ble_eq_true rfl, Nat.le_of_ble_eq_true rfl⟩ ⟨Nat.le_refl _, Nat.le_refl _⟩ (w_recv C hw (wk_model G z61 m) rfl) rfl rfl (Nat.le_of_ble_eq_true rfl) (lv_sub hl [] rfl) dL_law_686 (fun H locs hw => ?_)
      refine lv_icmp_eq (tgt := 1598) hx hb dL_law_689 (by decide) (fun hc => ?_) (fun hc => ?_)
      · replace h := p_t hc h
        exact B1598 b3 z61 z63 _ _ _ (lv_sub hl [0, 1, 2, 3] rfl) hw h
      · replace h := p_f hc h
        refine lv_iconst (v := (0 : Int32)) hx hb dL_law_692 (by decide) ?_
        replace h := Option.some.inj h
        exact absurd h (by decide)
    have B638 : ∀ (b3 : Int32) (x : St) (m : St) (H : Heap) (locs : List Loc) (ls : Array Slot), lv_has ls 4 [(0, .ref (b)), (1, .ref (gq G 0)), (2, .ref (gq G 25)), (3, .int b3)] → Wd G s x m H locs → fL_law_b638 xs L (fL_law_L18 xs L n18) b3 x m = some 1 → W p l e room_1 s mm #[Value.ref b] below meth c H locs 600000 7302250 (lw_Z below #[Value.ref b] s) (F0 mm 638 ls []) := by
      intro b3 x m H locs ls hl hw h
      unfold fL_law_b638 at h
      refine lv_aload_n hx hb dL_law_638 rfl (lv_at hl 1 rfl) ?_
      refine lv_aload_n hx hb dL_law_639 rfl (lv_at hl 0 rfl) ?_
      refine lv_iload_n hx hb dL_law_640 rfl (lv_at hl 3 rfl) ?_
      refine lv_iconst (v := (1 : Int32)) hx hb dL_law_641 (by decide) ?_
      refine lv_iadd hx hb dL_law_642 ?_
      obtain ⟨hq, h⟩ := p_if h
      refine va_sld C.1 C.2.1 hX hbl hbA hw.2 hq dL_law_643 ?_
      obtain ⟨⟨v58, z57⟩, hq, h⟩ := p_bd h
      dsimp only at h
      refine w_Vi C hw (As := [.int (xs (b3 + (1 : Int32)).toNatClampNeg)]) (rest := []) (c3_harbour l G x m (xs (b3 + (1 : Int32)).toNatClampNeg) (v58, z57) hq) kv_X3_harbour ml_L_73 ⟨rfl, rfl⟩ ⟨Nat.le_of_ble_eq_true rfl, Nat.le_of_ble_eq_true rfl⟩ ⟨Nat.le_refl _, Nat.le_refl _⟩ (w_recv C hw (wk_main G x m) rfl) rfl rfl (Nat.le_of_ble_eq_true rfl) (lv_sub hl [] rfl) dL_law_644 (fun H locs hw => ?_)
      refine lv_aload_n hx hb dL_law_647 rfl (lv_at hl 2 rfl) ?_
      refine lv_aload_n hx hb dL_law_648 rfl (lv_at hl 0 rfl) ?_
      refine lv_iload_n hx hb dL_law_649 rfl (lv_at hl 3 rfl) ?_
      refine lv_iconst (v := (1 : Int32)) hx hb dL_law_650 (by decide) ?_
      refine lv_iadd hx hb dL_law_651 ?_
      obtain ⟨hq, h⟩ := p_if h
      refine va_sld C.1 C.2.1 hX hbl hbA hw.2 hq dL_law_652 ?_
      obtain ⟨⟨v60, z59⟩, hq, h⟩ := p_bd h
      dsimp only at h
      refine w_Vi C hw (As := [.int (xs (b3 + (1 : Int32)).toNatClampNeg)]) (rest := [.int v58]) (c4_harbour l G z57 m (xs (b3 + (1 : Int32)).toNatClampNeg) (v60, z59) hq) kv_X4_harbour ml_L_76 ⟨rfl, rfl⟩ ⟨Nat.le_of_ble_eq_true rfl, Nat.le_of_ble_eq_true rfl⟩ ⟨Nat.le_refl _, Nat.le_refl _⟩ (w_recv C hw (wk_model G z57 m) rfl) rfl rfl (Nat.le_of_ble_eq_true rfl) (lv_sub hl [] rfl) dL_law_653 (fun H locs hw => ?_)
      refine lv_icmp_eq (tgt := 1598) hx hb dL_law_656 (by decide) (fun hc => ?_) (fun hc => ?_)
      · replace h := p_t hc h
        exact B1598 b3 z57 z59 _ _ _ (lv_sub hl [0, 1, 2, 3] rfl) hw h
      · replace h := p_f hc h
        refine lv_iconst (v := (0 : Int32)) hx hb dL_law_659 (by decide) ?_
        replace h := Option.some.inj h
        exact absurd h (by decide)
    have B625 : ∀ (b3 : Int32) (x : St) (m : St) (H : Heap) (locs : List Loc) (ls : Array Slot), lv_has ls 4 [(0, .ref (b)), (1, .ref (gq G 0)), (2, .ref (gq G 25)), (3, .int b3)] → Wd G s x m H locs → fL_law_b625 xs L (fL_law_L18 xs L n18) b3 x m = some 1 → W p l e room_1 s mm #[Value.ref b] below meth c H locs 600000 7302250 (lw_Z below #[Value.ref b] s) (F0 mm 625 ls []) := by
      intro b3 x m H locs ls hl hw h
      unfold fL_law_b625 at h
      refine lv_aload_n hx hb dL_law_625 rfl (lv_at hl 1 rfl) ?_
      obtain ⟨⟨v54, z53⟩, hq, h⟩ := p_bd h
      dsimp only at h
      refine w_Vi C hw (As := []) (rest := []) (c3_still l G x m (v54, z53) hq) kv_X3_still ml_L_68 ⟨rfl, rfl⟩ ⟨Nat.le_of_ble_eq_true rfl, Nat.le_of_ble_eq_true rfl⟩ ⟨Nat.le_refl _, Nat.le_refl _⟩ (w_recv C hw (wk_main G x m) rfl) rfl rfl (Nat.le_of_ble_eq_true rfl) (lv_sub hl [] rfl) dL_law_626 (fun H locs hw => ?_)
      refine lv_aload_n hx hb dL_law_629 rfl (lv_at hl 2 rfl) ?_
      obtain ⟨⟨v56, z55⟩, hq, h⟩ := p_bd h
      dsimp only at h
      refine w_Vi C hw (As := []) (rest := [.int v54]) (c4_still l G z53 m (v56, z55) hq) kv_X4_still ml_L_72 ⟨rfl, rfl⟩ ⟨Nat.le_of_ble_eq_true rfl, Nat.le_of_ble_eq_true rfl⟩ ⟨Nat.le_refl _, Nat.le_refl _⟩ (w_recv C hw (wk_model G z53 m) rfl) rfl rfl (Nat.le_of_ble_eq_true rfl) (lv_sub hl [] rfl) dL_law_630 (fun H locs hw => ?_)
      refine lv_icmp_eq (tgt := 1598) hx hb dL_law_633 (by decide) (fun hc => ?_) (fun hc => ?_)
      · replace h := p_t hc h
        exact B1598 b3 z53 z55 _ _ _ (lv_sub hl [0, 1, 2, 3] rfl) hw h
      · replace h := p_f hc h
        refine lv_iconst (v := (0 : Int32)) hx hb dL_law_636 (by decide) ?_
        replace h := Option.some.inj h
        exact absurd h (by decide)
    have B602 : ∀ (b3 : Int32) (x : St) (m : St) (H : Heap) (locs : List Loc) (ls : Array Slot), lv_has ls 4 [(0, .ref (b)), (1, .ref (gq G 0)), (2, .ref (gq G 25)), (3, .int b3)] → Wd G s x m H locs → fL_law_b602 xs L (fL_law_L18 xs L n18) b3 x m = some 1 → W p l e room_1 s mm #[Value.ref b] below meth c H locs 600000 7302250 (lw_Z below #[Value.ref b] s) (F0 mm 602 ls []) := by
      intro b3 x m H locs ls hl hw h
      unfold fL_law_b602 at h
      refine lv_aload_n hx hb dL_law_602 rfl (lv_at hl 1 rfl) ?_
      refine lv_aload_n hx hb dL_law_603 rfl (lv_at hl 0 rfl) ?_
      refine lv_iload_n hx hb dL_law_604 rfl (lv_at hl 3 rfl) ?_
      refine lv_iconst (v := (1 : Int32)) hx hb dL_law_605 (by decide) ?_
      refine lv_iadd hx hb dL_law_606 ?_
      obtain ⟨hq, h⟩ := p_if h
      refine va_sld C.1 C.2.1 hX hbl hbA hw.2 hq dL_law_607 ?_
      obtain ⟨⟨v50, z49⟩, hq, h⟩ := p_bd h
      dsimp only at h
      refine w_Vi C hw (As := [.int (xs (b3 + (1 : Int32)).toNatClampNeg)]) (rest := []) (c3_heard l G x m (xs (b3 + (1 : Int32)).toNatClampNeg) (v50, z49) hq) kv_X3_heard ml_L_64 ⟨rfl, rfl⟩ ⟨Nat.le_of_ble_eq_true rfl, Nat.le_of_ble_eq_true rfl⟩ ⟨Nat.le_refl _, Nat.le_refl _⟩ (w_recv C hw (wk_main G x m) rfl) rfl rfl (Nat.le_of_ble_eq_true rfl) (lv_sub hl [] rfl) dL_law_608 (fun H locs hw => ?_)
      refine lv_aload_n hx hb dL_law_611 rfl (lv_at hl 2 rfl) ?_
      refine lv_aload_n hx hb dL_law_612 rfl (lv_at hl 0 rfl) ?_
      refine lv_iload_n hx hb dL_law_613 rfl (lv_at hl 3 rfl) ?_
      refine lv_iconst (v := (1 : Int32)) hx hb dL_law_614 (by decide) ?_
      refine lv_iadd hx hb dL_law_615 ?_
      obtain ⟨hq, h⟩ := p_if h
      refine va_sld C.1 C.2.1 hX hbl hbA hw.2 hq dL_law_616 ?_
      obtain ⟨⟨v52, z51⟩, hq, h⟩ := p_bd h
      dsimp only at h
      refine w_Vi C hw (As := [.int (xs (b3 + (1 : Int32)).toNatClampNeg)]) (rest := [.int v50]) (c4_heard l G z49 m (xs (b3 + (1 : Int32)).toNatClampNeg) (v52, z51) hq) kv_X4_heard ml_L_67 ⟨rfl, rfl⟩ ⟨Nat.le_of_ble_eq_true rfl, Nat.le_of_ble_eq_true rfl⟩ ⟨Nat.le_refl _, Nat.le_refl _⟩ (w_recv C hw (wk_model G z49 m) rfl) rfl rfl (Nat.le_of_ble_eq_true rfl) (lv_sub hl [] rfl) dL_law_617 (fun H locs hw => ?_)
      refine lv_icmp_eq (tgt := 1598) hx hb dL_law_620 (by decide) (fun hc => ?_) (fun hc => ?_)
      · replace h := p_t hc h
        exact B1598 b3 z49 z51 _ _ _ (lv_sub hl [0, 1, 2, 3] rfl) hw h
      · replace h := p_f hc h
        refine lv_iconst (v := (0 : Int32)) hx hb dL_law_623 (by decide) ?_
        replace h := Option.some.inj h
        exact absurd h (by decide)
    have B569 : ∀ (b3 : Int32) (x : St) (m : St) (H : Heap) (locs : List Loc) (ls : Array Slot), lv_has ls 4 [(0, .ref (b)), (1, .ref (gq G 0)), (2, .ref (gq G 25)), (3, .int b3)] → Wd G s x m H locs → fL_law_b569 xs L (fL_law_L18 xs L n18) b3 x m = some 1 → W p l e room_1 s mm #[Value.ref b] below meth c H locs 600000 7302250 (lw_Z below #[Value.ref b] s) (F0 mm 569 ls []) := by
      intro b3 x m H locs ls hl hw h
      unfold fL_law_b569 at h
      refine lv_aload_n hx hb dL_law_569 rfl (lv_at hl 1 rfl) ?_
      refine lv_aload_n hx hb dL_law_570 rfl (lv_at hl 0 rfl) ?_
      refine lv_iload_n hx hb dL_law_571 rfl (lv_at hl 3 rfl) ?_
      refine lv_iconst (v := (1 : Int32)) hx hb dL_law_572 (by decide) ?_
      refine lv_iadd hx hb dL_law_573 ?_
      obtain ⟨hq, h⟩ := p_if h
      refine va_sld C.1 C.2.1 hX hbl hbA hw.2 hq dL_law_574 ?_
      refine lv_aload_n hx hb dL_law_575 rfl (lv_at hl 0 rfl) ?_
      refine lv_iload_n hx hb dL_law_576 rfl (lv_at hl 3 rfl) ?_
      refine lv_iconst (v := (2 : Int32)) hx hb dL_law_577 (by decide) ?_
      refine lv_iadd hx hb dL_law_578 ?_
      obtain ⟨hq, h⟩ := p_if h
      refine va_sld C.1 C.2.1 hX hbl hbA hw.2 hq dL_law_579 ?_
      obtain ⟨⟨v46, z45⟩, hq, h⟩ := p_bd h
      dsimp only at h
      refine w_Vi C hw (As := [.int (xs (b3 + (1 : Int32)).toNatClampNeg), .int (xs (b3 + (2 : Int32)).toNatClampNeg)]) (rest := []) (c3_loud l G x m (xs (b3 + (1 : Int32)).toNatClampNeg) (xs (b3 + (2 : Int32)).toNatClampNeg) (v46, z45) hq) kv_X3_loud ml_L_60 ⟨rfl, rfl⟩ ⟨Nat.le_of_ble_eq_true rfl, Nat.le_of_ble_eq_true rfl⟩ ⟨Nat.le_refl _, Nat.le_refl _⟩ (w_recv C hw (wk_main G x m) rfl) rfl rfl (Nat.le_of_ble_eq_true rfl) (lv_sub hl [] rfl) dL_law_580 (fun H locs hw => ?_)
      refine lv_aload_n hx hb dL_law_583 rfl (lv_at hl 2 rfl) ?_
      refine lv_aload_n hx hb dL_law_584 rfl (lv_at hl 0 rfl) ?_
      refine lv_iload_n hx hb dL_law_585 rfl (lv_at hl 3 rfl) ?_
      refine lv_iconst (v := (1 : Int32)) hx hb dL_law_586 (by decide) ?_
      refine lv_iadd hx hb dL_law_587 ?_
      obtain ⟨hq, h⟩ := p_if h
      refine va_sld C.1 C.2.1 hX hbl hbA hw.2 hq dL_law_588 ?_
      refine lv_aload_n hx hb dL_law_589 rfl (lv_at hl 0 rfl) ?_
      refine lv_iload_n hx hb dL_law_590 rfl (lv_at hl 3 rfl) ?_
      refine lv_iconst (v := (2 : Int32)) hx hb dL_law_591 (by decide) ?_
      refine lv_iadd hx hb dL_law_592 ?_
      obtain ⟨hq, h⟩ := p_if h
      refine va_sld C.1 C.2.1 hX hbl hbA hw.2 hq dL_law_593 ?_
      obtain ⟨⟨v48, z47⟩, hq, h⟩ := p_bd h
      dsimp only at h
      refine w_Vi C hw (As := [.int (xs (b3 + (1 : Int32)).toNatClampNeg), .int (xs (b3 + (2 : Int32)).toNatClampNeg)]) (rest := [.int v46]) (c4_loud l G z45 m (xs (b3 + (1 : Int32)).toNatClampNeg) (xs (b3 + (2 : Int32)).toNatClampNeg) (v48, z47) hq) kv_X4_loud ml_L_63 ⟨rfl, rfl⟩ ⟨Nat.le_of_ble_eq_true rfl, Nat.le_of_ble_eq_true rfl⟩ ⟨Nat.le_refl _, Nat.le_refl _⟩ (w_recv C hw (wk_model G z45 m) rfl) rfl rfl (Nat.le_of_ble_eq_true rfl) (lv_sub hl [] rfl) dL_law_594 (fun H locs hw => ?_)
      refine lv_icmp_eq (tgt := 1598) hx hb dL_law_597 (by decide) (fun hc => ?_) (fun hc => ?_)
      · replace h := p_t hc h
        exact B1598 b3 z45 z47 _ _ _ (lv_sub hl [0, 1, 2, 3] rfl) hw h
      · replace h := p_f hc h
        refine lv_iconst (v := (0 : Int32)) hx hb dL_law_600 (by decide) ?_
        replace h := Option.some.inj h
        exact absurd h (by decide)
    have B536 : ∀ (b3 : Int32) (x : St) (m : St) (H : Heap) (locs : List Loc) (ls : Array Slot), lv_has ls 4 [(0, .ref (b)), (1, .ref (gq G 0)), (2, .ref (gq G 25)), (3, .int b3)] → Wd G s x m H locs → fL_law_b536 xs L (fL_law_L18 xs L n18) b3 x m = some 1 → W p l e room_1 s mm #[Value.ref b] below meth c H locs 600000 7302250 (lw_Z below #[Value.ref b] s) (F0 mm 536 ls []) := by
      intro b3 x m H locs ls hl hw h
      unfold fL_law_b536 at h
      refine lv_aload_n hx hb dL_law_536 rfl (lv_at hl 1 rfl) ?_
      refine lv_aload_n hx hb dL_law_537 rfl (lv_at hl 0 rfl) ?_
      refine lv_iload_n hx hb dL_law_538 rfl (lv_at hl 3 rfl) ?_
      refine lv_iconst (v := (1 : Int32)) hx hb dL_law_539 (by decide) ?_
      refine lv_iadd hx hb dL_law_540 ?_
      obtain ⟨hq, h⟩ := p_if h
      refine va_sld C.1 C.2.1 hX hbl hbA hw.2 hq dL_law_541 ?_
      refine lv_aload_n hx hb dL_law_542 rfl (lv_at hl 0 rfl) ?_
      refine lv_iload_n hx hb dL_law_543 rfl (lv_at hl 3 rfl) ?_
      refine lv_iconst (v := (2 : Int32)) hx hb dL_law_544 (by decide) ?_
      refine lv_iadd hx hb dL_law_545 ?_
      obtain ⟨hq, h⟩ := p_if h
      refine va_sld C.1 C.2.1 hX hbl hbA hw.2 hq dL_law_546 ?_
      obtain ⟨⟨v42, z41⟩, hq, h⟩ := p_bd h
      dsimp only at h
      refine w_Vi C hw (As := [.int (xs (b3 + (1 : Int32)).toNatClampNeg), .int (xs (b3 + (2 : Int32)).toNatClampNeg)]) (rest := []) (c3_ahead l G x m (xs (b3 + (1 : Int32)).toNatClampNeg) (xs (b3 + (2 : Int32)).toNatClampNeg) (v42, z41) hq) kv_X3_ahead ml_L_56 ⟨rfl, rfl⟩ ⟨Nat.le_of_ble_eq_true rfl, Nat.le_of_ble_eq_true rfl⟩ ⟨Nat.le_refl _, Nat.le_refl _⟩ (w_recv C hw (wk_main G x m) rfl) rfl rfl (Nat.le_of_ble_eq_true rfl) (lv_sub hl [] rfl) dL_law_547 (fun H locs hw => ?_)
      refine lv_aload_n hx hb dL_law_550 rfl (lv_at hl 2 rfl) ?_
      refine lv_aload_n hx hb dL_law_551 rfl (lv_at hl 0 rfl) ?_
      refine lv_iload_n hx hb dL_law_552 rfl (lv_at hl 3 rfl) ?_
      refine lv_iconst (v := (1 : Int32)) hx hb dL_law_553 (by decide) ?_
      refine lv_iadd hx hb dL_law_554 ?_
      obtain ⟨hq, h⟩ := p_if h
      refine va_sld C.1 C.2.1 hX hbl hbA hw.2 hq dL_law_555 ?_
      refine lv_aload_n hx hb dL_law_556 rfl (lv_at hl 0 rfl) ?_
      refine lv_iload_n hx hb dL_law_557 rfl (lv_at hl 3 rfl) ?_
      refine lv_iconst (v := (2 : Int32)) hx hb dL_law_558 (by decide) ?_
      refine lv_iadd hx hb dL_law_559 ?_
      obtain ⟨hq, h⟩ := p_if h
      refine va_sld C.1 C.2.1 hX hbl hbA hw.2 hq dL_law_560 ?_
      obtain ⟨⟨v44, z43⟩, hq, h⟩ := p_bd h
      dsimp only at h
      refine w_Vi C hw (As := [.int (xs (b3 + (1 : Int32)).toNatClampNeg), .int (xs (b3 + (2 : Int32)).toNatClampNeg)]) (rest := [.int v42]) (c4_ahead l G z41 m (xs (b3 + (1 : Int32)).toNatClampNeg) (xs (b3 + (2 : Int32)).toNatClampNeg) (v44, z43) hq) kv_X4_ahead ml_L_59 ⟨rfl, rfl⟩ ⟨Nat.le_of_ble_eq_true rfl, Nat.le_of_ble_eq_true rfl⟩ ⟨Nat.le_refl _, Nat.le_refl _⟩ (w_recv C hw (wk_model G z41 m) rfl) rfl rfl (Nat.le_of_ble_eq_true rfl) (lv_sub hl [] rfl) dL_law_561 (fun H locs hw => ?_)
      refine lv_icmp_eq (tgt := 1598) hx hb dL_law_564 (by decide) (fun hc => ?_) (fun hc => ?_)
      · replace h := p_t hc h
        exact B1598 b3 z41 z43 _ _ _ (lv_sub hl [0, 1, 2, 3] rfl) hw h
      · replace h := p_f hc h
        refine lv_iconst (v := (0 : Int32)) hx hb dL_law_567 (by decide) ?_
        replace h := Option.some.inj h
        exact absurd h (by decide)
    have B513 : ∀ (b3 : Int32) (x : St) (m : St) (H : Heap) (locs : List Loc) (ls : Array Slot), lv_has ls 4 [(0, .ref (b)), (1, .ref (gq G 0)), (2, .ref (gq G 25)), (3, .int b3)] → Wd G s x m H locs → fL_law_b513 xs L (fL_law_L18 xs L n18) b3 x m = some 1 → W p l e room_1 s mm #[Value.ref b] below meth c H locs 600000 7302250 (lw_Z below #[Value.ref b] s) (F0 mm 513 ls []) := by
      intro b3 x m H locs ls hl hw h
      unfold fL_law_b513 at h
      refine lv_aload_n hx hb dL_law_513 rfl (lv_at hl 1 rfl) ?_
      refine lv_aload_n hx hb dL_law_514 rfl (lv_at hl 0 rfl) ?_
      refine lv_iload_n hx hb dL_law_515 rfl (lv_at hl 3 rfl) ?_
      refine lv_iconst (v := (1 : Int32)) hx hb dL_law_516 (by decide) ?_
      refine lv_iadd hx hb dL_law_517 ?_
      obtain ⟨hq, h⟩ := p_if h
      refine va_sld C.1 C.2.1 hX hbl hbA hw.2 hq dL_law_518 ?_
      obtain ⟨⟨v38, z37⟩, hq, h⟩ := p_bd h
      dsimp only at h
      refine w_Vi C hw (As := [.int (xs (b3 + (1 : Int32)).toNatClampNeg)]) (rest := []) (c3_merge l G x m (xs (b3 + (1 : Int32)).toNatClampNeg) (v38, z37) hq) kv_X3_merge ml_L_52 ⟨rfl, rfl⟩ ⟨Nat.le_of_ble_eq_true rfl, Nat.le_of_ble_eq_true rfl⟩ ⟨Nat.le_refl _, Nat.le_refl _⟩ (w_recv C hw (wk_main G x m) rfl) rfl rfl (Nat.le_of_ble_eq_true rfl) (lv_sub hl [] rfl) dL_law_519 (fun H locs hw => ?_)
      refine lv_aload_n hx hb dL_law_522 rfl (lv_at hl 2 rfl) ?_
      refine lv_aload_n hx hb dL_law_523 rfl (lv_at hl 0 rfl) ?_
      refine lv_iload_n hx hb dL_law_524 rfl (lv_at hl 3 rfl) ?_
      refine lv_iconst (v := (1 : Int32)) hx hb dL_law_525 (by decide) ?_
      refine lv_iadd hx hb dL_law_526 ?_
      obtain ⟨hq, h⟩ := p_if h
      refine va_sld C.1 C.2.1 hX hbl hbA hw.2 hq dL_law_527 ?_
      obtain ⟨⟨v40, z39⟩, hq, h⟩ := p_bd h
      dsimp only at h
      refine w_Vi C hw (As := [.int (xs (b3 + (1 : Int32)).toNatClampNeg)]) (rest := [.int v38]) (c4_merge l G z37 m (xs (b3 + (1 : Int32)).toNatClampNeg) (v40, z39) hq) kv_X4_merge ml_L_55 ⟨rfl, rfl⟩ ⟨Nat.le_of_ble_eq_true rfl, Nat.le_of_ble_eq_true rfl⟩ ⟨Nat.le_refl _, Nat.le_refl _⟩ (w_recv C hw (wk_model G z37 m) rfl) rfl rfl (Nat.le_of_ble_eq_true rfl) (lv_sub hl [] rfl) dL_law_528 (fun H locs hw => ?_)
      refine lv_icmp_eq (tgt := 1598) hx hb dL_law_531 (by decide) (fun hc => ?_) (fun hc => ?_)
      · replace h := p_t hc h
        exact B1598 b3 z37 z39 _ _ _ (lv_sub hl [0, 1, 2, 3] rfl) hw h
      · replace h := p_f hc h
        refine lv_iconst (v := (0 : Int32)) hx hb dL_law_534 (by decide) ?_
        replace h := Option.some.inj h
        exact absurd h (by decide)
    have B490 : ∀ (b3 : Int32) (x : St) (m : St) (H : Heap) (locs : List Loc) (ls : Array Slot), lv_has ls 4 [(0, .ref (b)), (1, .ref (gq G 0)), (2, .ref (gq G 25)), (3, .int b3)] → Wd G s x m H locs → fL_law_b490 xs L (fL_law_L18 xs L n18) b3 x m = some 1 → W p l e room_1 s mm #[Value.ref b] below meth c H locs 600000 7302250 (lw_Z below #[Value.ref b] s) (F0 mm 490 ls []) := by
      intro b3 x m H locs ls hl hw h
      unfold fL_law_b490 at h
      refine lv_aload_n hx hb dL_law_490 rfl (lv_at hl 1 rfl) ?_
      refine lv_aload_n hx hb dL_law_491 rfl (lv_at hl 0 rfl) ?_
      refine lv_iload_n hx hb dL_law_492 rfl (lv_at hl 3 rfl) ?_
      refine lv_iconst (v := (1 : Int32)) hx hb dL_law_493 (by decide) ?_
      refine lv_iadd hx hb dL_law_494 ?_
      obtain ⟨hq, h⟩ := p_if h
      refine va_sld C.1 C.2.1 hX hbl hbA hw.2 hq dL_law_495 ?_
      obtain ⟨⟨v34, z33⟩, hq, h⟩ := p_bd h
      dsimp only at h
      refine w_Vi C hw (As := [.int (xs (b3 + (1 : Int32)).toNatClampNeg)]) (rest := []) (c3_now l G x m (xs (b3 + (1 : Int32)).toNatClampNeg) (v34, z33) hq) kv_X3_now ml_L_48 ⟨rfl, rfl⟩ ⟨Nat.le_of_ble_eq_true rfl, Nat.le_of_ble_eq_true rfl⟩ ⟨Nat.le_refl _, Nat.le_refl _⟩ (w_recv C hw (wk_main G x m) rfl) rfl rfl (Nat.le_of_ble_eq_true rfl) (lv_sub hl [] rfl) dL_law_496 (fun H locs hw => ?_)
      refine lv_aload_n hx hb dL_law_499 rfl (lv_at hl 2 rfl) ?_
      refine lv_aload_n hx hb dL_law_500 rfl (lv_at hl 0 rfl) ?_
      refine lv_iload_n hx hb dL_law_501 rfl (lv_at hl 3 rfl) ?_
      refine lv_iconst (v := (1 : Int32)) hx hb dL_law_502 (by decide) ?_
      refine lv_iadd hx hb dL_law_503 ?_
      obtain ⟨hq, h⟩ := p_if h
      refine va_sld C.1 C.2.1 hX hbl hbA hw.2 hq dL_law_504 ?_
      obtain ⟨⟨v36, z35⟩, hq, h⟩ := p_bd h
      dsimp only at h
      refine w_Vi C hw (As := [.int (xs (b3 + (1 : Int32)).toNatClampNeg)]) (rest := [.int v34]) (c4_now l G z33 m (xs (b3 + (1 : Int32)).toNatClampNeg) (v36, z35) hq) kv_X4_now ml_L_51 ⟨rfl, rfl⟩ ⟨Nat.le_of_ble_eq_true rfl, Nat.le_of_ble_eq_true rfl⟩ ⟨Nat.le_refl _, Nat.le_refl _⟩ (w_recv C hw (wk_model G z33 m) rfl) rfl rfl (Nat.le_of_ble_eq_true rfl) (lv_sub hl [] rfl) dL_law_505 (fun H locs hw => ?_)
      refine lv_icmp_eq (tgt := 1598) hx hb dL_law_508 (by decide) (fun hc => ?_) (fun hc => ?_)
      · replace h := p_t hc h
        exact B1598 b3 z33 z35 _ _ _ (lv_sub hl [0, 1, 2, 3] rfl) hw h
      · replace h := p_f hc h
        refine lv_iconst (v := (0 : Int32)) hx hb dL_law_511 (by decide) ?_
        replace h := Option.some.inj h
        exact absurd h (by decide)
    have B467 : ∀ (b3 : Int32) (x : St) (m : St) (H : Heap) (locs : List Loc) (ls : Array Slot), lv_has ls 4 [(0, .ref (b)), (1, .ref (gq G 0)), (2, .ref (gq G 25)), (3, .int b3)] → Wd G s x m H locs → fL_law_b467 xs L (fL_law_L18 xs L n18) b3 x m = some 1 → W p l e room_1 s mm #[Value.ref b] below meth c H locs 600000 7302250 (lw_Z below #[Value.ref b] s) (F0 mm 467 ls []) := by
      intro b3 x m H locs ls hl hw h
      unfold fL_law_b467 at h
      refine lv_aload_n hx hb dL_law_467 rfl (lv_at hl 1 rfl) ?_
      refine lv_aload_n hx hb dL_law_468 rfl (lv_at hl 0 rfl) ?_
      refine lv_iload_n hx hb dL_law_469 rfl (lv_at hl 3 rfl) ?_
      refine lv_iconst (v := (1 : Int32)) hx hb dL_law_470 (by decide) ?_
      refine lv_iadd hx hb dL_law_471 ?_
      obtain ⟨hq, h⟩ := p_if h
      refine va_sld C.1 C.2.1 hX hbl hbA hw.2 hq dL_law_472 ?_
      obtain ⟨⟨v30, z29⟩, hq, h⟩ := p_bd h
      dsimp only at h
      refine w_Vi C hw (As := [.int (xs (b3 + (1 : Int32)).toNatClampNeg)]) (rest := []) (c3_go l G x m (xs (b3 + (1 : Int32)).toNatClampNeg) (v30, z29) hq) kv_X3_go ml_L_44 ⟨rfl, rfl⟩ ⟨Nat.le_of_ble_eq_true rfl, Nat.le_of_ble_eq_true rfl⟩ ⟨Nat.le_refl _, Nat.le_refl _⟩ (w_recv C hw (wk_main G x m) rfl) rfl rfl (Nat.le_of_ble_eq_true rfl) (lv_sub hl [] rfl) dL_law_473 (fun H locs hw => ?_)
      refine lv_aload_n hx hb dL_law_476 rfl (lv_at hl 2 rfl) ?_
      refine lv_aload_n hx hb dL_law_477 rfl (lv_at hl 0 rfl) ?_
      refine lv_iload_n hx hb dL_law_478 rfl (lv_at hl 3 rfl) ?_
      refine lv_iconst (v := (1 : Int32)) hx hb dL_law_479 (by decide) ?_
      refine lv_iadd hx hb dL_law_480 ?_
      obtain ⟨hq, h⟩ := p_if h
      refine va_sld C.1 C.2.1 hX hbl hbA hw.2 hq dL_law_481 ?_
      obtain ⟨⟨v32, z31⟩, hq, h⟩ := p_bd h
      dsimp only at h
      refine w_Vi C hw (As := [.int (xs (b3 + (1 : Int32)).toNatClampNeg)]) (rest := [.int v30]) (c4_go l G z29 m (xs (b3 + (1 : Int32)).toNatClampNeg) (v32, z31) hq) kv_X4_go ml_L_47 ⟨rfl, rfl⟩ ⟨Nat.le_of_ble_eq_true rfl, Nat.le_of_ble_eq_true rfl⟩ ⟨Nat.le_refl _, Nat.le_refl _⟩ (w_recv C hw (wk_model G z29 m) rfl) rfl rfl (Nat.le_of_ble_eq_true rfl) (lv_sub hl [] rfl) dL_law_482 (fun H locs hw => ?_)
      refine lv_icmp_eq (tgt := 1598) hx hb dL_law_485 (by decide) (fun hc => ?_) (fun hc => ?_)
      · replace h := p_t hc h
        exact B1598 b3 z29 z31 _ _ _ (lv_sub hl [0, 1, 2, 3] rfl) hw h
      · replace h := p_f hc h
        refine lv_iconst (v := (0 : Int32)) hx hb dL_law_488 (by decide) ?_
        replace h := Option.some.inj h
        exact absurd h (by decide)
    have B444 : ∀ (b3 : Int32) (x : St) (m : St) (H : Heap) (locs : List Loc) (ls : Array Slot), lv_has ls 4 [(0, .ref (b)), (1, .ref (gq G 0)), (2, .ref (gq G 25)), (3, .int b3)] → Wd G s x m H locs → fL_law_b444 xs L (fL_law_L18 xs L n18) b3 x m = some 1 → W p l e room_1 s mm #[Value.ref b] below meth c H locs 600000 7302250 (lw_Z below #[Value.ref b] s) (F0 mm 444 ls []) := by
      intro b3 x m H locs ls hl hw h
      unfold fL_law_b444 at h
      refine lv_aload_n hx hb dL_law_444 rfl (lv_at hl 1 rfl) ?_
      refine lv_aload_n hx hb dL_law_445 rfl (lv_at hl 0 rfl) ?_
      refine lv_iload_n hx hb dL_law_446 rfl (lv_at hl 3 rfl) ?_
      refine lv_iconst (v := (1 : Int32)) hx hb dL_law_447 (by decide) ?_
      refine lv_iadd hx hb dL_law_448 ?_
      obtain ⟨hq, h⟩ := p_if h
      refine va_sld C.1 C.2.1 hX hbl hbA hw.2 hq dL_law_449 ?_
      obtain ⟨⟨v26, z25⟩, hq, h⟩ := p_bd h
      dsimp only at h
      refine w_Vi C hw (As := [.int (xs (b3 + (1 : Int32)).toNatClampNeg)]) (rest := []) (c3_frost l G x m (xs (b3 + (1 : Int32)).toNatClampNeg) (v26, z25) hq) kv_X3_frost ml_L_40 ⟨rfl, rfl⟩ ⟨Nat.le_of_ble_eq_true rfl, Nat.le_of_ble_eq_true rfl⟩ ⟨Nat.le_refl _, Nat.le_refl _⟩ (w_recv C hw (wk_main G x m) rfl) rfl rfl (Nat.le_of_ble_eq_true rfl) (lv_sub hl [] rfl) dL_law_450 (fun H locs hw => ?_)
      refine lv_aload_n hx hb dL_law_453 rfl (lv_at hl 2 rfl) ?_
      refine lv_aload_n hx hb dL_law_454 rfl (lv_at hl 0 rfl) ?_
      refine lv_iload_n hx hb dL_law_455 rfl (lv_at hl 3 rfl) ?_
      refine lv_iconst (v := (1 : Int32)) hx hb dL_law_456 (by decide) ?_
      refine lv_iadd hx hb dL_law_457 ?_
      obtain ⟨hq, h⟩ := p_if h
      refine va_sld C.1 C.2.1 hX hbl hbA hw.2 hq dL_law_458 ?_
      obtain ⟨⟨v28, z27⟩, hq, h⟩ := p_bd h
      dsimp only at h
      refine w_Vi C hw (As := [.int (xs (b3 + (1 : Int32)).toNatClampNeg)]) (rest := [.int v26]) (c4_frost l G z25 m (xs (b3 + (1 : Int32)).toNatClampNeg) (v28, z27) hq) kv_X4_frost ml_L_43 ⟨rfl, rfl⟩ ⟨Nat.le_of_ble_eq_true rfl, Nat.le_of_ble_eq_true rfl⟩ ⟨Nat.le_refl _, Nat.le_refl _⟩ (w_recv C hw (wk_model G z25 m) rfl) rfl rfl (Nat.le_of_ble_eq_true rfl) (lv_sub hl [] rfl) dL_law_459 (fun H locs hw => ?_)
      refine lv_icmp_eq (tgt := 1598) hx hb dL_law_462 (by decide) (fun hc => ?_) (fun hc => ?_)
      · replace h := p_t hc h
        exact B1598 b3 z25 z27 _ _ _ (lv_sub hl [0, 1, 2, 3] rfl) hw h
      · replace h := p_f hc h
        refine lv_iconst (v := (0 : Int32)) hx hb dL_law_465 (by decide) ?_
        replace h := Option.some.inj h
        exact absurd h (by decide)
    have B421 : ∀ (b3 : Int32) (x : St) (m : St) (H : Heap) (locs : List Loc) (ls : Array Slot), lv_has ls 4 [(0, .ref (b)), (1, .ref (gq G 0)), (2, .ref (gq G 25)), (3, .int b3)] → Wd G s x m H locs → fL_law_b421 xs L (fL_law_L18 xs L n18) b3 x m = some 1 → W p l e room_1 s mm #[Value.ref b] below meth c H locs 600000 7302250 (lw_Z below #[Value.ref b] s) (F0 mm 421 ls []) := by
      intro b3 x m H locs ls hl hw h
      unfold fL_law_b421 at h
      refine lv_aload_n hx hb dL_law_421 rfl (lv_at hl 1 rfl) ?_
      refine lv_aload_n hx hb dL_law_422 rfl (lv_at hl 0 rfl) ?_
      refine lv_iload_n hx hb dL_law_423 rfl (lv_at hl 3 rfl) ?_
      refine lv_iconst (v := (1 : Int32)) hx hb dL_law_424 (by decide) ?_
      refine lv_iadd hx hb dL_law_425 ?_
      obtain ⟨hq, h⟩ := p_if h
      refine va_sld C.1 C.2.1 hX hbl hbA hw.2 hq dL_law_426 ?_
      obtain ⟨⟨v22, z21⟩, hq, h⟩ := p_bd h
      dsimp only at h
      refine w_Vi C hw (As := [.int (xs (b3 + (1 : Int32)).toNatClampNeg)]) (rest := []) (c3_aunts l G x m (xs (b3 + (1 : Int32)).toNatClampNeg) (v22, z21) hq) kv_X3_aunts ml_L_35 ⟨rfl, rfl⟩ ⟨Nat.le_of_ble_eq_true rfl, Nat.le_of_ble_eq_true rfl⟩ ⟨Nat.le_refl _, Nat.le_refl _⟩ (w_recv C hw (wk_main G x m) rfl) rfl rfl (Nat.le_of_ble_eq_true rfl) (lv_sub hl [] rfl) dL_law_427 (fun H locs hw => ?_)
      refine lv_aload_n hx hb dL_law_430 rfl (lv_at hl 2 rfl) ?_
      refine lv_aload_n hx hb dL_law_431 rfl (lv_at hl 0 rfl) ?_
      refine lv_iload_n hx hb dL_law_432 rfl (lv_at hl 3 rfl) ?_
      refine lv_iconst (v := (1 : Int32)) hx hb dL_law_433 (by decide) ?_
      refine lv_iadd hx hb dL_law_434 ?_
      obtain ⟨hq, h⟩ := p_if h
      refine va_sld C.1 C.2.1 hX hbl hbA hw.2 hq dL_law_435 ?_
      obtain ⟨⟨v24, z23⟩, hq, h⟩ := p_bd h
      dsimp only at h
      refine w_Vi C hw (As := [.int (xs (b3 + (1 : Int32)).toNatClampNeg)]) (rest := [.int v22]) (c4_aunts l G z21 m (xs (b3 + (1 : Int32)).toNatClampNeg) (v24, z23) hq) kv_X4_aunts ml_L_39 ⟨rfl, rfl⟩ ⟨Nat.le_of_ble_eq_true rfl, Nat.le_of_ble_eq_true rfl⟩ ⟨Nat.le_refl _, Nat.le_refl _⟩ (w_recv C hw (wk_model G z21 m) rfl) rfl rfl (Nat.le_of_ble_eq_true rfl) (lv_sub hl [] rfl) dL_law_436 (fun H locs hw => ?_)
      refine lv_icmp_eq (tgt := 1598) hx hb dL_law_439 (by decide) (fun hc => ?_) (fun hc => ?_)
      · replace h := p_t hc h
        exact B1598 b3 z21 z23 _ _ _ (lv_sub hl [0, 1, 2, 3] rfl) hw h
      · replace h := p_f hc h
        refine lv_iconst (v := (0 : Int32)) hx hb dL_law_442 (by decide) ?_
        replace h := Option.some.inj h
        exact absurd h (by decide)
    have B378 : ∀ (b3 : Int32) (x : St) (m : St) (H : Heap) (locs : List Loc) (ls : Array Slot), lv_has ls 4 [(0, .ref (b)), (1, .ref (gq G 0)), (2, .ref (gq G 25)), (3, .int b3)] → Wd G s x m H locs → fL_law_b378 xs L (fL_law_L18 xs L n18) b3 x m = some 1 → W p l e room_1 s mm #[Value.ref b] below meth c H locs 600000 7302250 (lw_Z below #[Value.ref b] s) (F0 mm 378 ls []) := by
      intro b3 x m H locs ls hl hw h
      unfold fL_law_b378 at h
      refine lv_aload_n hx hb dL_law_378 rfl (lv_at hl 1 rfl) ?_
      refine lv_aload_n hx hb dL_law_379 rfl (lv_at hl 0 rfl) ?_
      refine lv_iload_n hx hb dL_law_380 rfl (lv_at hl 3 rfl) ?_
      refine lv_iconst (v := (1 : Int32)) hx hb dL_law_381 (by decide) ?_
      refine lv_iadd hx hb dL_law_382 ?_
      obtain ⟨hq, h⟩ := p_if h
      refine va_sld C.1 C.2.1 hX hbl hbA hw.2 hq dL_law_383 ?_
      refine lv_aload_n hx hb dL_law_384 rfl (lv_at hl 0 rfl) ?_
      refine lv_iload_n hx hb dL_law_385 rfl (lv_at hl 3 rfl) ?_
      refine lv_iconst (v := (2 : Int32)) hx hb dL_law_386 (by decide) ?_
      refine lv_iadd hx hb dL_law_387 ?_
      obtain ⟨hq, h⟩ := p_if h
      refine va_sld C.1 C.2.1 hX hbl hbA hw.2 hq dL_law_388 ?_
      refine lv_aload_n hx hb dL_law_389 rfl (lv_at hl 0 rfl) ?_
      refine lv_iload_n hx hb dL_law_390 rfl (lv_at hl 3 rfl) ?_
      refine lv_iconst (v := (3 : Int32)) hx hb dL_law_391 (by decide) ?_
      refine lv_iadd hx hb dL_law_392 ?_
      obtain ⟨hq, h⟩ := p_if h
      refine va_sld C.1 C.2.1 hX hbl hbA hw.2 hq dL_law_393 ?_
      obtain ⟨⟨v18, z17⟩, hq, h⟩ := p_bd h
      dsimp only at h
      refine w_Vi C hw (As := [.int (xs (b3 + (1 : Int32)).toNatClampNeg), .int (xs (b3 + (2 : Int32)).toNatClampNeg), .int (xs (b3 + (3 : Int32)).toNatClampNeg)]) (rest := []) (c3_change l G x m (xs (b3 + (1 : Int32)).toNatClampNeg) (xs (b3 + (2 : Int32)).toNatClampNeg) (xs (b3 + (3 : Int32)).toNatClampNeg) (v18, z17) hq) kv_X3_change ml_L_31 ⟨rfl, rfl⟩ ⟨Nat.le_of_ble_eq_true rfl, Nat.le_of_ble_eq_true rfl⟩ ⟨Nat.le_refl _, Nat.le_refl _⟩ (w_recv C hw (wk_main G x m) rfl) rfl rfl (Nat.le_of_ble_eq_true rfl) (lv_sub hl [] rfl) dL_law_394 (fun H locs hw => ?_)
      refine lv_aload_n hx hb dL_law_397 rfl (lv_at hl 2 rfl) ?_
      refine lv_aload_n hx hb dL_law_398 rfl (lv_at hl 0 rfl) ?_
      refine lv_iload_n hx hb dL_law_399 rfl (lv_at hl 3 rfl) ?_
      refine lv_iconst (v := (1 : Int32)) hx hb dL_law_400 (by decide) ?_
      refine lv_iadd hx hb dL_law_401 ?_
      obtain ⟨hq, h⟩ := p_if h
      refine va_sld C.1 C.2.1 hX hbl hbA hw.2 hq dL_law_402 ?_
      refine lv_aload_n hx hb dL_law_403 rfl (lv_at hl 0 rfl) ?_
      refine lv_iload_n hx hb dL_law_404 rfl (lv_at hl 3 rfl) ?_
      refine lv_iconst (v := (2 : Int32)) hx hb dL_law_405 (by decide) ?_
      refine lv_iadd hx hb dL_law_406 ?_
      obtain ⟨hq, h⟩ := p_if h
      refine va_sld C.1 C.2.1 hX hbl hbA hw.2 hq dL_law_407 ?_
      refine lv_aload_n hx hb dL_law_408 rfl (lv_at hl 0 rfl) ?_
      refine lv_iload_n hx hb dL_law_409 rfl (lv_at hl 3 rfl) ?_
      refine lv_iconst (v := (3 : Int32)) hx hb dL_law_410 (by decide) ?_
      refine lv_iadd hx hb dL_law_411 ?_
      obtain ⟨hq, h⟩ := p_if h
      refine va_sld C.1 C.2.1 hX hbl hbA hw.2 hq dL_law_412 ?_
      obtain ⟨⟨v20, z19⟩, hq, h⟩ := p_bd h
      dsimp only at h
      refine w_Vi C hw (As := [.int (xs (b3 + (1 : Int32)).toNatClampNeg), .int (xs (b3 + (2 : Int32)).toNatClampNeg), .int (xs (b3 + (3 : Int32)).toNatClampNeg)]) (rest := [.int v18]) (c4_change l G z17 m (xs (b3 + (1 : Int32)).toNatClampNeg) (xs (b3 + (2 : Int32)).toNatClampNeg) (xs (b3 + (3 : Int32)).toNatClampNeg) (v20, z19) hq) kv_X4_change ml_L_34 ⟨rfl, rfl⟩ ⟨Nat.le_of_ble_eq_true rfl, Nat.le_of_ble_eq_true rfl⟩ ⟨Nat.le_refl _, Nat.le_refl _⟩ (w_recv C hw (wk_model G z17 m) rfl) rfl rfl (Nat.le_of_ble_eq_true rfl) (lv_sub hl [] rfl) dL_law_413 (fun H locs hw => ?_)
      refine lv_icmp_eq (tgt := 1598) hx hb dL_law_416 (by decide) (fun hc => ?_) (fun hc => ?_)
      · replace h := p_t hc h
        exact B1598 b3 z17 z19 _ _ _ (lv_sub hl [0, 1, 2, 3] rfl) hw h
      · replace h := p_f hc h
        refine lv_iconst (v := (0 : Int32)) hx hb dL_law_419 (by decide) ?_
        replace h := Option.some.inj h
        exact absurd h (by decide)
    have B345 : ∀ (b3 : Int32) (x : St) (m : St) (H : Heap) (locs : List Loc) (ls : Array Slot), lv_has ls 4 [(0, .ref (b)), (1, .ref (gq G 0)), (2, .ref (gq G 25)), (3, .int b3)] → Wd G s x m H locs → fL_law_b345 xs L (fL_law_L18 xs L n18) b3 x m = some 1 → W p l e room_1 s mm #[Value.ref b] below meth c H locs 600000 7302250 (lw_Z below #[Value.ref b] s) (F0 mm 345 ls []) := by
      intro b3 x m H locs ls hl hw h
      unfold fL_law_b345 at h
      refine lv_aload_n hx hb dL_law_345 rfl (lv_at hl 1 rfl) ?_
      refine lv_aload_n hx hb dL_law_346 rfl (lv_at hl 0 rfl) ?_
      refine lv_iload_n hx hb dL_law_347 rfl (lv_at hl 3 rfl) ?_
      refine lv_iconst (v := (1 : Int32)) hx hb dL_law_348 (by decide) ?_
      refine lv_iadd hx hb dL_law_349 ?_
      obtain ⟨hq, h⟩ := p_if h
      refine va_sld C.1 C.2.1 hX hbl hbA hw.2 hq dL_law_350 ?_
      refine lv_aload_n hx hb dL_law_351 rfl (lv_at hl 0 rfl) ?_
      refine lv_iload_n hx hb dL_law_352 rfl (lv_at hl 3 rfl) ?_
      refine lv_iconst (v := (2 : Int32)) hx hb dL_law_353 (by decide) ?_
      refine lv_iadd hx hb dL_law_354 ?_
      obtain ⟨hq, h⟩ := p_if h
      refine va_sld C.1 C.2.1 hX hbl hbA hw.2 hq dL_law_355 ?_
      obtain ⟨⟨v14, z13⟩, hq, h⟩ := p_bd h
      dsimp only at h
      refine w_Vi C hw (As := [.int (xs (b3 + (1 : Int32)).toNatClampNeg), .int (xs (b3 + (2 : Int32)).toNatClampNeg)]) (rest := []) (c3_of l G x m (xs (b3 + (1 : Int32)).toNatClampNeg) (xs (b3 + (2 : Int32)).toNatClampNeg) (v14, z13) hq) kv_X3_of ml_L_27 ⟨rfl, rfl⟩ ⟨Nat.le_of_ble_eq_true rfl, Nat.le_of_ble_eq_true rfl⟩ ⟨Nat.le_refl _, Nat.le_refl _⟩ (w_recv C hw (wk_main G x m) rfl) rfl rfl (Nat.le_of_ble_eq_true rfl) (lv_sub hl [] rfl) dL_law_356 (fun H locs hw => ?_)
      refine lv_aload_n hx hb dL_law_359 rfl (lv_at hl 2 rfl) ?_
      refine lv_aload_n hx hb dL_law_360 rfl (lv_at hl 0 rfl) ?_
      refine lv_iload_n hx hb dL_law_361 rfl (lv_at hl 3 rfl) ?_
      refine lv_iconst (v := (1 : Int32)) hx hb dL_law_362 (by decide) ?_
      refine lv_iadd hx hb dL_law_363 ?_
      obtain ⟨hq, h⟩ := p_if h
      refine va_sld C.1 C.2.1 hX hbl hbA hw.2 hq dL_law_364 ?_
      refine lv_aload_n hx hb dL_law_365 rfl (lv_at hl 0 rfl) ?_
      refine lv_iload_n hx hb dL_law_366 rfl (lv_at hl 3 rfl) ?_
      refine lv_iconst (v := (2 : Int32)) hx hb dL_law_367 (by decide) ?_
      refine lv_iadd hx hb dL_law_368 ?_
      obtain ⟨hq, h⟩ := p_if h
      refine va_sld C.1 C.2.1 hX hbl hbA hw.2 hq dL_law_369 ?_
      obtain ⟨⟨v16, z15⟩, hq, h⟩ := p_bd h
      dsimp only at h
      refine w_Vi C hw (As := [.int (xs (b3 + (1 : Int32)).toNatClampNeg), .int (xs (b3 + (2 : Int32)).toNatClampNeg)]) (rest := [.int v14]) (c4_of l G z13 m (xs (b3 + (1 : Int32)).toNatClampNeg) (xs (b3 + (2 : Int32)).toNatClampNeg) (v16, z15) hq) kv_X4_of ml_L_30 ⟨rfl, rfl⟩ ⟨Nat.le_of_ble_eq_true rfl, Nat.le_of_ble_eq_true rfl⟩ ⟨Nat.le_refl _, Nat.le_refl _⟩ (w_recv C hw (wk_model G z13 m) rfl) rfl rfl (Nat.le_of_ble_eq_true rfl) (lv_sub hl [] rfl) dL_law_370 (fun H locs hw => ?_)
      refine lv_icmp_eq (tgt := 1598) hx hb dL_law_373 (by decide) (fun hc => ?_) (fun hc => ?_)
      · replace h := p_t hc h
        exact B1598 b3 z13 z15 _ _ _ (lv_sub hl [0, 1, 2, 3] rfl) hw h
      · replace h := p_f hc h
        refine lv_iconst (v := (0 : Int32)) hx hb dL_law_376 (by decide) ?_
        replace h := Option.some.inj h
        exact absurd h (by decide)
    have B312 : ∀ (b3 : Int32) (x : St) (m : St) (H : Heap) (locs : List Loc) (ls : Array Slot), lv_has ls 4 [(0, .ref (b)), (1, .ref (gq G 0)), (2, .ref (gq G 25)), (3, .int b3)] → Wd G s x m H locs → fL_law_b312 xs L (fL_law_L18 xs L n18) b3 x m = some 1 → W p l e room_1 s mm #[Value.ref b] below meth c H locs 600000 7302250 (lw_Z below #[Value.ref b] s) (F0 mm 312 ls []) := by
      intro b3 x m H locs ls hl hw h
      unfold fL_law_b312 at h
      refine lv_aload_n hx hb dL_law_312 rfl (lv_at hl 1 rfl) ?_
      refine lv_aload_n hx hb dL_law_313 rfl (lv_at hl 0 rfl) ?_
      refine lv_iload_n hx hb dL_law_314 rfl (lv_at hl 3 rfl) ?_
      refine lv_iconst (v := (1 : Int32)) hx hb dL_law_315 (by decide) ?_
      refine lv_iadd hx hb dL_law_316 ?_
      obtain ⟨hq, h⟩ := p_if h
      refine va_sld C.1 C.2.1 hX hbl hbA hw.2 hq dL_law_317 ?_
      refine lv_aload_n hx hb dL_law_318 rfl (lv_at hl 0 rfl) ?_
      refine lv_iload_n hx hb dL_law_319 rfl (lv_at hl 3 rfl) ?_
      refine lv_iconst (v := (2 : Int32)) hx hb dL_law_320 (by decide) ?_
      refine lv_iadd hx hb dL_law_321 ?_
      obtain ⟨hq, h⟩ := p_if h
      refine va_sld C.1 C.2.1 hX hbl hbA hw.2 hq dL_law_322 ?_
      obtain ⟨⟨v10, z9⟩, hq, h⟩ := p_bd h
      dsimp only at h
      refine w_Vi C hw (As := [.int (xs (b3 + (1 : Int32)).toNatClampNeg), .int (xs (b3 + (2 : Int32)).toNatClampNeg)]) (rest := []) (c3_says l G x m (xs (b3 + (1 : Int32)).toNatClampNeg) (xs (b3 + (2 : Int32)).toNatClampNeg) (v10, z9) hq) kv_X3_says ml_L_23 ⟨rfl, rfl⟩ ⟨Nat.le_of_ble_eq_true rfl, Nat.le_of_ble_eq_true rfl⟩ ⟨Nat.le_refl _, Nat.le_refl _⟩ (w_recv C hw (wk_main G x m) rfl) rfl rfl (Nat.le_of_ble_eq_true rfl) (lv_sub hl [] rfl) dL_law_323 (fun H locs hw => ?_)
      refine lv_aload_n hx hb dL_law_326 rfl (lv_at hl 2 rfl) ?_
      refine lv_aload_n hx hb dL_law_327 rfl (lv_at hl 0 rfl) ?_
      refine lv_iload_n hx hb dL_law_328 rfl (lv_at hl 3 rfl) ?_
      refine lv_iconst (v := (1 : Int32)) hx hb dL_law_329 (by decide) ?_
      refine lv_iadd hx hb dL_law_330 ?_
      obtain ⟨hq, h⟩ := p_if h
      refine va_sld C.1 C.2.1 hX hbl hbA hw.2 hq dL_law_331 ?_
      refine lv_aload_n hx hb dL_law_332 rfl (lv_at hl 0 rfl) ?_
      refine lv_iload_n hx hb dL_law_333 rfl (lv_at hl 3 rfl) ?_
      refine lv_iconst (v := (2 : Int32)) hx hb dL_law_334 (by decide) ?_
      refine lv_iadd hx hb dL_law_335 ?_
      obtain ⟨hq, h⟩ := p_if h
      refine va_sld C.1 C.2.1 hX hbl hbA hw.2 hq dL_law_336 ?_
      obtain ⟨⟨v12, z11⟩, hq, h⟩ := p_bd h
      dsimp only at h
      refine w_Vi C hw (As := [.int (xs (b3 + (1 : Int32)).toNatClampNeg), .int (xs (b3 + (2 : Int32)).toNatClampNeg)]) (rest := [.int v10]) (c4_says l G z9 m (xs (b3 + (1 : Int32)).toNatClampNeg) (xs (b3 + (2 : Int32)).toNatClampNeg) (v12, z11) hq) kv_X4_says ml_L_26 ⟨rfl, rfl⟩ ⟨Nat.le_of_ble_eq_true rfl, Nat.le_of_ble_eq_true rfl⟩ ⟨Nat.le_refl _, Nat.le_refl _⟩ (w_recv C hw (wk_model G z9 m) rfl) rfl rfl (Nat.le_of_ble_eq_true rfl) (lv_sub hl [] rfl) dL_law_337 (fun H locs hw => ?_)
      refine lv_icmp_eq (tgt := 1598) hx hb dL_law_340 (by decide) (fun hc => ?_) (fun hc => ?_)
      · replace h := p_t hc h
        exact B1598 b3 z9 z11 _ _ _ (lv_sub hl [0, 1, 2, 3] rfl) hw h
      · replace h := p_f hc h
        refine lv_iconst (v := (0 : Int32)) hx hb dL_law_343 (by decide) ?_
        replace h := Option.some.inj h
        exact absurd h (by decide)
    have B269 : ∀ (b3 : Int32) (x : St) (m : St) (H : Heap) (locs : List Loc) (ls : Array Slot), lv_has ls 4 [(0, .ref (b)), (1, .ref (gq G 0)), (2, .ref (gq G 25)), (3, .int b3)] → Wd G s x m H locs → fL_law_b269 xs L (fL_law_L18 xs L n18) b3 x m = some 1 → W p l e room_1 s mm #[Value.ref b] below meth c H locs 600000 7302250 (lw_Z below #[Value.ref b] s) (F0 mm 269 ls []) := by
      intro b3 x m H locs ls hl hw h
      unfold fL_law_b269 at h
      refine lv_aload_n hx hb dL_law_269 rfl (lv_at hl 1 rfl) ?_
      refine lv_aload_n hx hb dL_law_270 rfl (lv_at hl 0 rfl) ?_
      refine lv_iload_n hx hb dL_law_271 rfl (lv_at hl 3 rfl) ?_
      refine lv_iconst (v := (1 : Int32)) hx hb dL_law_272 (by decide) ?_
      refine lv_iadd hx hb dL_law_273 ?_
      obtain ⟨hq, h⟩ := p_if h
      refine va_sld C.1 C.2.1 hX hbl hbA hw.2 hq dL_law_274 ?_
      refine lv_aload_n hx hb dL_law_275 rfl (lv_at hl 0 rfl) ?_
      refine lv_iload_n hx hb dL_law_276 rfl (lv_at hl 3 rfl) ?_
      refine lv_iconst (v := (2 : Int32)) hx hb dL_law_277 (by decide) ?_
      refine lv_iadd hx hb dL_law_278 ?_
      obtain ⟨hq, h⟩ := p_if h
      refine va_sld C.1 C.2.1 hX hbl hbA hw.2 hq dL_law_279 ?_
      refine lv_aload_n hx hb dL_law_280 rfl (lv_at hl 0 rfl) ?_
      refine lv_iload_n hx hb dL_law_281 rfl (lv_at hl 3 rfl) ?_
      refine lv_iconst (v := (3 : Int32)) hx hb dL_law_282 (by decide) ?_
      refine lv_iadd hx hb dL_law_283 ?_
      obtain ⟨hq, h⟩ := p_if h
      refine va_sld C.1 C.2.1 hX hbl hbA hw.2 hq dL_law_284 ?_
      obtain ⟨⟨v6, z5⟩, hq, h⟩ := p_bd h
      dsimp only at h
      refine w_Vi C hw (As := [.int (xs (b3 + (1 : Int32)).toNatClampNeg), .int (xs (b3 + (2 : Int32)).toNatClampNeg), .int (xs (b3 + (3 : Int32)).toNatClampNeg)]) (rest := []) (c3_build l G x m (xs (b3 + (1 : Int32)).toNatClampNeg) (xs (b3 + (2 : Int32)).toNatClampNeg) (xs (b3 + (3 : Int32)).toNatClampNeg) (v6, z5) hq) kv_X3_build ml_L_18 ⟨rfl, rfl⟩ ⟨Nat.le_of_ble_eq_true rfl, Nat.le_of_ble_eq_true rfl⟩ ⟨Nat.le_refl _, Nat.le_refl _⟩ (w_recv C hw (wk_main G x m) rfl) rfl rfl (Nat.le_of_ble_eq_true rfl) (lv_sub hl [] rfl) dL_law_285 (fun H locs hw => ?_)
      refine lv_aload_n hx hb dL_law_288 rfl (lv_at hl 2 rfl) ?_
      refine lv_aload_n hx hb dL_law_289 rfl (lv_at hl 0 rfl) ?_
      refine lv_iload_n hx hb dL_law_290 rfl (lv_at hl 3 rfl) ?_
      refine lv_iconst (v := (1 : Int32)) hx hb dL_law_291 (by decide) ?_
      refine lv_iadd hx hb dL_law_292 ?_
      obtain ⟨hq, h⟩ := p_if h
      refine va_sld C.1 C.2.1 hX hbl hbA hw.2 hq dL_law_293 ?_
      refine lv_aload_n hx hb dL_law_294 rfl (lv_at hl 0 rfl) ?_
      refine lv_iload_n hx hb dL_law_295 rfl (lv_at hl 3 rfl) ?_
      refine lv_iconst (v := (2 : Int32)) hx hb dL_law_296 (by decide) ?_
      refine lv_iadd hx hb dL_law_297 ?_
      obtain ⟨hq, h⟩ := p_if h
      refine va_sld C.1 C.2.1 hX hbl hbA hw.2 hq dL_law_298 ?_
      refine lv_aload_n hx hb dL_law_299 rfl (lv_at hl 0 rfl) ?_
      refine lv_iload_n hx hb dL_law_300 rfl (lv_at hl 3 rfl) ?_
      refine lv_iconst (v := (3 : Int32)) hx hb dL_law_301 (by decide) ?_
      refine lv_iadd hx hb dL_law_302 ?_
      obtain ⟨hq, h⟩ := p_if h
      refine va_sld C.1 C.2.1 hX hbl hbA hw.2 hq dL_law_303 ?_
      obtain ⟨⟨v8, z7⟩, hq, h⟩ := p_bd h
      dsimp only at h
      refine w_Vi C hw (As := [.int (xs (b3 + (1 : Int32)).toNatClampNeg), .int (xs (b3 + (2 : Int32)).toNatClampNeg), .int (xs (b3 + (3 : Int32)).toNatClampNeg)]) (rest := [.int v6]) (c4_build l G z5 m (xs (b3 + (1 : Int32)).toNatClampNeg) (xs (b3 + (2 : Int32)).toNatClampNeg) (xs (b3 + (3 : Int32)).toNatClampNeg) (v8, z7) hq) kv_X4_build ml_L_22 ⟨rfl, rfl⟩ ⟨Nat.le_of_ble_eq_true rfl, Nat.le_of_ble_eq_true rfl⟩ ⟨Nat.le_refl _, Nat.le_refl _⟩ (w_recv C hw (wk_model G z5 m) rfl) rfl rfl (Nat.le_of_ble_eq_true rfl) (lv_sub hl [] rfl) dL_law_304 (fun H locs hw => ?_)
      refine lv_icmp_eq (tgt := 1598) hx hb dL_law_307 (by decide) (fun hc => ?_) (fun hc => ?_)
      · replace h := p_t hc h
        exact B1598 b3 z5 z7 _ _ _ (lv_sub hl [0, 1, 2, 3] rfl) hw h
      · replace h := p_f hc h
        refine lv_iconst (v := (0 : Int32)) hx hb dL_law_310 (by decide) ?_
        replace h := Option.some.inj h
        exact absurd h (by decide)
    have B236 : ∀ (b3 : Int32) (x : St) (m : St) (H : Heap) (locs : List Loc) (ls : Array Slot), lv_has ls 4 [(0, .ref (b)), (1, .ref (gq G 0)), (2, .ref (gq G 25)), (3, .int b3)] → Wd G s x m H locs → fL_law_b236 xs L (fL_law_L18 xs L n18) b3 x m = some 1 → W p l e room_1 s mm #[Value.ref b] below meth c H locs 600000 7302250 (lw_Z below #[Value.ref b] s) (F0 mm 236 ls []) := by
      intro b3 x m H locs ls hl hw h
      unfold fL_law_b236 at h
      refine lv_aload_n hx hb dL_law_236 rfl (lv_at hl 1 rfl) ?_
      refine lv_aload_n hx hb dL_law_237 rfl (lv_at hl 0 rfl) ?_
      refine lv_iload_n hx hb dL_law_238 rfl (lv_at hl 3 rfl) ?_
      refine lv_iconst (v := (1 : Int32)) hx hb dL_law_239 (by decide) ?_
      refine lv_iadd hx hb dL_law_240 ?_
      obtain ⟨hq, h⟩ := p_if h
      refine va_sld C.1 C.2.1 hX hbl hbA hw.2 hq dL_law_241 ?_
      refine lv_aload_n hx hb dL_law_242 rfl (lv_at hl 0 rfl) ?_
      refine lv_iload_n hx hb dL_law_243 rfl (lv_at hl 3 rfl) ?_
      refine lv_iconst (v := (2 : Int32)) hx hb dL_law_244 (by decide) ?_
      refine lv_iadd hx hb dL_law_245 ?_
      obtain ⟨hq, h⟩ := p_if h
      refine va_sld C.1 C.2.1 hX hbl hbA hw.2 hq dL_law_246 ?_
      obtain ⟨⟨v2, z1⟩, hq, h⟩ := p_bd h
      dsimp only at h
      refine w_Vi C hw (As := [.int (xs (b3 + (1 : Int32)).toNatClampNeg), .int (xs (b3 + (2 : Int32)).toNatClampNeg)]) (rest := []) (c3_corner l G x m (xs (b3 + (1 : Int32)).toNatClampNeg) (xs (b3 + (2 : Int32)).toNatClampNeg) (v2, z1) hq) kv_X3_corner ml_L_13 ⟨rfl, rfl⟩ ⟨Nat.le_of_ble_eq_true rfl, Nat.le_of_ble_eq_true rfl⟩ ⟨Nat.le_refl _, Nat.le_refl _⟩ (w_recv C hw (wk_main G x m) rfl) rfl rfl (Nat.le_of_ble_eq_true rfl) (lv_sub hl [] rfl) dL_law_247 (fun H locs hw => ?_)
      refine lv_aload_n hx hb dL_law_250 rfl (lv_at hl 2 rfl) ?_
      refine lv_aload_n hx hb dL_law_251 rfl (lv_at hl 0 rfl) ?_
      refine lv_iload_n hx hb dL_law_252 rfl (lv_at hl 3 rfl) ?_
      refine lv_iconst (v := (1 : Int32)) hx hb dL_law_253 (by decide) ?_
      refine lv_iadd hx hb dL_law_254 ?_
      obtain ⟨hq, h⟩ := p_if h
      refine va_sld C.1 C.2.1 hX hbl hbA hw.2 hq dL_law_255 ?_
      refine lv_aload_n hx hb dL_law_256 rfl (lv_at hl 0 rfl) ?_
      refine lv_iload_n hx hb dL_law_257 rfl (lv_at hl 3 rfl) ?_
      refine lv_iconst (v := (2 : Int32)) hx hb dL_law_258 (by decide) ?_
      refine lv_iadd hx hb dL_law_259 ?_
      obtain ⟨hq, h⟩ := p_if h
      refine va_sld C.1 C.2.1 hX hbl hbA hw.2 hq dL_law_260 ?_
      obtain ⟨⟨v4, z3⟩, hq, h⟩ := p_bd h
      dsimp only at h
      refine w_Vi C hw (As := [.int (xs (b3 + (1 : Int32)).toNatClampNeg), .int (xs (b3 + (2 : Int32)).toNatClampNeg)]) (rest := [.int v2]) (c4_corner l G z1 m (xs (b3 + (1 : Int32)).toNatClampNeg) (xs (b3 + (2 : Int32)).toNatClampNeg) (v4, z3) hq) kv_X4_corner ml_L_17 ⟨rfl, rfl⟩ ⟨Nat.le_of_ble_eq_true rfl, Nat.le_of_ble_eq_true rfl⟩ ⟨Nat.le_refl _, Nat.le_refl _⟩ (w_recv C hw (wk_model G z1 m) rfl) rfl rfl (Nat.le_of_ble_eq_true rfl) (lv_sub hl [] rfl) dL_law_261 (fun H locs hw => ?_)
      refine lv_icmp_eq (tgt := 1598) hx hb dL_law_264 (by decide) (fun hc => ?_) (fun hc => ?_)
      · replace h := p_t hc h
        exact B1598 b3 z1 z3 _ _ _ (lv_sub hl [0, 1, 2, 3] rfl) hw h
      · replace h := p_f hc h
        refine lv_iconst (v := (0 : Int32)) hx hb dL_law_267 (by decide) ?_
        replace h := Option.some.inj h
        exact absurd h (by decide)
    intro b3 x m H locs ls hl hw h
    rw [fL_law_L18_s] at h
    refine lv_iload_n hx hb dL_law_18 rfl (lv_at hl 3 rfl) ?_
    refine lv_aload_n hx hb dL_law_19 rfl (lv_at hl 0 rfl) ?_
    refine va_slen C.1 C.2.1 hX hbl hbA hw.2 dL_law_20 ?_
    refine lv_bipush (v := (6 : Int32)) hx hb dL_law_21 (by decide) ?_
    refine lv_isub hx hb dL_law_23 ?_
    refine lv_icmp_gt (tgt := 1604) hx hb dL_law_24 (by decide) (fun hc => ?_) (fun hc => ?_)
    · replace h := p_t hc h
      refine lv_iconst (v := (1 : Int32)) hx hb dL_law_1604 (by decide) ?_
      replace h := Option.some.inj h
      refine va_forget (fun q hq => by have z := hw.2.2.2 q hq; rw [hGA] at z; exact z) ?_
      exact lw_ret C.1 C.2.1 C.2.2.1 C.2.2.2.2.2.2.1 dL_law_1605
    · replace h := p_f hc h
      refine lv_aload_n hx hb dL_law_27 rfl (lv_at hl 0 rfl) ?_
      refine lv_iload_n hx hb dL_law_28 rfl (lv_at hl 3 rfl) ?_
      obtain ⟨hq, h⟩ := p_if h
      refine va_sld C.1 C.2.1 hX hbl hbA hw.2 hq dL_law_29 ?_
      refine lv_bipush (v := (63 : Int32)) hx hb dL_law_30 (by decide) ?_
      refine lv_iand hx hb dL_law_32 ?_
      by_cases hc0 : ((xs b3.toNatClampNeg) &&& (63 : Int32)) = (0 : Int32)
      · replace h := p_t hc0 h
        refine lv_tableIn (tgt := 236) hx hb dL_law_33 (by rw [hc0]; decide) (by rw [hc0]; decide) (by rw [hc0]; rfl) (by decide) ?_
        exact B236 b3 x m _ _ _ (lv_sub hl [0, 1, 2, 3] rfl) hw h
      · replace h := p_f hc0 h
        by_cases hc1 : ((xs b3.toNatClampNeg) &&& (63 : Int32)) = (1 : Int32)
        · replace h := p_t hc1 h
          refine lv_tableIn (tgt := 269) hx hb dL_law_33 (by rw [hc1]; decide) (by rw [hc1]; decide) (by rw [hc1]; rfl) (by decide) ?_
          exact B269 b3 x m _ _ _ (lv_sub hl [0, 1, 2, 3] rfl) hw h
        · replace h := p_f hc1 h
          by_cases hc2 : ((xs b3.toNatClampNeg) &&& (63 : Int32)) = (2 : Int32)
          · replace h := p_t hc2 h
            refine lv_tableIn (tgt := 312) hx hb dL_law_33 (by rw [hc2]; decide) (by rw [hc2]; decide) (by rw [hc2]; rfl) (by decide) ?_
            exact B312 b3 x m _ _ _ (lv_sub hl [0, 1, 2, 3] rfl) hw h
          · replace h := p_f hc2 h
            by_cases hc3 : ((xs b3.toNatClampNeg) &&& (63 : Int32)) = (3 : Int32)
            · replace h := p_t hc3 h
              refine lv_tableIn (tgt := 345) hx hb dL_law_33 (by rw [hc3]; decide) (by rw [hc3]; decide) (by rw [hc3]; rfl) (by decide) ?_
              exact B345 b3 x m _ _ _ (lv_sub hl [0, 1, 2, 3] rfl) hw h
            · replace h := p_f hc3 h
              by_cases hc4 : ((xs b3.toNatClampNeg) &&& (63 : Int32)) = (4 : Int32)
              · replace h := p_t hc4 h
                refine lv_tableIn (tgt := 378) hx hb dL_law_33 (by rw [hc4]; decide) (by rw [hc4]; decide) (by rw [hc4]; rfl) (by decide) ?_
                exact B378 b3 x m _ _ _ (lv_sub hl [0, 1, 2, 3] rfl) hw h
              · replace h := p_f hc4 h
                by_cases hc5 : ((xs b3.toNatClampNeg) &&& (63 : Int32)) = (5 : Int32)
                · replace h := p_t hc5 h
                  refine lv_tableIn (tgt := 421) hx hb dL_law_33 (by rw [hc5]; decide) (by rw [hc5]; decide) (by rw [hc5]; rfl) (by decide) ?_
                  exact B421 b3 x m _ _ _ (lv_sub hl [0, 1, 2, 3] rfl) hw h
                · replace h := p_f hc5 h
                  by_cases hc6 : ((xs b3.toNatClampNeg) &&& (63 : Int32)) = (6 : Int32)
                  · replace h := p_t hc6 h
                    refine lv_tableIn (tgt := 444) hx hb dL_law_33 (by rw [hc6]; decide) (by rw [hc6]; decide) (by rw [hc6]; rfl) (by decide) ?_
                    exact B444 b3 x m _ _ _ (lv_sub hl [0, 1, 2, 3] rfl) hw h
                  · replace h := p_f hc6 h
                    by_cases hc7 : ((xs b3.toNatClampNeg) &&& (63 : Int32)) = (7 : Int32)
                    · replace h := p_t hc7 h
                      refine lv_tableIn (tgt := 467) hx hb dL_law_33 (by rw [hc7]; decide) (by rw [hc7]; decide) (by rw [hc7]; rfl) (by decide) ?_
                      exact B467 b3 x m _ _ _ (lv_sub hl [0, 1, 2, 3] rfl) hw h
                    · replace h := p_f hc7 h
                      by_cases hc8 : ((xs b3.toNatClampNeg) &&& (63 : Int32)) = (8 : Int32)
                      · replace h := p_t hc8 h
                        refine lv_tableIn (tgt := 490) hx hb dL_law_33 (by rw [hc8]; decide) (by rw [hc8]; decide) (by rw [hc8]; rfl) (by decide) ?_
                        exact B490 b3 x m _ _ _ (lv_sub hl [0, 1, 2, 3] rfl) hw h
                      · replace h := p_f hc8 h
                        by_cases hc9 : ((xs b3.toNatClampNeg) &&& (63 : Int32)) = (9 : Int32)
                        · replace h := p_t hc9 h
                          refine lv_tableIn (tgt := 513) hx hb dL_law_33 (by rw [hc9]; decide) (by rw [hc9]; decide) (by rw [hc9]; rfl) (by decide) ?_
                          exact B513 b3 x m _ _ _ (lv_sub hl [0, 1, 2, 3] rfl) hw h
                        · replace h := p_f hc9 h
                          by_cases hc10 : ((xs b3.toNatClampNeg) &&& (63 : Int32)) = (10 : Int32)
                          · replace h := p_t hc10 h
                            refine lv_tableIn (tgt := 536) hx hb dL_law_33 (by rw [hc10]; decide) (by rw [hc10]; decide) (by rw [hc10]; rfl) (by decide) ?_
                            exact B536 b3 x m _ _ _ (lv_sub hl [0, 1, 2, 3] rfl) hw h
                          · replace h := p_f hc10 h
                            by_cases hc11 : ((xs b3.toNatClampNeg) &&& (63 : Int32)) = (11 : Int32)
                            · replace h := p_t hc11 h
                              refine lv_tableIn (tgt := 569) hx hb dL_law_33 (by rw [hc11]; decide) (by rw [hc11]; decide) (by rw [hc11]; rfl) (by decide) ?_
                              exact B569 b3 x m _ _ _ (lv_sub hl [0, 1, 2, 3] rfl) hw h
                            · replace h := p_f hc11 h
                              by_cases hc12 : ((xs b3.toNatClampNeg) &&& (63 : Int32)) = (12 : Int32)
                              · replace h := p_t hc12 h
                                refine lv_tableIn (tgt := 602) hx hb dL_law_33 (by rw [hc12]; decide) (by rw [hc12]; decide) (by rw [hc12]; rfl) (by decide) ?_
                                exact B602 b3 x m _ _ _ (lv_sub hl [0, 1, 2, 3] rfl) hw h
                              · replace h := p_f hc12 h
                                by_cases hc13 : ((xs b3.toNatClampNeg) &&& (63 : Int32)) = (13 : Int32)
                                · replace h := p_t hc13 h
                                  refine lv_tableIn (tgt := 625) hx hb dL_law_33 (by rw [hc13]; decide) (by rw [hc13]; decide) (by rw [hc13]; rfl) (by decide) ?_
                                  exact B625 b3 x m _ _ _ (lv_sub hl [0, 1, 2, 3] rfl) hw h
                                · replace h := p_f hc13 h
                                  by_cases hc14 : ((xs b3.toNatClampNeg) &&& (63 : Int32)) = (14 : Int32)
                                  · replace h := p_t hc14 h
                                    refine lv_tableIn (tgt := 638) hx hb dL_law_33 (by rw [hc14]; decide) (by rw [hc14]; decide) (by rw [hc14]; rfl) (by decide) ?_
                                    exact B638 b3 x m _ _ _ (lv_sub hl [0, 1, 2, 3] rfl) hw h
                                  · replace h := p_f hc14 h
                                    by_cases hc15 : ((xs b3.toNatClampNeg) &&& (63 : Int32)) = (15 : Int32)
                                    · replace h := p_t hc15 h
                                      refine lv_tableIn (tgt := 661) hx hb dL_law_33 (by rw [hc15]; decide) (by rw [hc15]; decide) (by rw [hc15]; rfl) (by decide) ?_
                                      exact B661 b3 x m _ _ _ (lv_sub hl [0, 1, 2, 3] rfl) hw h
                                    · replace h := p_f hc15 h
                                      by_cases hc16 : ((xs b3.toNatClampNeg) &&& (63 : Int32)) = (16 : Int32)
                                      · replace h := p_t hc16 h
                                        refine lv_tableIn (tgt := 694) hx hb dL_law_33 (by rw [hc16]; decide) (by rw [hc16]; decide) (by rw [hc16]; rfl) (by decide) ?_
                                        exact B694 b3 x m _ _ _ (lv_sub hl [0, 1, 2, 3] rfl) hw h
                                      · replace h := p_f hc16 h
                                        by_cases hc17 : ((xs b3.toNatClampNeg) &&& (63 : Int32)) = (17 : Int32)
                                        · replace h := p_t hc17 h
                                          refine lv_tableIn (tgt := 727) hx hb dL_law_33 (by rw [hc17]; decide) (by rw [hc17]; decide) (by rw [hc17]; rfl) (by decide) ?_
                                          exact B727 b3 x m _ _ _ (lv_sub hl [0, 1, 2, 3] rfl) hw h
                                        · replace h := p_f hc17 h
                                          by_cases hc18 : ((xs b3.toNatClampNeg) &&& (63 : Int32)) = (18 : Int32)
                                          · replace h := p_t hc18 h
                                            refine lv_tableIn (tgt := 750) hx hb dL_law_33 (by rw [hc18]; decide) (by rw [hc18]; decide) (by rw [hc18]; rfl) (by decide) ?_
                                            exact B750 b3 x m _ _ _ (lv_sub hl [0, 1, 2, 3] rfl) hw h
                                          · replace h := p_f hc18 h
                                            by_cases hc19 : ((xs b3.toNatClampNeg) &&& (63 : Int32)) = (19 : Int32)
                                            · replace h := p_t hc19 h
                                              refine lv_tableIn (tgt := 773) hx hb dL_law_33 (by rw [hc19]; decide) (by rw [hc19]; decide) (by rw [hc19]; rfl) (by decide) ?_
                                              exact B773 b3 x m _ _ _ (lv_sub hl [0, 1, 2, 3] rfl) hw h
                                            · replace h := p_f hc19 h
                                              by_cases hc20 : ((xs b3.toNatClampNeg) &&& (63 : Int32)) = (20 : Int32)
                                              · replace h := p_t hc20 h
                                                refine lv_tableIn (tgt := 816) hx hb dL_law_33 (by rw [hc20]; decide) (by rw [hc20]; decide) (by rw [hc20]; rfl) (by decide) ?_
                                                exact B816 b3 x m _ _ _ (lv_sub hl [0, 1, 2, 3] rfl) hw h
                                              · replace h := p_f hc20 h
                                                by_cases hc21 : ((xs b3.toNatClampNeg) &&& (63 : Int32)) = (21 : Int32)
                                                · replace h := p_t hc21 h
                                                  refine lv_tableIn (tgt := 859) hx hb dL_law_33 (by rw [hc21]; decide) (by rw [hc21]; decide) (by rw [hc21]; rfl) (by decide) ?_
                                                  exact B859 b3 x m _ _ _ (lv_sub hl [0, 1, 2, 3] rfl) hw h
                                                · replace h := p_f hc21 h
                                                  by_cases hc22 : ((xs b3.toNatClampNeg) &&& (63 : Int32)) = (22 : Int32)
                                                  · replace h := p_t hc22 h
                                                    refine lv_tableIn (tgt := 902) hx hb dL_law_33 (by rw [hc22]; decide) (by rw [hc22]; decide) (by rw [hc22]; rfl) (by decide) ?_
                                                    exact B902 b3 x m _ _ _ (lv_sub hl [0, 1, 2, 3] rfl) hw h
                                                  · replace h := p_f hc22 h
                                                    by_cases hc23 : ((xs b3.toNatClampNeg) &&& (63 : Int32)) = (23 : Int32)
                                                    · replace h := p_t hc23 h
                                                      refine lv_tableIn (tgt := 945) hx hb dL_law_33 (by rw [hc23]; decide) (by rw [hc23]; decide) (by rw [hc23]; rfl) (by decide) ?_
                                                      exact B945 b3 x m _ _ _ (lv_sub hl [0, 1, 2, 3] rfl) hw h
                                                    · replace h := p_f hc23 h
                                                      by_cases hc24 : ((xs b3.toNatClampNeg) &&& (63 : Int32)) = (24 : Int32)
                                                      · replace h := p_t hc24 h
                                                        refine lv_tableIn (tgt := 988) hx hb dL_law_33 (by rw [hc24]; decide) (by rw [hc24]; decide) (by rw [hc24]; rfl) (by decide) ?_
                                                        exact B988 b3 x m _ _ _ (lv_sub hl [0, 1, 2, 3] rfl) hw h
                                                      · replace h := p_f hc24 h
                                                        by_cases hc25 : ((xs b3.toNatClampNeg) &&& (63 : Int32)) = (25 : Int32)
                                                        · replace h := p_t hc25 h
                                                          refine lv_tableIn (tgt := 1011) hx hb dL_law_33 (by rw [hc25]; decide) (by rw [hc25]; decide) (by rw [hc25]; rfl) (by decide) ?_
                                                          exact B1011 b3 x m _ _ _ (lv_sub hl [0, 1, 2, 3] rfl) hw h
                                                        · replace h := p_f hc25 h
                                                          by_cases hc26 : ((xs b3.toNatClampNeg) &&& (63 : Int32)) = (26 : Int32)
                                                          · replace h := p_t hc26 h
                                                            refine lv_tableIn (tgt := 1044) hx hb dL_law_33 (by rw [hc26]; decide) (by rw [hc26]; decide) (by rw [hc26]; rfl) (by decide) ?_
                                                            exact B1044 b3 x m _ _ _ (lv_sub hl [0, 1, 2, 3] rfl) hw h
                                                          · replace h := p_f hc26 h
                                                            by_cases hc27 : ((xs b3.toNatClampNeg) &&& (63 : Int32)) = (27 : Int32)
                                                            · replace h := p_t hc27 h
                                                              refine lv_tableIn (tgt := 1077) hx hb dL_law_33 (by rw [hc27]; decide) (by rw [hc27]; decide) (by rw [hc27]; rfl) (by decide) ?_
                                                              exact B1077 b3 x m _ _ _ (lv_sub hl [0, 1, 2, 3] rfl) hw h
                                                            · replace h := p_f hc27 h
                                                              by_cases hc28 : ((xs b3.toNatClampNeg) &&& (63 : Int32)) = (28 : Int32)
                                                              · replace h := p_t hc28 h
                                                                refine lv_tableIn (tgt := 1090) hx hb dL_law_33 (by rw [hc28]; decide) (by rw [hc28]; decide) (by rw [hc28]; rfl) (by decide) ?_
                                                                exact B1090 b3 x m _ _ _ (lv_sub hl [0, 1, 2, 3] rfl) hw h
                                                              · replace h := p_f hc28 h
                                                                by_cases hc29 : ((xs b3.toNatClampNeg) &&& (63 : Int32)) = (29 : Int32)
                                                                · replace h := p_t hc29 h
                                                                  refine lv_tableIn (tgt := 1103) hx hb dL_law_33 (by rw [hc29]; decide) (by rw [hc29]; decide) (by rw [hc29]; rfl) (by decide) ?_
                                                                  exact B1103 b3 x m _ _ _ (lv_sub hl [0, 1, 2, 3] rfl) hw h
                                                                · replace h := p_f hc29 h
                                                                  by_cases hc30 : ((xs b3.toNatClampNeg) &&& (63 : Int32)) = (30 : Int32)
                                                                  · replace h := p_t hc30 h
                                                                    refine lv_tableIn (tgt := 1126) hx hb dL_law_33 (by rw [hc30]; decide) (by rw [hc30]; decide) (by rw [hc30]; rfl) (by decide) ?_
                                                                    exact B1126 b3 x m _ _ _ (lv_sub hl [0, 1, 2, 3] rfl) hw h
                                                                  · replace h := p_f hc30 h
                                                                    by_cases hc31 : ((xs b3.toNatClampNeg) &&& (63 : Int32)) = (31 : Int32)
                                                                    · replace h := p_t hc31 h
                                                                      refine lv_tableIn (tgt := 1170) hx hb dL_law_33 (by rw [hc31]; decide) (by rw [hc31]; decide) (by rw [hc31]; rfl) (by decide) ?_
                                                                      exact B1170 b3 x m _ _ _ (lv_sub hl [0, 1, 2, 3] rfl) hw h
                                                                    · replace h := p_f hc31 h
                                                                      by_cases hc32 : ((xs b3.toNatClampNeg) &&& (63 : Int32)) = (32 : Int32)
                                                                      · replace h := p_t hc32 h
                                                                        refine lv_tableIn (tgt := 1193) hx hb dL_law_33 (by rw [hc32]; decide) (by rw [hc32]; decide) (by rw [hc32]; rfl) (by decide) ?_
                                                                        exact B1193 b3 x m _ _ _ (lv_sub hl [0, 1, 2, 3] rfl) hw h
                                                                      · replace h := p_f hc32 h
                                                                        by_cases hc33 : ((xs b3.toNatClampNeg) &&& (63 : Int32)) = (33 : Int32)
                                                                        · replace h := p_t hc33 h
                                                                          refine lv_tableIn (tgt := 1226) hx hb dL_law_33 (by rw [hc33]; decide) (by rw [hc33]; decide) (by rw [hc33]; rfl) (by decide) ?_
                                                                          exact B1226 b3 x m _ _ _ (lv_sub hl [0, 1, 2, 3] rfl) hw h
                                                                        · replace h := p_f hc33 h
                                                                          by_cases hc34 : ((xs b3.toNatClampNeg) &&& (63 : Int32)) = (34 : Int32)
                                                                          · replace h := p_t hc34 h
                                                                            refine lv_tableIn (tgt := 1239) hx hb dL_law_33 (by rw [hc34]; decide) (by rw [hc34]; decide) (by rw [hc34]; rfl) (by decide) ?_
                                                                            exact B1239 b3 x m _ _ _ (lv_sub hl [0, 1, 2, 3] rfl) hw h
                                                                          · replace h := p_f hc34 h
                                                                            by_cases hc35 : ((xs b3.toNatClampNeg) &&& (63 : Int32)) = (35 : Int32)
                                                                            · replace h := p_t hc35 h
                                                                              refine lv_tableIn (tgt := 1252) hx hb dL_law_33 (by rw [hc35]; decide) (by rw [hc35]; decide) (by rw [hc35]; rfl) (by decide) ?_
                                                                              exact B1252 b3 x m _ _ _ (lv_sub hl [0, 1, 2, 3] rfl) hw h
                                                                            · replace h := p_f hc35 h
                                                                              by_cases hc36 : ((xs b3.toNatClampNeg) &&& (63 : Int32)) = (36 : Int32)
                                                                              · replace h := p_t hc36 h
                                                                                refine lv_tableIn (tgt := 1285) hx hb dL_law_33 (by rw [hc36]; decide) (by rw [hc36]; decide) (by rw [hc36]; rfl) (by decide) ?_
                                                                                exact B1285 b3 x m _ _ _ (lv_sub hl [0, 1, 2, 3] rfl) hw h
                                                                              · replace h := p_f hc36 h
                                                                                by_cases hc37 : ((xs b3.toNatClampNeg) &&& (63 : Int32)) = (37 : Int32)
                                                                                · replace h := p_t hc37 h
                                                                                  refine lv_tableIn (tgt := 1318) hx hb dL_law_33 (by rw [hc37]; decide) (by rw [hc37]; decide) (by rw [hc37]; rfl) (by decide) ?_
                                                                                  exact B1318 b3 x m _ _ _ (lv_sub hl [0, 1, 2, 3] rfl) hw h
                                                                                · replace h := p_f hc37 h
                                                                                  by_cases hc38 : ((xs b3.toNatClampNeg) &&& (63 : Int32)) = (38 : Int32)
                                                                                  · replace h := p_t hc38 h
                                                                                    refine lv_tableIn (tgt := 1361) hx hb dL_law_33 (by rw [hc38]; decide) (by rw [hc38]; decide) (by rw [hc38]; rfl) (by decide) ?_
                                                                                    exact B1361 b3 x m _ _ _ (lv_sub hl [0, 1, 2, 3] rfl) hw h
                                                                                  · replace h := p_f hc38 h
                                                                                    by_cases hc39 : ((xs b3.toNatClampNeg) &&& (63 : Int32)) = (39 : Int32)
                                                                                    · replace h := p_t hc39 h
                                                                                      refine lv_tableIn (tgt := 1404) hx hb dL_law_33 (by rw [hc39]; decide) (by rw [hc39]; decide) (by rw [hc39]; rfl) (by decide) ?_
                                                                                      exact B1404 b3 x m _ _ _ (lv_sub hl [0, 1, 2, 3] rfl) hw h
                                                                                    · replace h := p_f hc39 h
                                                                                      by_cases hc40 : ((xs b3.toNatClampNeg) &&& (63 : Int32)) = (40 : Int32)
                                                                                      · replace h := p_t hc40 h
                                                                                        refine lv_tableIn (tgt := 1467) hx hb dL_law_33 (by rw [hc40]; decide) (by rw [hc40]; decide) (by rw [hc40]; rfl) (by decide) ?_
                                                                                        exact B1467 b3 x m _ _ _ (lv_sub hl [0, 1, 2, 3] rfl) hw h
                                                                                      · replace h := p_f hc40 h
                                                                                        by_cases hc41 : ((xs b3.toNatClampNeg) &&& (63 : Int32)) = (41 : Int32)
                                                                                        · replace h := p_t hc41 h
                                                                                          refine lv_tableIn (tgt := 1490) hx hb dL_law_33 (by rw [hc41]; decide) (by rw [hc41]; decide) (by rw [hc41]; rfl) (by decide) ?_
                                                                                          exact B1490 b3 x m _ _ _ (lv_sub hl [0, 1, 2, 3] rfl) hw h
                                                                                        · replace h := p_f hc41 h
                                                                                          by_cases hc42 : ((xs b3.toNatClampNeg) &&& (63 : Int32)) = (42 : Int32)
                                                                                          · replace h := p_t hc42 h
                                                                                            refine lv_tableIn (tgt := 1513) hx hb dL_law_33 (by rw [hc42]; decide) (by rw [hc42]; decide) (by rw [hc42]; rfl) (by decide) ?_
                                                                                            exact B1513 b3 x m _ _ _ (lv_sub hl [0, 1, 2, 3] rfl) hw h
                                                                                          · replace h := p_f hc42 h
                                                                                            by_cases hc43 : ((xs b3.toNatClampNeg) &&& (63 : Int32)) = (43 : Int32)
                                                                                            · replace h := p_t hc43 h
                                                                                              refine lv_tableIn (tgt := 1526) hx hb dL_law_33 (by rw [hc43]; decide) (by rw [hc43]; decide) (by rw [hc43]; rfl) (by decide) ?_
                                                                                              exact B1526 b3 x m _ _ _ (lv_sub hl [0, 1, 2, 3] rfl) hw h
                                                                                            · replace h := p_f hc43 h
                                                                                              by_cases hc44 : ((xs b3.toNatClampNeg) &&& (63 : Int32)) = (44 : Int32)
                                                                                              · replace h := p_t hc44 h
                                                                                                refine lv_tableIn (tgt := 1539) hx hb dL_law_33 (by rw [hc44]; decide) (by rw [hc44]; decide) (by rw [hc44]; rfl) (by decide) ?_
                                                                                                exact B1539 b3 x m _ _ _ (lv_sub hl [0, 1, 2, 3] rfl) hw h
                                                                                              · replace h := p_f hc44 h
                                                                                                by_cases hc45 : ((xs b3.toNatClampNeg) &&& (63 : Int32)) = (45 : Int32)
                                                                                                · replace h := p_t hc45 h
                                                                                                  refine lv_tableIn (tgt := 1552) hx hb dL_law_33 (by rw [hc45]; decide) (by rw [hc45]; decide) (by rw [hc45]; rfl) (by decide) ?_
                                                                                                  exact B1552 b3 x m _ _ _ (lv_sub hl [0, 1, 2, 3] rfl) hw h
                                                                                                · replace h := p_f hc45 h
                                                                                                  by_cases hc46 : ((xs b3.toNatClampNeg) &&& (63 : Int32)) = (46 : Int32)
                                                                                                  · replace h := p_t hc46 h
                                                                                                    refine lv_tableIn (tgt := 1575) hx hb dL_law_33 (by rw [hc46]; decide) (by rw [hc46]; decide) (by rw [hc46]; rfl) (by decide) ?_
                                                                                                    exact B1575 b3 x m _ _ _ (lv_sub hl [0, 1, 2, 3] rfl) hw h
                                                                                                  · replace h := p_f hc46 h
                                                                                                    refine lv_tableOut (tgt := 1598) hx hb dL_law_33 (by have q0 : ¬ ((xs b3.toNatClampNeg) &&& (63 : Int32)).toInt = 0 := lv_neT hc0 rfl; have q1 : ¬ ((xs b3.toNatClampNeg) &&& (63 : Int32)).toInt = 1 := lv_neT hc1 rfl; have q2 : ¬ ((xs b3.toNatClampNeg) &&& (63 : Int32)).toInt = 2 := lv_neT hc2 rfl; have q3 : ¬ ((xs b3.toNatClampNeg) &&& (63 : Int32)).toInt = 3 := lv_neT hc3 rfl; have q4 : ¬ ((xs b3.toNatClampNeg) &&& (63 : Int32)).toInt = 4 := lv_neT hc4 rfl; have q5 : ¬ ((xs b3.toNatClampNeg) &&& (63 : Int32)).toInt = 5 := lv_neT hc5 rfl; have q6 : ¬ ((xs b3.toNatClampNeg) &&& (63 : Int32)).toInt = 6 := lv_neT hc6 rfl; have q7 : ¬ ((xs b3.toNatClampNeg) &&& (63 : Int32)).toInt = 7 := lv_neT hc7 rfl; have q8 : ¬ ((xs b3.toNatClampNeg) &&& (63 : Int32)).toInt = 8 := lv_neT hc8 rfl; have q9 : ¬ ((xs b3.toNatClampNeg) &&& (63 : Int32)).toInt = 9 := lv_neT hc9 rfl; have q10 : ¬ ((xs b3.toNatClampNeg) &&& (63 : Int32)).toInt = 10 := lv_neT hc10 rfl; have q11 : ¬ ((xs b3.toNatClampNeg) &&& (63 : Int32)).toInt = 11 := lv_neT hc11 rfl; have q12 : ¬ ((xs b3.toNatClampNeg) &&& (63 : Int32)).toInt = 12 := lv_neT hc12 rfl; have q13 : ¬ ((xs b3.toNatClampNeg) &&& (63 : Int32)).toInt = 13 := lv_neT hc13 rfl; have q14 : ¬ ((xs b3.toNatClampNeg) &&& (63 : Int32)).toInt = 14 := lv_neT hc14 rfl; have q15 : ¬ ((xs b3.toNatClampNeg) &&& (63 : Int32)).toInt = 15 := lv_neT hc15 rfl; have q16 : ¬ ((xs b3.toNatClampNeg) &&& (63 : Int32)).toInt = 16 := lv_neT hc16 rfl; have q17 : ¬ ((xs b3.toNatClampNeg) &&& (63 : Int32)).toInt = 17 := lv_neT hc17 rfl; have q18 : ¬ ((xs b3.toNatClampNeg) &&& (63 : Int32)).toInt = 18 := lv_neT hc18 rfl; have q19 : ¬ ((xs b3.toNatClampNeg) &&& (63 : Int32)).toInt = 19 := lv_neT hc19 rfl; have q20 : ¬ ((xs b3.toNatClampNeg) &&& (63 : Int32)).toInt = 20 := lv_neT hc20 rfl; have q21 : ¬ ((xs b3.toNatClampNeg) &&& (63 : Int32)).toInt = 21 := lv_neT hc21 rfl; have q22 : ¬ ((xs b3.toNatClampNeg) &&& (63 : Int32)).toInt = 22 := lv_neT hc22 rfl; have q23 : ¬ ((xs b3.toNatClampNeg) &&& (63 : Int32)).toInt = 23 := lv_neT hc23 rfl; have q24 : ¬ ((xs b3.toNatClampNeg) &&& (63 : Int32)).toInt = 24 := lv_neT hc24 rfl; have q25 : ¬ ((xs b3.toNatClampNeg) &&& (63 : Int32)).toInt = 25 := lv_neT hc25 rfl; have q26 : ¬ ((xs b3.toNatClampNeg) &&& (63 : Int32)).toInt = 26 := lv_neT hc26 rfl; have q27 : ¬ ((xs b3.toNatClampNeg) &&& (63 : Int32)).toInt = 27 := lv_neT hc27 rfl; have q28 : ¬ ((xs b3.toNatClampNeg) &&& (63 : Int32)).toInt = 28 := lv_neT hc28 rfl; have q29 : ¬ ((xs b3.toNatClampNeg) &&& (63 : Int32)).toInt = 29 := lv_neT hc29 rfl; have q30 : ¬ ((xs b3.toNatClampNeg) &&& (63 : Int32)).toInt = 30 := lv_neT hc30 rfl; have q31 : ¬ ((xs b3.toNatClampNeg) &&& (63 : Int32)).toInt = 31 := lv_neT hc31 rfl; have q32 : ¬ ((xs b3.toNatClampNeg) &&& (63 : Int32)).toInt = 32 := lv_neT hc32 rfl; have q33 : ¬ ((xs b3.toNatClampNeg) &&& (63 : Int32)).toInt = 33 := lv_neT hc33 rfl; have q34 : ¬ ((xs b3.toNatClampNeg) &&& (63 : Int32)).toInt = 34 := lv_neT hc34 rfl; have q35 : ¬ ((xs b3.toNatClampNeg) &&& (63 : Int32)).toInt = 35 := lv_neT hc35 rfl; have q36 : ¬ ((xs b3.toNatClampNeg) &&& (63 : Int32)).toInt = 36 := lv_neT hc36 rfl; have q37 : ¬ ((xs b3.toNatClampNeg) &&& (63 : Int32)).toInt = 37 := lv_neT hc37 rfl; have q38 : ¬ ((xs b3.toNatClampNeg) &&& (63 : Int32)).toInt = 38 := lv_neT hc38 rfl; have q39 : ¬ ((xs b3.toNatClampNeg) &&& (63 : Int32)).toInt = 39 := lv_neT hc39 rfl; have q40 : ¬ ((xs b3.toNatClampNeg) &&& (63 : Int32)).toInt = 40 := lv_neT hc40 rfl; have q41 : ¬ ((xs b3.toNatClampNeg) &&& (63 : Int32)).toInt = 41 := lv_neT hc41 rfl; have q42 : ¬ ((xs b3.toNatClampNeg) &&& (63 : Int32)).toInt = 42 := lv_neT hc42 rfl; have q43 : ¬ ((xs b3.toNatClampNeg) &&& (63 : Int32)).toInt = 43 := lv_neT hc43 rfl; have q44 : ¬ ((xs b3.toNatClampNeg) &&& (63 : Int32)).toInt = 44 := lv_neT hc44 rfl; have q45 : ¬ ((xs b3.toNatClampNeg) &&& (63 : Int32)).toInt = 45 := lv_neT hc45 rfl; have q46 : ¬ ((xs b3.toNatClampNeg) &&& (63 : Int32)).toInt = 46 := lv_neT hc46 rfl; omega) (by decide) ?_
                                                                                                    exact B1598 b3 x m _ _ _ (lv_sub hl [0, 1, 2, 3] rfl) hw h
