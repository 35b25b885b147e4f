-- the words that stay under warmer tables
def TG : List Cond := lw_tbl.filter goodWord
theorem tg_good : ∀ w ∈ TG, goodWord w = true := fun _ h => (List.mem_filter.mp h).2
theorem tg_mem {i : Nat} {w : Cond} (h : lw_tbl[i]? = some w) (hg : goodWord w = true) : w ∈ TG := List.mem_filter.mpr ⟨List.mem_of_getElem? h, hg⟩
theorem tg_in {c : Cond} {L : List Cond} (hL : ∀ w ∈ L, w ∈ TG) : GoodIn (c :: TG) L := fun w h => ⟨List.mem_cons_of_mem _ (hL w h), good_of_word (tg_good w (hL w h))⟩
-- a method's words: its own code, and all
def wm (y : MethodName) (b : ByteArray) (n : Nat) (r : Option FieldType) : List Cond := .code y b n r :: TG
-- the states: what each cell holds, by the cell's place and the field's or element's
abbrev St : Type := Nat → Nat → Int32
def uR (x : St) (k : Nat) (f : Nat → Int32) : St := fun a => if a = k then f else x a
def up (x : St) (k i : Nat) (v : Int32) : St := uR x k (upd (x k) i v)
theorem uR_eq (x : St) (k : Nat) (f : Nat → Int32) : uR x k f k = f := by simp [uR]
theorem uR_ne (x : St) {k a : Nat} (f : Nat → Int32) (h : a ≠ k) : uR x k f a = x a := by simp [uR, h]
theorem uR_self (x : St) (k : Nat) : uR x k (x k) = x := by
  funext a
  by_cases h : a = k
  · subst h; simp [uR]
  · simp [uR, h]
theorem up_eq (x : St) (k i : Nat) (v : Int32) : up x k i v k i = v := by simp [up, uR, upd]
theorem up_ne1 (x : St) {k a : Nat} (i j : Nat) (v : Int32) (h : a ≠ k) : up x k i v a j = x a j := by simp [up, uR, h]
theorem up_ne2 (x : St) {k i j : Nat} (v : Int32) (h : j ≠ i) : up x k i v k j = x k j := by simp [up, uR, upd, h]
-- what stays: the tables, the addresses of the cells, the array classes, the static arrays, the texts
abbrev GT : Type := va_G × (Nat → Nat) × ClassId × ClassId × (Nat → Prop) × (Nat → Nat) × (Nat → Nat) × (Nat → Nat) × Value
abbrev gD (G : GT) : va_G := G.1
abbrev gq (G : GT) : Nat → Nat := G.2.1
abbrev gI (G : GT) : ClassId := G.2.2.1
abbrev gR (G : GT) : ClassId := G.2.2.2.1
abbrev gA (G : GT) : Nat → Prop := G.2.2.2.2.1
abbrev gT (G : GT) : Nat → Nat := G.2.2.2.2.2.1
abbrev gK (G : GT) : Nat → Nat := G.2.2.2.2.2.2.1
abbrev gV (G : GT) : Nat → Nat := G.2.2.2.2.2.2.2.1
abbrev gF (G : GT) : Value := G.2.2.2.2.2.2.2.2
abbrev kcl : List vw_C := [(RX0, TX0, 3), (RX1, TX1, 6), (RX2, TX2, 8), (RX3, TX3, 7), (RX4, TX4, 23)]
abbrev kty (G : GT) : List (ClassId × FieldType) := [(gI G, .int), (gR G, .object "DownhillWhispers$Sheet")]
abbrev gsh (G : GT) : Nat → Option Nat := fun i => some (gq G (16 + 2 * i))
def WW (G : GT) (x m : St) : va_W := [
  (gq G 0, .inr (3, [.ref (gq G 1), .ref (gq G 5), .ref (gq G 9), .int (x 0 3), .ref (gq G 13), .ref (gq G 15), .ref (gq G 24)])),
  (gq G 1, .inr (2, [.ref (gq G 2), .ref (gq G 3), .ref (gq G 4), .int (x 1 3), .int (x 1 4), .int (x 1 5), .int (x 1 6), .int (x 1 7)])),
  (gq G 2, .inl (gI G, 80, .inl (x 2))),
  (gq G 3, .inl (gI G, 24, .inl (x 3))),
  (gq G 4, .inl (gI G, 10, .inl (x 4))),
  (gq G 5, .inr (2, [.ref (gq G 6), .ref (gq G 7), .ref (gq G 8), .int (x 5 3), .int (x 5 4), .int (x 5 5), .int (x 5 6), .int (x 5 7)])),
  (gq G 6, .inl (gI G, 80, .inl (x 6))),
  (gq G 7, .inl (gI G, 24, .inl (x 7))),
  (gq G 8, .inl (gI G, 10, .inl (x 8))),
  (gq G 9, .inr (2, [.ref (gq G 10), .ref (gq G 11), .ref (gq G 12), .int (x 9 3), .int (x 9 4), .int (x 9 5), .int (x 9 6), .int (x 9 7)])),
  (gq G 10, .inl (gI G, 80, .inl (x 10))),
  (gq G 11, .inl (gI G, 24, .inl (x 11))),
  (gq G 12, .inl (gI G, 10, .inl (x 12))),
  (gq G 13, .inr (1, [.ref (gq G 14), .int (x 13 1), .int (x 13 2), .int (x 13 3), .int (x 13 4), .int (x 13 5)])),
  (gq G 14, .inl (gI G, 120, .inl (x 14))),
  (gq G 15, .inl (gR G, 4, .inr (.inr (.inr (.inr (gsh G)))))),
  (gq G 16, .inr (0, [.ref (gq G 17), .int (x 16 1), .int (x 16 2)])),
  (gq G 17, .inl (gI G, 40, .inl (x 17))),
  (gq G 18, .inr (0, [.ref (gq G 19), .int (x 18 1), .int (x 18 2)])),
  (gq G 19, .inl (gI G, 40, .inl (x 19))),
  (gq G 20, .inr (0, [.ref (gq G 21), .int (x 20 1), .int (x 20 2)])),
  (gq G 21, .inl (gI G, 40, .inl (x 21))),
  (gq G 22, .inr (0, [.ref (gq G 23), .int (x 22 1), .int (x 22 2)])),
  (gq G 23, .inl (gI G, 40, .inl (x 23))),
  (gq G 24, .inl (gI G, 7, .inl (x 24))),
  (gq G 25, .inr (4, [.ref (gq G 26), .ref (gq G 27), .ref (gq G 28), .int (m 25 3), .ref (gq G 29), .int (m 25 5), .int (m 25 6), .int (m 25 7), .int (m 25 8), .int (m 25 9), .int (m 25 10), .ref (gq G 30), .int (m 25 12), .int (m 25 13), .ref (gq G 31), .int (m 25 15), .int (m 25 16), .int (m 25 17), .int (m 25 18), .ref (gq G 32), .ref (gq G 33), .ref (gq G 34), .ref (gq G 35)])),
  (gq G 26, .inl (gI G, 119, .inl (m 26))),
  (gq G 27, .inl (gI G, 119, .inl (m 27))),
  (gq G 28, .inl (gI G, 119, .inl (m 28))),
  (gq G 29, .inl (gI G, 7, .inl (m 29))),
  (gq G 30, .inl (gI G, 8, .inl (m 30))),
  (gq G 31, .inl (gI G, 120, .inl (m 31))),
  (gq G 32, .inl (gI G, 4, .inl (m 32))),
  (gq G 33, .inl (gI G, 4, .inl (m 33))),
  (gq G 34, .inl (gI G, 160, .inl (m 34))),
  (gq G 35, .inl (gI G, 40, .inl (m 35)))]
def AX (k n : Nat) : Prop := ∀ (G : GT) (x m : St), (WW G x m)[k]? = some (gq G k, .inl (gI G, n, .inl (x k))) ∧ ∀ f : Nat → Int32, (WW G x m).set k (gq G k, .inl (gI G, n, .inl f)) = WW G (uR x k f) m
def AM (k n : Nat) : Prop := ∀ (G : GT) (x m : St), (WW G x m)[k]? = some (gq G k, .inl (gI G, n, .inl (m k))) ∧ ∀ f : Nat → Int32, (WW G x m).set k (gq G k, .inl (gI G, n, .inl f)) = WW G x (uR m k f)
theorem ax_2 : AX 2 80 := fun _ _ _ => ⟨rfl, fun _ => rfl⟩
theorem ax_3 : AX 3 24 := fun _ _ _ => ⟨rfl, fun _ => rfl⟩
theorem ax_4 : AX 4 10 := fun _ _ _ => ⟨rfl, fun _ => rfl⟩
theorem ax_6 : AX 6 80 := fun _ _ _ => ⟨rfl, fun _ => rfl⟩
theorem ax_7 : AX 7 24 := fun _ _ _ => ⟨rfl, fun _ => rfl⟩
theorem ax_8 : AX 8 10 := fun _ _ _ => ⟨rfl, fun _ => rfl⟩
theorem ax_10 : AX 10 80 := fun _ _ _ => ⟨rfl, fun _ => rfl⟩
theorem ax_11 : AX 11 24 := fun _ _ _ => ⟨rfl, fun _ => rfl⟩
theorem ax_12 : AX 12 10 := fun _ _ _ => ⟨rfl, fun _ => rfl⟩
theorem ax_14 : AX 14 120 := fun _ _ _ => ⟨rfl, fun _ => rfl⟩
theorem ax_17 : AX 17 40 := fun _ _ _ => ⟨rfl, fun _ => rfl⟩
theorem ax_19 : AX 19 40 := fun _ _ _ => ⟨rfl, fun _ => rfl⟩
theorem ax_21 : AX 21 40 := fun _ _ _ => ⟨rfl, fun _ => rfl⟩
theorem ax_23 : AX 23 40 := fun _ _ _ => ⟨rfl, fun _ => rfl⟩
theorem ax_24 : AX 24 7 := fun _ _ _ => ⟨rfl, fun _ => rfl⟩
theorem am_26 : AM 26 119 := fun _ _ _ => ⟨rfl, fun _ => rfl⟩
theorem am_27 : AM 27 119 := fun _ _ _ => ⟨rfl, fun _ => rfl⟩
theorem am_28 : AM 28 119 := fun _ _ _ => ⟨rfl, fun _ => rfl⟩
theorem am_29 : AM 29 7 := fun _ _ _ => ⟨rfl, fun _ => rfl⟩
theorem am_30 : AM 30 8 := fun _ _ _ => ⟨rfl, fun _ => rfl⟩
theorem am_31 : AM 31 120 := fun _ _ _ => ⟨rfl, fun _ => rfl⟩
theorem am_32 : AM 32 4 := fun _ _ _ => ⟨rfl, fun _ => rfl⟩
theorem am_33 : AM 33 4 := fun _ _ _ => ⟨rfl, fun _ => rfl⟩
theorem am_34 : AM 34 160 := fun _ _ _ => ⟨rfl, fun _ => rfl⟩
theorem am_35 : AM 35 40 := fun _ _ _ => ⟨rfl, fun _ => rfl⟩
theorem ax_tr {t : Nat} (h : t < 3) : AX (2 + 4 * t) 80 := by
  match t, h with
  | 0, _ => exact ax_2
  | 1, _ => exact ax_6
  | 2, _ => exact ax_10
theorem ax_qu {t : Nat} (h : t < 3) : AX (3 + 4 * t) 24 := by
  match t, h with
  | 0, _ => exact ax_3
  | 1, _ => exact ax_7
  | 2, _ => exact ax_11
theorem ax_sp {t : Nat} (h : t < 3) : AX (4 + 4 * t) 10 := by
  match t, h with
  | 0, _ => exact ax_4
  | 1, _ => exact ax_8
  | 2, _ => exact ax_12
theorem ax_nu {j : Nat} (h : j < 4) : AX (17 + 2 * j) 40 := by
  match j, h with
  | 0, _ => exact ax_17
  | 1, _ => exact ax_19
  | 2, _ => exact ax_21
  | 3, _ => exact ax_23
-- an object's cell: its fields as they stand, and what the world is behind a store of an int field
abbrev fTown (G : GT) (x : St) (t : Nat) : List Value := [.ref (gq G (2 + 4 * t)), .ref (gq G (3 + 4 * t)), .ref (gq G (4 + 4 * t)), .int (x (1 + 4 * t) 3), .int (x (1 + 4 * t) 4), .int (x (1 + 4 * t) 5), .int (x (1 + 4 * t) 6), .int (x (1 + 4 * t) 7)]
abbrev fSheet (G : GT) (x : St) (j : Nat) : List Value := [.ref (gq G (17 + 2 * j)), .int (x (16 + 2 * j) 1), .int (x (16 + 2 * j) 2)]
abbrev fTape (G : GT) (x : St) : List Value := [.ref (gq G 14), .int (x 13 1), .int (x 13 2), .int (x 13 3), .int (x 13 4), .int (x 13 5)]
abbrev fMain (G : GT) (x : St) : List Value := [.ref (gq G 1), .ref (gq G 5), .ref (gq G 9), .int (x 0 3), .ref (gq G 13), .ref (gq G 15), .ref (gq G 24)]
abbrev fModel (G : GT) (m : St) : List Value := [.ref (gq G 26), .ref (gq G 27), .ref (gq G 28), .int (m 25 3), .ref (gq G 29), .int (m 25 5), .int (m 25 6), .int (m 25 7), .int (m 25 8), .int (m 25 9), .int (m 25 10), .ref (gq G 30), .int (m 25 12), .int (m 25 13), .ref (gq G 31), .int (m 25 15), .int (m 25 16), .int (m 25 17), .int (m 25 18), .ref (gq G 32), .ref (gq G 33), .ref (gq G 34), .ref (gq G 35)]
theorem wk_town (G : GT) (x m : St) {t : Nat} (h : t < 3) : (WW G x m)[1 + 4 * t]? = some (gq G (1 + 4 * t), .inr (2, fTown G x t)) := by
  match t, h with
  | 0, _ => rfl
  | 1, _ => rfl
  | 2, _ => rfl
theorem wk_sheet (G : GT) (x m : St) {j : Nat} (h : j < 4) : (WW G x m)[16 + 2 * j]? = some (gq G (16 + 2 * j), .inr (0, fSheet G x j)) := by
  match j, h with
  | 0, _ => rfl
  | 1, _ => rfl
  | 2, _ => rfl
  | 3, _ => rfl
theorem wk_tape (G : GT) (x m : St) : (WW G x m)[13]? = some (gq G 13, .inr (1, fTape G x)) := rfl
theorem wk_main (G : GT) (x m : St) : (WW G x m)[0]? = some (gq G 0, .inr (3, fMain G x)) := rfl
theorem wk_model (G : GT) (x m : St) : (WW G x m)[25]? = some (gq G 25, .inr (4, fModel G m)) := rfl
theorem wk_shs (G : GT) (x m : St) : (WW G x m)[15]? = some (gq G 15, .inl (gR G, 4, .inr (.inr (.inr (.inr (gsh G)))))) := rfl
theorem ws_town (G : GT) (x m : St) {t : Nat} (h : t < 3) (k : Nat) (hk : 3 ≤ k ∧ k < 8) (v : Int32) : (WW G x m).set (1 + 4 * t) (gq G (1 + 4 * t), .inr (2, (fTown G x t).set k (.int v))) = WW G (up x (1 + 4 * t) k v) m := by
  obtain ⟨h1, h2⟩ := hk
  match t, h with
  | 0, _ => match k, h1, h2 with
    | 3, _, _ => rfl
    | 4, _, _ => rfl
    | 5, _, _ => rfl
    | 6, _, _ => rfl
    | 7, _, _ => rfl
  | 1, _ => match k, h1, h2 with
    | 3, _, _ => rfl
    | 4, _, _ => rfl
    | 5, _, _ => rfl
    | 6, _, _ => rfl
    | 7, _, _ => rfl
  | 2, _ => match k, h1, h2 with
    | 3, _, _ => rfl
    | 4, _, _ => rfl
    | 5, _, _ => rfl
    | 6, _, _ => rfl
    | 7, _, _ => rfl
theorem ws_sheet (G : GT) (x m : St) {j : Nat} (h : j < 4) (k : Nat) (hk : 1 ≤ k ∧ k < 3) (v : Int32) : (WW G x m).set (16 + 2 * j) (gq G (16 + 2 * j), .inr (0, (fSheet G x j).set k (.int v))) = WW G (up x (16 + 2 * j) k v) m := by
  obtain ⟨h1, h2⟩ := hk
  match j, h with
  | 0, _ => match k, h1, h2 with
    | 1, _, _ => rfl
    | 2, _, _ => rfl
  | 1, _ => match k, h1, h2 with
    | 1, _, _ => rfl
    | 2, _, _ => rfl
  | 2, _ => match k, h1, h2 with
    | 1, _, _ => rfl
    | 2, _, _ => rfl
  | 3, _ => match k, h1, h2 with
    | 1, _, _ => rfl
    | 2, _, _ => rfl
theorem ws_tape_1 (G : GT) (x m : St) (v : Int32) : (WW G x m).set 13 (gq G 13, .inr (1, (fTape G x).set 1 (.int v))) = WW G (up x 13 1 v) m := rfl
theorem ws_tape_2 (G : GT) (x m : St) (v : Int32) : (WW G x m).set 13 (gq G 13, .inr (1, (fTape G x).set 2 (.int v))) = WW G (up x 13 2 v) m := rfl
theorem ws_tape_3 (G : GT) (x m : St) (v : Int32) : (WW G x m).set 13 (gq G 13, .inr (1, (fTape G x).set 3 (.int v))) = WW G (up x 13 3 v) m := rfl
theorem ws_tape_4 (G : GT) (x m : St) (v : Int32) : (WW G x m).set 13 (gq G 13, .inr (1, (fTape G x).set 4 (.int v))) = WW G (up x 13 4 v) m := rfl
theorem ws_tape_5 (G : GT) (x m : St) (v : Int32) : (WW G x m).set 13 (gq G 13, .inr (1, (fTape G x).set 5 (.int v))) = WW G (up x 13 5 v) m := rfl
theorem ws_main_3 (G : GT) (x m : St) (v : Int32) : (WW G x m).set 0 (gq G 0, .inr (3, (fMain G x).set 3 (.int v))) = WW G (up x 0 3 v) m := rfl
theorem ws_model_3 (G : GT) (x m : St) (v : Int32) : (WW G x m).set 25 (gq G 25, .inr (4, (fModel G m).set 3 (.int v))) = WW G x (up m 25 3 v) := rfl
theorem ws_model_5 (G : GT) (x m : St) (v : Int32) : (WW G x m).set 25 (gq G 25, .inr (4, (fModel G m).set 5 (.int v))) = WW G x (up m 25 5 v) := rfl
theorem ws_model_6 (G : GT) (x m : St) (v : Int32) : (WW G x m).set 25 (gq G 25, .inr (4, (fModel G m).set 6 (.int v))) = WW G x (up m 25 6 v) := rfl
theorem ws_model_7 (G : GT) (x m : St) (v : Int32) : (WW G x m).set 25 (gq G 25, .inr (4, (fModel G m).set 7 (.int v))) = WW G x (up m 25 7 v) := rfl
theorem ws_model_8 (G : GT) (x m : St) (v : Int32) : (WW G x m).set 25 (gq G 25, .inr (4, (fModel G m).set 8 (.int v))) = WW G x (up m 25 8 v) := rfl
theorem ws_model_9 (G : GT) (x m : St) (v : Int32) : (WW G x m).set 25 (gq G 25, .inr (4, (fModel G m).set 9 (.int v))) = WW G x (up m 25 9 v) := rfl
theorem ws_model_10 (G : GT) (x m : St) (v : Int32) : (WW G x m).set 25 (gq G 25, .inr (4, (fModel G m).set 10 (.int v))) = WW G x (up m 25 10 v) := rfl
theorem ws_model_12 (G : GT) (x m : St) (v : Int32) : (WW G x m).set 25 (gq G 25, .inr (4, (fModel G m).set 12 (.int v))) = WW G x (up m 25 12 v) := rfl
theorem ws_model_13 (G : GT) (x m : St) (v : Int32) : (WW G x m).set 25 (gq G 25, .inr (4, (fModel G m).set 13 (.int v))) = WW G x (up m 25 13 v) := rfl
theorem ws_model_15 (G : GT) (x m : St) (v : Int32) : (WW G x m).set 25 (gq G 25, .inr (4, (fModel G m).set 15 (.int v))) = WW G x (up m 25 15 v) := rfl
theorem ws_model_16 (G : GT) (x m : St) (v : Int32) : (WW G x m).set 25 (gq G 25, .inr (4, (fModel G m).set 16 (.int v))) = WW G x (up m 25 16 v) := rfl
theorem ws_model_17 (G : GT) (x m : St) (v : Int32) : (WW G x m).set 25 (gq G 25, .inr (4, (fModel G m).set 17 (.int v))) = WW G x (up m 25 17 v) := rfl
theorem ws_model_18 (G : GT) (x m : St) (v : Int32) : (WW G x m).set 25 (gq G 25, .inr (4, (fModel G m).set 18 (.int v))) = WW G x (up m 25 18 v) := rfl
theorem it_0 : ∀ w ∈ u_ws RX0 TX0 3, w ∈ TG := by
  have h : ∀ w ∈ u_ws RX0 TX0 3, w ∈ lw_tbl ∧ goodWord w = true := by decide +kernel
  exact fun w hw => List.mem_filter.mpr (h w hw)
theorem it_1 : ∀ w ∈ u_ws RX1 TX1 6, w ∈ TG := by
  have h : ∀ w ∈ u_ws RX1 TX1 6, w ∈ lw_tbl ∧ goodWord w = true := by decide +kernel
  exact fun w hw => List.mem_filter.mpr (h w hw)
theorem it_2 : ∀ w ∈ u_ws RX2 TX2 8, w ∈ TG := by
  have h : ∀ w ∈ u_ws RX2 TX2 8, w ∈ lw_tbl ∧ goodWord w = true := by decide +kernel
  exact fun w hw => List.mem_filter.mpr (h w hw)
theorem it_3 : ∀ w ∈ u_ws RX3 TX3 7, w ∈ TG := by
  have h : ∀ w ∈ u_ws RX3 TX3 7, w ∈ lw_tbl ∧ goodWord w = true := by decide +kernel
  exact fun w hw => List.mem_filter.mpr (h w hw)
theorem it_4 : ∀ w ∈ u_ws RX4 TX4 23, w ∈ TG := by
  have h : ∀ w ∈ u_ws RX4 TX4 23, w ∈ lw_tbl ∧ goodWord w = true := by decide +kernel
  exact fun w hw => List.mem_filter.mpr (h w hw)
