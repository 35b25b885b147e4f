/-! numbers: small ones as nI of a natural number -/
theorem nl0 : (0 : Int32) = nI 0 := rfl
theorem nl1 : (1 : Int32) = nI 1 := rfl
theorem nl2 : (2 : Int32) = nI 2 := rfl
theorem nl3 : (3 : Int32) = nI 3 := rfl
theorem nl4 : (4 : Int32) = nI 4 := rfl
theorem nl5 : (5 : Int32) = nI 5 := rfl
theorem nl6 : (6 : Int32) = nI 6 := rfl
theorem nl7 : (7 : Int32) = nI 7 := rfl
theorem nl8 : (8 : Int32) = nI 8 := rfl
theorem nl9 : (9 : Int32) = nI 9 := rfl
theorem nl10 : (10 : Int32) = nI 10 := rfl
theorem nl15 : (15 : Int32) = nI 15 := rfl
theorem nl16 : (16 : Int32) = nI 16 := rfl
theorem nl24 : (24 : Int32) = nI 24 := rfl
theorem nl50 : (50 : Int32) = nI 50 := rfl
theorem nl80 : (80 : Int32) = nI 80 := rfl
theorem nl85 : (85 : Int32) = nI 85 := rfl
theorem nl100 : (100 : Int32) = nI 100 := rfl
theorem nl101 : (101 : Int32) = nI 101 := rfl
theorem nl109 : (109 : Int32) = nI 109 := rfl
theorem nl999 : (999 : Int32) = nI 999 := rfl
theorem i_ix {α : Type} {n k : Nat} {a : Option α} (hk : k < n) (hn : n < 2147483648) : (if nI k < nI 0 ∨ n ≤ k then none else a) = a := by
  rw [if_neg]
  rintro (h | h)
  · exact nI_nlt (Nat.zero_le k) (by omega) h
  · omega
theorem i_le_t {α : Type} {a b : Nat} {x y : α} (h : a ≤ b) (hb : b < 2147483648) : (if nI a ≤ nI b then x else y) = x := if_pos (nI_le h hb)
theorem i_le_f {α : Type} {a b : Nat} {x y : α} (h : b < a) (ha : a < 2147483648) : (if nI a ≤ nI b then x else y) = y := if_neg (nI_ge h ha)
theorem i_lt_t {α : Type} {a b : Nat} {x y : α} (h : a < b) (hb : b < 2147483648) : (if nI a < nI b then x else y) = x := if_pos (nI_lt h hb)
theorem i_lt_f {α : Type} {a b : Nat} {x y : α} (h : b ≤ a) (ha : a < 2147483648) : (if nI a < nI b then x else y) = y := if_neg (nI_nlt h ha)
theorem i_eq_t {α : Type} {a b : Nat} {x y : α} (h : a = b) : (if nI a = nI b then x else y) = x := if_pos (by rw [h])
theorem i_eq_f {α : Type} {a b : Nat} {x y : α} (h : a ≠ b) (ha : a < 2147483648) (hb : b < 2147483648) : (if nI a = nI b then x else y) = y := if_neg (fun e => h ((nI_eq ha hb).mp e))
theorem i_min {a b : Nat} (ha : a < 2147483648) (hb : b < 2147483648) : (if nI a < nI b then nI a else nI b) = nI (min a b) := by
  rcases Nat.lt_or_ge a b with h | h
  · rw [i_lt_t h hb, Nat.min_eq_left (by omega)]
  · rw [i_lt_f h ha, Nat.min_eq_right h]
theorem i_min2 {a b : Nat} (ha : a < 2147483648) (hb : b < 2147483648) : (if nI a < nI b then nI a else nI b) = nI (min b a) := by rw [i_min ha hb, Nat.min_comm]
theorem i_mx {a b : Nat} (ha : a < 1073741824) (hb : b < 1073741824) : (if nI 0 < nI a - nI b then nI a - nI b else nI 0) = nI (a - b) := by
  rcases Nat.lt_or_ge b a with h | h
  · rw [pk_sub (by omega), i_lt_t (by omega) (by omega)]
  · rw [if_neg]
    · rw [show a - b = 0 by omega]
    · intro z
      have h1 := Int32.lt_iff_toInt_lt.mp z
      rw [pk_sub_toInt (by omega) (by omega), nI_toInt (by omega)] at h1
      omega
theorem n_inj {a b : Nat} (ha : a < 2147483648) (hb : b < 2147483648) (h : nI a = nI b) : a = b := (nI_eq ha hb).mp h
/-! the town in natural numbers: 1 whispers, 2 frost, 3 aunts, 5.. corners by five, 85.. whispers by three -/
def tr (τ : Nat → Nat) (c k : Nat) : Nat := τ (5 + 5 * c + k)
def qu (τ : Nat → Nat) (w k : Nat) : Nat := τ (85 + 3 * w + k)
def upN (τ : Nat → Nat) (i v : Nat) : Nat → Nat := fun j => if j = i then v else τ j
def IT (τ : Nat → Nat) : Prop := τ 1 ≤ 8 ∧ τ 2 ≤ 1 ∧ τ 3 ≤ 65535 ∧ (∀ c, c < 16 → tr τ c 0 ≤ 99 ∧ tr τ c 1 ≤ 15 ∧ tr τ c 2 ≤ 9 ∧ tr τ c 3 ≤ 99 ∧ tr τ c 4 ≤ 99) ∧ ∀ w, w < 8 → qu τ w 0 ≤ 6 ∧ qu τ w 1 ≤ 15 ∧ qu τ w 2 ≤ 999
def TM (s : Nat → Int32) (τ : Nat → Nat) : Prop := ∀ i, 1 ≤ i → i < 109 → i ≠ 4 → s i = nI (τ i)
def TX (x : St) (t : Nat) (τ : Nat → Nat) : Prop := (∀ i, i < 80 → x (2 + 4 * t) i = nI (τ (5 + i))) ∧ (∀ i, i < 24 → x (3 + 4 * t) i = nI (τ (85 + i))) ∧ x (1 + 4 * t) 3 = nI (τ 1) ∧ x (1 + 4 * t) 4 = nI (τ 3) ∧ x (1 + 4 * t) 5 = nI (τ 2)
def sSteep (τ : Nat → Nat) (c : Nat) : Nat := tr τ c 0 - tr τ (tr τ c 1) 0
def sPlain (τ : Nat → Nat) (c : Nat) : Nat := min (sSteep τ c / 10) 3 + 1
def sSpeed0 (τ : Nat → Nat) (w : Nat) : Nat :=
  if qu τ w 0 = 1 then sPlain τ (qu τ w 1) + 1 else
  if qu τ w 0 = 2 then sPlain τ (qu τ w 1) - tr τ (qu τ w 1) 2 else
  if qu τ w 0 = 3 then sPlain τ (qu τ w 1) - tr τ (qu τ w 1) 2 + qu τ w 2 / 100 else
  if qu τ w 0 = 4 then sPlain τ (qu τ w 1) - tr τ (qu τ w 1) 2 + qu τ w 2 / 100 + 2 else
  if qu τ w 0 = 5 then (if tr τ (qu τ w 1) 2 = 0 then sPlain τ (qu τ w 1) else 0) else
  if qu τ w 0 = 6 then 2 * (sPlain τ (qu τ w 1) + 1) else sPlain τ (qu τ w 1)
def sSpeed (τ : Nat → Nat) (w : Nat) : Nat := if τ 2 = 1 then 2 * sSpeed0 τ w else sSpeed0 τ w
def sGath (τ : Nat → Nat) (w : Nat) : Nat :=
  if qu τ w 0 = 0 then 1 else if qu τ w 0 = 1 then 0 else if qu τ w 0 = 2 then 2 else if qu τ w 0 = 3 then 4 else
  if qu τ w 0 = 4 then 4 + sSteep τ (qu τ w 1) / 5 else 0
theorem it_t {τ : Nat → Nat} (h : IT τ) {c : Nat} (hc : c < 16) : tr τ c 0 ≤ 99 ∧ tr τ c 1 ≤ 15 ∧ tr τ c 2 ≤ 9 ∧ tr τ c 3 ≤ 99 ∧ tr τ c 4 ≤ 99 := h.2.2.2.1 c hc
theorem it_w {τ : Nat → Nat} (h : IT τ) {w : Nat} (hw : w < 8) : qu τ w 0 ≤ 6 ∧ qu τ w 1 ≤ 15 ∧ qu τ w 2 ≤ 999 := h.2.2.2.2 w hw
theorem sSteep_le {τ : Nat → Nat} (h : IT τ) {c : Nat} (hc : c < 16) : sSteep τ c ≤ 99 := by
  have := (it_t h hc).1
  unfold sSteep
  omega
theorem sPlain_le (τ : Nat → Nat) (c : Nat) : sPlain τ c ≤ 4 := by
  unfold sPlain
  omega
theorem sGath_le {τ : Nat → Nat} (h : IT τ) {w : Nat} (hw : w < 8) : sGath τ w ≤ 23 := by
  have h1 := it_w h hw
  have h2 := sSteep_le h (c := qu τ w 1) (by omega)
  unfold sGath
  repeat' split
  all_goals omega
theorem sSpeed_le {τ : Nat → Nat} (h : IT τ) {w : Nat} (hw : w < 8) : sSpeed τ w ≤ 40 := by
  have h1 := it_w h hw
  have h2 := sPlain_le τ (qu τ w 1)
  unfold sSpeed sSpeed0
  repeat' split
  all_goals omega
-- the model's side
theorem m_part {m : St} {τ : Nat → Nat} (hT : TM (m 26) τ) {c k : Nat} (hc : c < 16) (hk : k < 5) : f4_part (nI c) (nI k) m = some (nI (tr τ c k)) := by
  unfold f4_part
  simp (disch := omega) only [nl0, nl5, pk_mul, nI_add, i_ix, nI_clamp]
  rw [hT _ (by omega) (by omega) (by omega)]
  rfl
theorem m_its {m : St} {τ : Nat → Nat} (hT : TM (m 26) τ) {w k : Nat} (hw : w < 8) (hk : k < 3) : f4_its (nI w) (nI k) m = some (nI (qu τ w k)) := by
  unfold f4_its
  simp (disch := omega) only [nl0, nl3, nl85, pk_mul, nI_add, i_ix, nI_clamp]
  rw [hT _ (by omega) (by omega) (by omega)]
  rfl
theorem m_sets {m : St} {w k : Nat} {v : Int32} (hw : w < 8) (hk : k < 3) : f4_sets (nI w) (nI k) v m = some (up m 26 (85 + 3 * w + k) v) := by
  unfold f4_sets
  simp (disch := omega) only [nl0, nl3, nl85, pk_mul, nI_add, i_ix, nI_clamp]
theorem m_builds {m : St} {c k : Nat} {v : Int32} (hc : c < 16) (hk : k < 5) : f4_builds (nI c) (nI k) v m = some (up m 26 (5 + 5 * c + k) v) := by
  unfold f4_builds
  simp (disch := omega) only [nl0, nl5, pk_mul, nI_add, i_ix, nI_clamp]
theorem m_steep {m : St} {τ : Nat → Nat} (hT : TM (m 26) τ) (hI : IT τ) {c : Nat} (hc : c < 16) : f4_steep (nI c) m = some (nI (sSteep τ c)) := by
  have h1 := it_t hI hc
  have h2 := it_t hI (c := tr τ c 1) (by omega)
  unfold f4_steep
  simp (disch := omega) only [nl0, nl1, m_part hT, Option.bind_some]
  rw [i_mx (by omega) (by omega)]
  rfl
theorem m_speed {m : St} {τ : Nat → Nat} (hT : TM (m 26) τ) (hI : IT τ) {w : Nat} (hw : w < 8) : f4_speed (nI w) m = some (nI (sSpeed τ w)) := by
  have h1 := it_w hI hw
  have h2 := it_t hI (c := qu τ w 1) (by omega)
  have h3 := sSteep_le hI (c := qu τ w 1) (by omega)
  have h4 := sPlain_le τ (qu τ w 1)
  have h9 : ∀ v : Nat, v < 1000 → f4_speed_b159 (nI v) m = some (nI (if τ 2 = 1 then 2 * v else v)) := by
    intro v hv
    unfold f4_speed_b159
    simp (disch := omega) only [nl0, nl1, nl2, i_ix, nI_clamp, pk_mul]
    rw [hT 2 (by omega) (by omega) (by omega)]
    by_cases h : τ 2 = 1
    · rw [i_eq_t h, if_pos h]
    · rw [i_eq_f h (by have := hI.2.1; omega) (by omega), if_neg h]
  have h8 : ∀ v : Nat, v < 1000 → f4_speed_b141 (nI v) m = some (nI (if τ 2 = 1 then 2 * v else v)) := h9
  have hp : (if nI (sSteep τ (qu τ w 1)) / nI 10 < nI 3 then nI (sSteep τ (qu τ w 1)) / nI 10 else nI 3) + nI 1 = nI (sPlain τ (qu τ w 1)) := by
    rw [pk_div (by omega) (by omega) (by omega), i_min (by omega) (by omega), nI_add]
    rfl
  unfold f4_speed
  simp (disch := omega) only [nl0, nl1, nl2, nl3, nl4, nl5, nl6, nl10, nl100, m_its hT, m_steep hT hI, m_part hT, Option.bind_some, hp, i_mx, pk_div, nI_add, pk_mul, h9]
  unfold sSpeed sSpeed0
  by_cases k1 : qu τ w 0 = 1
  · rw [i_eq_t k1, if_pos k1]
  rw [i_eq_f k1 (by omega) (by omega), if_neg k1]
  by_cases k2 : qu τ w 0 = 2
  · rw [i_eq_t k2, if_pos k2]
  rw [i_eq_f k2 (by omega) (by omega), if_neg k2]
  by_cases k3 : qu τ w 0 = 3
  · rw [i_eq_t k3, if_pos k3]
  rw [i_eq_f k3 (by omega) (by omega), if_neg k3]
  by_cases k4 : qu τ w 0 = 4
  · rw [i_eq_t k4, if_pos k4]
  rw [i_eq_f k4 (by omega) (by omega), if_neg k4]
  by_cases k5 : qu τ w 0 = 5
  · rw [i_eq_t k5, if_pos k5]
    by_cases k0 : tr τ (qu τ w 1) 2 = 0
    · rw [i_le_t (by omega) (by omega), if_pos k0, h8 _ (by omega)]
    · rw [i_le_f (by omega) (by omega), if_neg k0, h8 _ (by omega)]
  rw [i_eq_f k5 (by omega) (by omega), if_neg k5]
  by_cases k6 : qu τ w 0 = 6
  · rw [i_eq_t k6, if_pos k6]
  rw [i_eq_f k6 (by omega) (by omega), if_neg k6]
theorem m_gath {m : St} {τ : Nat → Nat} (hT : TM (m 26) τ) (hI : IT τ) {w : Nat} (hw : w < 8) : f4_gathers (nI w) m = some (nI (sGath τ w)) := by
  have h1 := it_w hI hw
  have h3 := sSteep_le hI (c := qu τ w 1) (by omega)
  unfold f4_gathers
  simp (disch := omega) only [nl0, nl1, nl2, nl3, nl4, nl5, nl6, m_its hT, m_steep hT hI, Option.bind_some, pk_div, nI_add]
  unfold sGath
  rcases (show qu τ w 0 = 0 ∨ qu τ w 0 = 1 ∨ qu τ w 0 = 2 ∨ qu τ w 0 = 3 ∨ qu τ w 0 = 4 ∨ qu τ w 0 = 5 ∨ qu τ w 0 = 6 by omega) with k | k | k | k | k | k | k <;> rw [k] <;> simp (disch := omega) [i_eq_t, i_eq_f]
