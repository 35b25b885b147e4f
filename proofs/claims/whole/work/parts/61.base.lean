/-! numbers: small ones as nI of a natural number -/
theorem nl0 : (0 : Int32) = nI 0 := by decide
theorem nl1 : (1 : Int32) = nI 1 := by decide
theorem nl2 : (2 : Int32) = nI 2 := by decide
theorem nl3 : (3 : Int32) = nI 3 := by decide
theorem nl4 : (4 : Int32) = nI 4 := by decide
theorem nl5 : (5 : Int32) = nI 5 := by decide
theorem nl6 : (6 : Int32) = nI 6 := by decide
theorem nl7 : (7 : Int32) = nI 7 := by decide
theorem nl8 : (8 : Int32) = nI 8 := by decide
theorem nl9 : (9 : Int32) = nI 9 := by decide
theorem nl10 : (10 : Int32) = nI 10 := by decide
theorem nl15 : (15 : Int32) = nI 15 := by decide
theorem nl16 : (16 : Int32) = nI 16 := by decide
theorem nl24 : (24 : Int32) = nI 24 := by decide
theorem nl50 : (50 : Int32) = nI 50 := by decide
theorem nl80 : (80 : Int32) = nI 80 := by decide
theorem nl85 : (85 : Int32) = nI 85 := by decide
theorem nl100 : (100 : Int32) = nI 100 := by decide
theorem nl101 : (101 : Int32) = nI 101 := by decide
theorem nl109 : (109 : Int32) = nI 109 := by decide
theorem nl999 : (999 : Int32) = nI 999 := by decide
theorem nl99999 : (99999 : Int32) = nI 99999 := by decide
theorem c_ix {n k : Nat} (hk : k < n) (hn : n < 2147483648) : (nI k < nI 0 ∨ n ≤ k) = False := by
  apply eq_false
  rintro (h | h)
  · exact nI_nlt (Nat.zero_le k) (by omega) h
  · omega
theorem c_ix0 {n k : Nat} (hk : k < n) (hn : n < 2147483648) : (nI k < 0 ∨ n ≤ (nI k).toNatClampNeg) = False := by
  rw [nI_clamp (by omega), nl0]
  exact c_ix hk hn
theorem i_le_t {α : Type} {a b : Nat} {x y : α} {inst : Decidable (nI a ≤ nI b)} (h : a ≤ b) (hb : b < 2147483648) : (@ite α (nI a ≤ nI b) inst x y) = x := if_pos (nI_le h hb)
theorem i_le_f {α : Type} {a b : Nat} {x y : α} {inst : Decidable (nI a ≤ nI b)} (h : b < a) (ha : a < 2147483648) : (@ite α (nI a ≤ nI b) inst x y) = y := if_neg (nI_ge h ha)
theorem i_lt_t {α : Type} {a b : Nat} {x y : α} {inst : Decidable (nI a < nI b)} (h : a < b) (hb : b < 2147483648) : (@ite α (nI a < nI b) inst x y) = x := if_pos (nI_lt h hb)
theorem i_lt_f {α : Type} {a b : Nat} {x y : α} {inst : Decidable (nI a < nI b)} (h : b ≤ a) (ha : a < 2147483648) : (@ite α (nI a < nI b) inst x y) = y := if_neg (nI_nlt h ha)
theorem i_eq_t {α : Type} {a b : Nat} {x y : α} {inst : Decidable (nI a = nI b)} (h : a = b) : (@ite α (nI a = nI b) inst x y) = x := if_pos (by rw [h])
theorem i_eq_f {α : Type} {a b : Nat} {x y : α} {inst : Decidable (nI a = nI b)} (h : a ≠ b) (ha : a < 2147483648) (hb : b < 2147483648) : (@ite α (nI a = nI b) inst x y) = y := if_neg (fun e => h ((nI_eq ha hb).mp e))
theorem i_min {a b : Nat} {inst : Decidable (nI a < nI b)} (ha : a < 2147483648) (hb : b < 2147483648) : (@ite Int32 (nI a < nI b) inst (nI a) (nI b)) = nI (min a b) := by
  rcases Nat.lt_or_ge a b with h | h
  · rw [i_lt_t h hb, Nat.min_eq_left (by omega)]
  · rw [i_lt_f h ha, Nat.min_eq_right h]
theorem i_mx {a b : Nat} {inst : Decidable (nI 0 < nI a - nI b)} (ha : a < 1073741824) (hb : b < 1073741824) : (@ite Int32 (nI 0 < nI a - nI b) inst (nI a - nI b) (nI 0)) = nI (a - b) := by
  rcases Nat.lt_or_ge b a with h | h
  · rw [if_pos, pk_sub (by omega)]
    rw [pk_sub (by omega)]
    exact nI_lt (by omega) (by omega)
  · rw [if_neg]
    · rw [show a - b = 0 by omega]
    · intro z
      have h1 := Int32.lt_iff_toInt_lt.mp z
      rw [pk_sub_toInt (by omega) (by omega), nI_toInt (by omega)] at h1
      omega
theorem i_mx0 {a b : Nat} {inst : Decidable ((0 : Int32) < nI a - nI b)} (ha : a < 1073741824) (hb : b < 1073741824) : (@ite Int32 ((0 : Int32) < nI a - nI b) inst (nI a - nI b) (0 : Int32)) = nI (a - b) := i_mx ha hb
theorem n_inj {a b : Nat} (ha : a < 2147483648) (hb : b < 2147483648) (h : nI a = nI b) : a = b := (nI_eq ha hb).mp h
theorem i_dec {a : Nat} (h : 1 ≤ a) (h2 : a < 2147483648) : nI a + (-1 : Int32) = nI (a - 1) := by
  have e : nI (a - 1) + nI 1 = nI a := by rw [nI_add]; congr 1; omega
  rw [← e, show (-1 : Int32) = - nI 1 by decide, Int32.add_assoc, Int32.add_right_neg, Int32.add_zero]
theorem bd {α β : Type} {o : Option α} {a : α} {f : α → Option β} (h : o = some a) : o.bind f = f a := by rw [h]; rfl
