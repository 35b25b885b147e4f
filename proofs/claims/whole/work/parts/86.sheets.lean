-- sheets
theorem nl40 : (40 : Int32) = nI 40 := rfl
theorem ixF {c N : Nat} (h : c < N) (hc : c < 2147483648) : (nI c < 0 ∨ N ≤ c) = False := by
  apply eq_false
  rintro (z | z)
  · exact nI_nlt (Nat.zero_le c) hc z
  · omega
theorem REL_sh {x m x' m' : St} (h : REL x m) (ex : ∀ a, a < 16 ∨ 23 < a → x' a = x a) (em : ∀ a, a ≠ 32 → a ≠ 33 → a ≠ 34 → a ≠ 35 → m' a = m a) (hs : SH x' m') : REL x' m' := by
  obtain ⟨⟨τ, hW⟩, ⟨k1, k2⟩, f1, ⟨n, t1, t2, t3, t4⟩, _⟩ := h
  refine ⟨⟨τ, ?_⟩, ⟨?_, ?_⟩, ?_, ⟨n, t1, ?_, ?_, ?_⟩, hs⟩
  · rw [em 26 (by omega) (by omega) (by omega) (by omega)]
    exact TW_fr hW (ex _ (by omega)) (ex _ (by omega)) (ex _ (by omega)) (ex _ (by omega)) (fun _ _ => rfl)
  · rw [ex 0 (by omega), em 25 (by omega) (by omega) (by omega) (by omega), k1]
  · rw [em 25 (by omega) (by omega) (by omega) (by omega), em 27 (by omega) (by omega) (by omega) (by omega)]
    rcases k2 with k2 | ⟨k2, τ, k3⟩
    · exact Or.inl k2
    · exact Or.inr ⟨k2, τ, TW_fr k3 (ex _ (by omega)) (ex _ (by omega)) (ex _ (by omega)) (ex _ (by omega)) (fun _ _ => rfl)⟩
  · intro i hi
    rw [ex 24 (by omega), em 29 (by omega) (by omega) (by omega) (by omega), f1 i hi]
  · rw [ex 13 (by omega), t2]
  · rw [em 25 (by omega) (by omega) (by omega) (by omega), t3]
  · rw [ex 14 (by omega), em 31 (by omega) (by omega) (by omega) (by omega)]
    exact t4
theorem x_begin_L {j : Nat} : ∀ (d k F : Nat) (x : St), d + 1 ≤ F → k + d = 40 → ∃ x', f0_begin_L12 j F (nI k) x = some x' ∧ (∀ i, i < 40 → k ≤ i → x' (17 + 2 * j) i = 0) ∧ (∀ i, i < k → x' (17 + 2 * j) i = x (17 + 2 * j) i) ∧ ∀ a, a ≠ 17 + 2 * j → x' a = x a
  | d, k, 0, x, hF, hk => by omega
  | 0, k, F + 1, x, hF, hk => by
    rw [f0_begin_L12_s, nl40, i_le_t (by omega) (by omega)]
    exact ⟨x, rfl, fun i h1 h2 => by omega, fun _ _ => rfl, fun _ _ => rfl⟩
  | d + 1, k, F + 1, x, hF, hk => by
    rw [f0_begin_L12_s, nl40, i_le_f (by omega) (by omega), if_neg (nI_in (by omega) (by omega)), nI_clamp (by omega), nl1, nI_add]
    obtain ⟨x', q1, q2, q3, q4⟩ := x_begin_L (j := j) d (k + 1) F (up x (17 + 2 * j) k 0) (by omega) (by omega)
    refine ⟨x', q1, fun i h1 h2 => ?_, fun i h1 => ?_, fun a ha => (q4 a ha).trans (up_cell _ _ _ ha)⟩
    · by_cases e : i = k
      · rw [q3 i (by omega), e, up_eq]
      · exact q2 i h1 (by omega)
    · rw [q3 i (by omega), up_ne2 _ _ (by omega)]
theorem m_begin_L {j : Nat} (hj : j < 4) : ∀ (d k F : Nat) (m : St), d + 1 ≤ F → k + d = 40 → ∃ m', f4_sheet_L95 F (nI j) (nI k) m = some (m' 33 j, m') ∧ (∀ i, i < 40 → k ≤ i → m' 34 (40 * j + i) = 0) ∧ (∀ q, (q < 40 * j + k ∨ 40 * j + 40 ≤ q) → m' 34 q = m 34 q) ∧ ∀ a, a ≠ 34 → m' a = m a
  | d, k, 0, m, hF, hk => by omega
  | 0, k, F + 1, m, hF, hk => by
    rw [f4_sheet_L95_s, nl40, i_le_t (by omega) (by omega), if_neg (nI4_not hj), nI_clamp (by omega)]
    exact ⟨m, rfl, fun i h1 h2 => by omega, fun _ _ => rfl, fun _ _ => rfl⟩
  | d + 1, k, F + 1, m, hF, hk => by
    rw [f4_sheet_L95_s, nl40, i_le_f (by omega) (by omega), pk_mul, nI_add, if_neg (nI_in (by omega) (by omega)), nI_clamp (by omega), nl1, nI_add]
    obtain ⟨m', q1, q2, q3, q4⟩ := m_begin_L hj d (k + 1) F (up m 34 (40 * j + k) 0) (by omega) (by omega)
    refine ⟨m', q1, fun i h1 h2 => ?_, fun q hq => ?_, fun a ha => (q4 a ha).trans (up_cell _ _ _ ha)⟩
    · by_cases e : i = k
      · rw [e, q3 _ (by omega), up_eq]
      · exact q2 i h1 (by omega)
    · rw [q3 q (by omega), up_ne2 _ _ (by omega)]
theorem R_begin {x m : St} (h : REL x m) {j b n : Nat} (hj : j < 4) (hb : b = 0 ∨ b = 8 ∨ b = 16 ∨ b = 32) (hn : n ≤ 40) : EQ (f3_sheet_b77 j j (nI b) (nI n) x) (f4_sheet_b91 (nI j) (nI j) (nI n) (up m 32 j (nI b))) := by
  have hh := h
  obtain ⟨_, _, _, _, s1⟩ := h
  obtain ⟨x', q1, q2, _, q4⟩ := x_begin_L (j := j) 40 0 fu (up (up x (16 + 2 * j) 1 (nI b)) (16 + 2 * j) 2 (nI n)) (by rw [fu_eq]; omega) (by omega)
  obtain ⟨m', p1, p2, p3, p4⟩ := m_begin_L hj 40 0 fu (up (up m 32 j (nI b)) 33 j (nI n)) (by rw [fu_eq]; omega) (by omega)
  have q1' : f0_begin j (nI b) (nI n) x = some x' := q1
  have p1' : f4_sheet_L95 fu (nI j) (0 : Int32) (up (up m 32 j (nI b)) 33 j (nI n)) = _ := p1
  have e2 : x' (16 + 2 * j) = up (up x (16 + 2 * j) 1 (nI b)) (16 + 2 * j) 2 (nI n) (16 + 2 * j) := q4 _ (by omega)
  have a33 : m' 33 = up (up m 32 j (nI b)) 33 j (nI n) 33 := p4 33 (by omega)
  have a32 : m' 32 = up (up m 32 j (nI b)) 33 j (nI n) 32 := p4 32 (by omega)
  unfold f3_sheet_b77 f4_sheet_b91
  rw [bd q1', if_neg (nI4_not hj), nI_clamp (by omega), p1', e2, a33, up_eq, up_eq]
  refine EQs (REL_sh hh (fun a ha => ?_) (fun a h1 h2 h3 h4 => ?_) (fun i hi => ?_)) _
  · rw [q4 a (by omega), up_cell _ _ _ (by omega), up_cell _ _ _ (by omega)]
  · rw [p4 a h3, up_cell _ _ _ h2, up_cell _ _ _ h1]
  · by_cases e : i = j
    · subst e
      refine ⟨b, n, hb, hn, ?_, ?_, ?_, ?_, fun q hq => ?_⟩
      · rw [e2, up_ne2 _ _ (by omega), up_eq]
      · rw [a32, up_cell _ _ _ (by omega), up_eq]
      · rw [e2, up_eq]
      · rw [a33, up_eq]
      · rw [q2 q hq (by omega), p2 q hq (by omega)]
    · obtain ⟨b', n', g1, g2, g3, g4, g5, g6, g7⟩ := s1 i hi
      refine ⟨b', n', g1, g2, ?_, ?_, ?_, ?_, fun q hq => ?_⟩
      · rw [q4 _ (by omega), up_cell _ _ _ (by omega), up_cell _ _ _ (by omega)]; exact g3
      · rw [a32, up_cell _ _ _ (by omega), up_ne2 _ _ e]; exact g4
      · rw [q4 _ (by omega), up_cell _ _ _ (by omega), up_cell _ _ _ (by omega)]; exact g5
      · rw [a33, up_ne2 _ _ e, up_cell _ _ _ (by omega)]; exact g6
      · rw [q4 _ (by omega), up_cell _ _ _ (by omega), up_cell _ _ _ (by omega), g7 q hq, p3 _ (by omega), up_cell _ _ _ (by omega), up_cell _ _ _ (by omega)]
theorem nneg (a : Int32) (h : 0 ≤ a) : ∃ n, n < 2147483648 ∧ a = nI n := by
  refine ⟨a.toInt.toNat, ?_, ?_⟩
  · have := Int32.toInt_lt a
    omega
  · have h1 := Int32.le_iff_toInt_le.mp h
    have h2 := Int32.toInt_lt a
    have h3 : (0 : Int32).toInt = 0 := by decide
    apply Int32.toInt_inj.mp
    rw [nI_toInt (by omega)]
    omega
theorem R_sheet_b {x m : St} (h : REL x m) {j b : Nat} (hj : j < 4) (hb : b = 0 ∨ b = 8 ∨ b = 16 ∨ b = 32) (n : Int32) : EQ (f3_sheet_b41 (nI b) n j x) (f4_sheet_b27 (nI j) (nI b) n 1 m) := by
  unfold f3_sheet_b41 f4_sheet_b27
  rw [m_isSheet, wi_t (by omega) (by omega), if_neg (by decide : ¬ b01 true = 0), if_neg (by decide : ¬ (1 : Int32) = 0)]
  by_cases e : (0 : Int32) ≤ n
  · rw [if_pos e, if_pos e]
    obtain ⟨k, hk, ek⟩ := nneg n e
    subst ek
    rw [nl40]
    by_cases e2 : k ≤ 40
    · rw [i_le_t e2 (by omega), i_le_t e2 (by omega), if_neg (nI4_not hj), nI_clamp (by omega)]
      by_cases e3 : b = 0
      · subst e3
        rw [if_pos (by decide : nI 0 = 0), if_pos (by decide : nI 0 = 0), nl0]
        exact R_begin h hj hb (by omega)
      · have e4 : ¬ nI b = 0 := fun z => e3 (n_inj (by omega) (by omega) z)
        rw [if_neg e4, if_neg e4]
        exact R_begin h hj hb e2
    · rw [i_le_f (by omega) hk, i_le_f (by omega) hk]
      exact EQf0 h (fun _ _ => rfl) (fun _ _ => rfl)
  · rw [if_neg e, if_neg e]
    exact EQf6 h (fun _ _ => rfl) (fun _ _ => rfl)
theorem R_sheet {x m : St} (h : REL x m) (a b n : Int32) : EQ (f3_sheet a b n x) (f4_sheet a b n m) := by
  unfold f3_sheet f4_sheet f3_sheet_b34 f4_sheet_b22
  rcases clsS a with ⟨e1, e2⟩ | ⟨j, hj, e⟩
  · have q : ∀ w, f4_sheet_b27 a b n w m = f4_sheet_b41 m := by
      intro w
      unfold f4_sheet_b27
      rw [m_isSheet, e2, if_pos (by decide : b01 false = 0)]
    rw [if_pos e1, q, q, ite_self, ite_self, ite_self, ite_self]
    exact EQf0 h (fun _ _ => rfl) (fun _ _ => rfl)
  · subst e
    rw [if_neg (nI4_not hj), nI_clamp (by omega)]
    by_cases b0 : b = 0
    · rw [if_pos b0, if_pos b0, b0]
      exact R_sheet_b h hj (Or.inl rfl) n
    rw [if_neg b0, if_neg b0]
    by_cases b8 : b = 8
    · rw [if_pos b8, if_pos b8, b8]
      exact R_sheet_b h hj (Or.inr (Or.inl rfl)) n
    rw [if_neg b8, if_neg b8]
    by_cases b16 : b = 16
    · rw [if_pos b16, if_pos b16, b16]
      exact R_sheet_b h hj (Or.inr (Or.inr (Or.inl rfl))) n
    rw [if_neg b16, if_neg b16]
    by_cases b32 : b = 32
    · rw [if_pos b32, if_pos b32, b32]
      exact R_sheet_b h hj (Or.inr (Or.inr (Or.inr rfl))) n
    rw [if_neg b32, if_neg b32]
    unfold f4_sheet_b27
    rw [m_isSheet, wi_t (by omega) (by omega), if_neg (by decide : ¬ b01 true = 0), if_pos rfl]
    exact EQf0 h (fun _ _ => rfl) (fun _ _ => rfl)
-- one number
theorem SH_up {x m : St} (hs : SH x m) {j i : Nat} (hj : j < 4) (hi : i < 40) (v : Int32) : SH (up x (17 + 2 * j) i v) (up m 34 (40 * j + i) v) := by
  intro k hk
  obtain ⟨b, n, g1, g2, g3, g4, g5, g6, g7⟩ := hs k hk
  refine ⟨b, n, g1, g2, ?_, ?_, ?_, ?_, fun q hq => ?_⟩
  · rw [up_cell _ _ _ (by omega)]; exact g3
  · rw [up_cell _ _ _ (by omega)]; exact g4
  · rw [up_cell _ _ _ (by omega)]; exact g5
  · rw [up_cell _ _ _ (by omega)]; exact g6
  · by_cases e : k = j
    · subst e
      by_cases e2 : q = i
      · rw [e2, up_eq, up_eq]
      · rw [up_ne2 _ _ e2, up_ne2 _ _ (by omega), g7 q hq]
    · rw [up_cell _ _ _ (by omega), up_ne2 _ _ (by omega), g7 q hq]
theorem R_write {x m : St} (h : REL x m) (a b v : Int32) : EQ (f3_write a b v x) (f4_write a b v m) := by
  have hh := h
  unfold f3_write f4_write
  rcases clsS a with ⟨e1, e2⟩ | ⟨j, hj, e⟩
  · rw [if_pos e1, m_lacksF e2, Option.bind_some, if_neg (by decide : ¬ (0 : Int32) < 0)]
    exact EQf0 hh (fun _ _ => rfl) (fun _ _ => rfl)
  · subst e
    obtain ⟨bb, n, g1, g2, g3, g4, g5, g6, g7⟩ := h.2.2.2.2 j hj
    rw [if_neg (nI4_not hj), nI_clamp (by omega), x_missing g3 (by omega), m_lacksT hj g4 (by omega), Option.bind_some, b01_0]
    by_cases e0 : bb = 0
    · rw [if_pos (by simp [e0]), if_pos e0, if_neg (by decide : ¬ (5 : Int32) < 0)]
      exact EQf5 hh (fun _ _ => rfl) (fun _ _ => rfl)
    · rw [if_neg (by simp [e0]), if_neg e0, if_pos (by decide : (-1 : Int32) < 0)]
      simp only [ixF hj (by omega), if_false]
      rw [g5, g6]
      have ex := x_within b 0 (nI n - 1)
      have em : f4_in b.toInt64 0 (nI n - 1).toInt64 = b01 (wi b 0 (nI n - 1)) := m_in b 0 (nI n - 1)
      rw [ex, em]
      by_cases e3 : wi b 0 (nI n - 1) = true
      · have h3 := wi_iff.mp e3
        have hn : 1 ≤ n := by
          rcases Nat.eq_zero_or_pos n with z | z
          · rw [z] at h3
            exact absurd (Int32.le_trans h3.1 h3.2) (by decide)
          · exact z
        rw [nl1, pk_sub hn] at e3
        rcases cls0 b (n - 1) (by omega) with e4 | ⟨i, hi, e4⟩
        · rw [e3] at e4; exact absurd e4 (by decide)
        · subst e4
          rw [nl1, pk_sub hn, e3, if_neg (by decide : ¬ b01 true = 0), if_neg (by decide : ¬ b01 true = 0), g4, nl40, pk_mul, nI_add, nI_clamp (by omega)]
          simp only [ixF (show 40 * j + i < 160 by omega) (by omega), if_false]
          have put : ∀ w : Int32, f0_setNumber_b34 j (nI i) w x = some (up x (17 + 2 * j) i w) := by
            intro w
            unfold f0_setNumber_b34 f3_put
            rw [if_neg (show ¬ nI i < 0 by rw [nl0]; exact nI_nlt (by omega) (by omega)), if_neg (show ¬ Int32.ofNat 40 ≤ nI i from nI_ge (by omega) (by omega)), if_neg (nI_in (by omega) (by omega)), nI_clamp (by omega)]
            rfl
          have fin : ∀ w : Int32, EQ ((some (up x (17 + 2 * j) i w)).bind fun z4 => some ((nI 1 : Int32), z4)) (some (nI 1, up m 34 (40 * j + i) w)) := fun w => EQs (REL_sh hh (fun a ha => up_cell _ _ _ (by omega)) (fun a _ _ h3 _ => up_cell _ _ _ h3) (SH_up h.2.2.2.2 hj (by omega) w)) _
          unfold f0_setNumber
          rw [g3, put, put, put]
          by_cases b8 : nI bb = 8
          · rw [if_pos b8, if_pos b8]; exact fin _
          · rw [if_neg b8, if_neg b8]
            by_cases b16 : nI bb = 16
            · rw [if_pos b16, if_pos b16]; exact fin _
            · rw [if_neg b16, if_neg b16]; exact fin _
      · have e4 : wi b 0 (nI n - 1) = false := by simpa using e3
        rw [e4, if_pos (by decide : b01 false = 0), if_pos (by decide : b01 false = 0)]
        exact EQf0 hh (fun _ _ => rfl) (fun _ _ => rfl)
-- judge
theorem x_num {x : St} {j i : Nat} (hi : i < 40) : f0_number j (nI i) x = some (x (17 + 2 * j) i) := by
  unfold f0_number
  rw [if_neg (show ¬ nI i < 0 by rw [nl0]; exact nI_nlt (by omega) (by omega)), if_neg (show ¬ (40 : Int32) ≤ nI i from nI_ge (b := 40) (by omega) (by omega)), if_neg (nI_in (by omega) (by omega)), nI_clamp (by omega)]
theorem R_judge_L {x m : St} {τ : Nat → Nat} (h : REL x m) (hX : TX x 0 τ) (hM : TM (m 26) τ) (hI : IT τ) {j n : Nat} (hj : j < 4) (hn : n ≤ 40) (g5 : x (16 + 2 * j) 2 = nI n) (g6 : m 33 j = nI n) (g7 : ∀ i, i < 40 → x (17 + 2 * j) i = m 34 (40 * j + i)) : ∀ (d i F : Nat), d + 1 ≤ F → i + d = n → EQ (f3_judge_L33 F j (nI i) x) (f4_judge_L18 F (nI j) (nI i) m)
  | d, i, 0, hF, hi => by omega
  | 0, i, F + 1, hF, hi => by
    have hi' : i = n := hi
    rw [f3_judge_L33_s, f4_judge_L18_s, g5, i_le_t (by omega) (by omega), if_neg (nI4_not hj), nI_clamp (by omega), g6, i_le_t (by omega) (by omega)]
    unfold f4_judge_b59
    rw [if_neg (nI4_not hj), nI_clamp (by omega), g6, hi', if_pos rfl]
    exact EQs h _
  | d + 1, i, F + 1, hF, hi => by
    have ne : ¬ nI i = nI n := fun z => by have := n_inj (by omega) (by omega) z; omega
    have fin : EQ (f3_judge_b64 (nI i) x) (f4_judge_b59 (nI j) (nI i) m) := by
      unfold f3_judge_b64 f4_judge_b59
      rw [if_neg (nI4_not hj), nI_clamp (by omega), g6, if_neg ne, Int32.add_comm]
      exact EQs h _
    rw [f3_judge_L33_s, f4_judge_L18_s, g5, i_le_f (by omega) (by omega), if_neg (nI4_not hj), nI_clamp (by omega), g6, i_le_f (by omega) (by omega), x_isCorner]
    by_cases e : i < 16
    · rw [wi_t (by omega) (by omega), if_neg (by decide : ¬ b01 true = 0), nl16, i_le_f (by omega) (by omega), bd (x_num (by omega)), bd (x_loud hX hI e), bd (m_loud hM hI e), nl40, pk_mul, nI_add, if_neg (nI_in (by omega) (by omega)), nI_clamp (by omega), g7 i (by omega), nl1, nI_add]
      by_cases e2 : m 34 (40 * j + i) = nI (sLoud τ i)
      · rw [if_pos e2, if_pos e2]
        exact R_judge_L h hX hM hI hj hn g5 g6 g7 d (i + 1) F (by omega) (by omega)
      · rw [if_neg e2, if_neg e2]
        exact fin
    · rw [wi_f (by omega) (by omega), if_pos (by decide : b01 false = 0), nl16, i_le_t (by omega) (by omega)]
      exact fin
theorem R_judge {x m : St} (h : REL x m) (a : Int32) : EQ (f3_judge a x) (f4_judge a m) := by
  have hh := h
  obtain ⟨⟨τ, hI, hM, hX, ⟨h9, h0, h6⟩, hz, hs⟩, hR⟩ := h
  unfold f3_judge f4_judge
  rcases clsS a with ⟨e1, e2⟩ | ⟨j, hj, e⟩
  · rw [if_pos e1, m_lacksF e2, Option.bind_some, if_neg (by decide : ¬ (0 : Int32) < 0)]
    exact EQf0 hh (fun _ _ => rfl) (fun _ _ => rfl)
  · subst e
    obtain ⟨bb, n, g1, g2, g3, g4, g5, g6, g7⟩ := hR.2.2.2 j hj
    rw [if_neg (nI4_not hj), nI_clamp (by omega), x_missing g3 (by omega), m_lacksT hj g4 (by omega), Option.bind_some, b01_0]
    by_cases e0 : bb = 0
    · rw [if_pos (by simp [e0]), if_pos e0, if_neg (by decide : ¬ (5 : Int32) < 0)]
      exact EQf5 hh (fun _ _ => rfl) (fun _ _ => rfl)
    · rw [if_neg (by simp [e0]), if_neg e0, if_pos (by decide : (-1 : Int32) < 0)]
      exact R_judge_L hh hX hM hI hj g2 g5 g6 g7 n 0 fu (by rw [fu_eq]; omega) (by omega)
-- load
theorem R_load_L {j n : Nat} (hj : j < 4) (hn : n ≤ 40) : ∀ (d i F : Nat) (x m : St) (τ : Nat → Nat), d + 1 ≤ F → i + d = n → TW x 0 (m 26) τ → RST x m → x (16 + 2 * j) 2 = nI n → m 33 j = nI n → (∀ i, i < 40 → x (17 + 2 * j) i = m 34 (40 * j + i)) → EQ (f3_load_L36 F j (nI i) (nI i) x) (f4_load_L18 F (nI j) (nI i) m)
  | d, i, 0, x, m, τ, hF, hi, hW, hR, g5, g6, g7 => by omega
  | 0, i, F + 1, x, m, τ, hF, hi, hW, hR, g5, g6, g7 => by
    rw [f3_load_L36_s, f4_load_L18_s, g5, i_le_t (by omega) (by omega), if_neg (nI4_not hj), nI_clamp (by omega), g6, i_le_t (by omega) (by omega)]
    exact EQs ⟨⟨τ, hW⟩, hR⟩ _
  | d + 1, i, F + 1, x, m, τ, hF, hi, hW, hR, g5, g6, g7 => by
    rw [f3_load_L36_s, f4_load_L18_s, g5, i_le_f (by omega) (by omega), if_neg (nI4_not hj), nI_clamp (by omega), g6, i_le_f (by omega) (by omega), x_isCorner]
    by_cases e : i < 16
    · have em : f4_in (m 34 (40 * j + i)).toInt64 0 99 = b01 (wi (m 34 (40 * j + i)) 0 (nI 99)) := m_in _ 0 99
      rw [wi_t (by omega) (by omega), if_neg (by decide : ¬ b01 true = 0), nl16, i_le_f (by omega) (by omega), bd (x_num (by omega)), bd (x_num (by omega)), nl40, pk_mul, nI_add, if_neg (nI_in (by omega) (by omega)), nI_clamp (by omega), g7 i (by omega), em]
      have et : f3_isTrait (0 : Int32) (m 34 (40 * j + i)) x = some (b01 (wi (m 34 (40 * j + i)) 0 (nI 99))) := x_isTrait x (m 34 (40 * j + i)) (k := 0) (by omega)
      rw [bd et]
      rcases cls0 (m 34 (40 * j + i)) 99 (by omega) with e2 | ⟨v, hv, e2⟩
      · rw [e2, if_pos (by decide : b01 false = 0), if_pos (by decide : b01 false = 0)]
        exact EQs ⟨⟨τ, hW⟩, hR⟩ _
      · rw [e2, wi_t hv (by omega), if_neg (by decide : ¬ b01 true = 0), if_neg (by decide : ¬ b01 true = 0)]
        simp only [ixF (show 40 * j + i < 160 by omega) (by omega), if_false]
        rw [bd (x_setT0 e), bd (m_builds0 e), nl1, nI_add]
        have hW' := TW_upt hW (c := i) (k := 0) (v := v) e (by omega) (by unfold mostT; simp; omega)
        rw [← up26] at hW'
        refine R_load_L hj hn d (i + 1) F _ _ _ (by omega) (by omega) hW' (RST_fr hR (XR_up (by omega)) MR_up) ?_ ?_ ?_
        · rw [up_cell _ _ _ (by omega)]; exact g5
        · rw [up_cell _ _ _ (by omega)]; exact g6
        · rw [up_cell _ _ _ (by omega), up_cell _ _ _ (by omega)]; exact g7
    · rw [wi_f (by omega) (by omega), if_pos (by decide : b01 false = 0), nl16, i_le_t (by omega) (by omega)]
      exact EQs ⟨⟨τ, hW⟩, hR⟩ _
theorem R_load {x m : St} (h : REL x m) (a : Int32) : EQ (f3_load a x) (f4_load a m) := by
  have hh := h
  obtain ⟨⟨τ, hI, hM, hX, ⟨h9, h0, h6⟩, hz, hs⟩, hR⟩ := h
  have hW : TW x 0 (m 26) τ := ⟨hI, hM, hX, ⟨h9, h0, h6⟩, hz, hs⟩
  unfold f3_load f4_load
  rcases clsS a with ⟨e1, e2⟩ | ⟨j, hj, e⟩
  · rw [if_pos e1, m_lacksF e2, Option.bind_some, if_neg (by decide : ¬ (0 : Int32) < 0)]
    exact EQf0 hh (fun _ _ => rfl) (fun _ _ => rfl)
  · subst e
    obtain ⟨bb, n, g1, g2, g3, g4, g5, g6, g7⟩ := hR.2.2.2 j hj
    rw [if_neg (nI4_not hj), nI_clamp (by omega), x_missing g3 (by omega), m_lacksT hj g4 (by omega), Option.bind_some, b01_0]
    by_cases e0 : bb = 0
    · rw [if_pos (by simp [e0]), if_pos e0, if_neg (by decide : ¬ (5 : Int32) < 0)]
      exact EQf5 hh (fun _ _ => rfl) (fun _ _ => rfl)
    · rw [if_neg (by simp [e0]), if_neg e0, if_pos (by decide : (-1 : Int32) < 0)]
      exact R_load_L hj g2 n 0 fu x m τ (by rw [fu_eq]; omega) (by omega) hW hR g5 g6 g7
