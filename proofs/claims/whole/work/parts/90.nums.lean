-- numbers
theorem vx_vm {β : Nat → Nat} {q : Nat} : ∀ k, (∀ j, j < k → 48 ≤ β (q + j) ∧ β (q + j) ≤ 57) → vxN β q k = min (vmN β q k) 100000 ∧ vmN β q k ≤ 999999
  | 0, _ => by unfold vxN vmN; omega
  | k + 1, h => by
    obtain ⟨h1, h2⟩ := vx_vm (β := β) (q := q) k (fun j hj => h j (by omega))
    have h3 := h k (by omega)
    rw [vx_s, vm_s, h1]
    by_cases e : 99999 < vmN β q k
    · rw [if_pos e]
      omega
    · rw [if_neg e]
      omega
theorem ed_dig {β : Nat → Nat} {n q r : Nat} (hE : ED β n q r) (h : sr β n q = 2) : ∀ j, j < r - q → 48 ≤ β (q + j) ∧ β (q + j) ≤ 57 := by
  intro j hj
  have := (hE.2.2.2.2 (Or.inr h)).2.1 (q + j) (by omega) (by omega)
  rw [h] at this
  exact (sr2 this).2
theorem m_num_L {β : Nat → Nat} {n q r : Nat} {m : St} (hB : BM β n m) (hE : ED β n q r) (h2 : sr β n q = 2) (h7 : m 25 17 = nI r) (lo hi : Int32) : ∀ (d k F : Nat), d + 1 ≤ F → k + d = r → q ≤ k → f4_numberRead_L27 F lo hi (nI (vmN β q (k - q))) (nI k) m = f4_numberRead_b72 lo hi (nI (vmN β q (r - q))) m
  | d, k, 0, hF, hk, hq => by omega
  | 0, k, F + 1, hF, hk, hq => by
    have hn := hB.2.1
    have hr := hE.2.1
    have ek : k = r := hk
    rw [f4_numberRead_L27_s, h7, i_le_t (by omega) (by omega), ek]
  | d + 1, k, F + 1, hF, hk, hq => by
    have hn := hB.2.1
    have hr := hE.2.1
    have hd := ed_dig hE h2
    have hk1 := hd (k - q) (by omega)
    rw [show q + (k - q) = k by omega] at hk1
    obtain ⟨v1, v2⟩ := vx_vm (β := β) (q := q) (k - q) (fun j hj => hd j (by omega))
    have ih := m_num_L hB hE h2 h7 lo hi d (k + 1) F (by omega) (by omega) (by omega)
    rw [show k + 1 - q = (k - q) + 1 by omega, vm_s, show q + (k - q) = k by omega] at ih
    rw [f4_numberRead_L27_s, h7, i_le_f (by omega) (by omega), if_neg (show ¬ nI (vmN β q (k - q)) < 0 by rw [nl0]; exact nI_nlt (by omega) (by omega)), nl99999, if_neg (nI_in (by omega) (by omega)), nI_clamp (by omega), (hB.2.2 k (by omega)).2]
    unfold f4_numberRead_b65
    rw [show nI k + 1 = nI (k + 1) by rw [nl1, nI_add]]
    by_cases e : 99999 < vmN β q (k - q)
    · rw [i_le_f e (by omega)]
      rw [if_pos e] at ih
      exact ih
    · rw [i_le_t (by omega) (by omega), nl10, pk_mul, nI_add, show (48 : Int32) = nI 48 from rfl, pk_sub (by omega)]
      rw [if_neg e] at ih
      exact ih
theorem m_numR {β : Nat → Nat} {n q r : Nat} {m : St} (hB : BM β n m) (hE : ED β n q r) (h6 : m 25 16 = nI q) (h7 : m 25 17 = nI r) (lo hi : Int32) : f4_numberRead lo hi m = f4_numberRead_b72 lo hi (if sr β n q = 2 then nI (vmN β q (r - q)) else -1) m := by
  have hn := hB.2.1
  have h1 := hE.1
  have h2 := hE.2.1
  unfold f4_numberRead f4_numberRead_b20
  rw [h6, bd (m_digit hB (by omega)), b01_0]
  by_cases e : sr β n q = 2
  · rw [if_pos (by simp [e]), if_pos e]
    have := m_num_L hB hE e h7 lo hi (r - q) q fu (by rw [fu_eq]; omega) (by omega) (by omega)
    rw [Nat.sub_self] at this
    exact this
  · rw [if_neg (by simp [e]), if_neg e]
    show f4_numberRead_L27 (1099 + 1) lo hi (-1) (nI q) m = _
    rw [f4_numberRead_L27_s, if_pos (by decide : (-1 : Int32) < 0), ite_self]
theorem m_must1 {m : St} (h8 : m 25 18 = 0) : f4_must 1 m = (f4_next (up m 25 18 0)).bind fun z1 => some z1 := by
  unfold f4_must f4_must_b17
  rw [if_pos h8, if_neg (by decide : ¬ (1 : Int32) = 0), if_pos (Or.inl rfl), up_eq, if_pos rfl]
theorem m_must0 {m : St} (a : Int32) (h : m 25 18 = 0 ∧ a = 0 ∨ m 25 18 = 1) : f4_must a m = some (up m 25 18 1) := by
  unfold f4_must f4_must_b12 f4_must_b17
  rw [up_eq, if_pos (Or.inr rfl), if_neg (by decide : ¬ (1 : Int32) = 0)]
  rcases h with ⟨h1, h2⟩ | h1
  · rw [if_pos h1, if_pos h2]
  · rw [h1, if_neg (by decide : ¬ (1 : Int32) = 0)]
def NW' (q r : Nat) (m m' : St) : Prop := m' 25 16 = nI q ∧ m' 25 17 = nI r ∧ m' 25 18 = 0 ∧ (∀ i, i ≠ 16 → i ≠ 17 → i ≠ 18 → m' 25 i = m 25 i) ∧ ∀ k, k ≠ 25 → m' k = m k
theorem m_must_ok {β : Nat → Nat} {n p q r : Nat} {m : St} (hB : BM β n m) (hS : SK β n p q) (hE : ED β n q r) (h7 : m 25 17 = nI p) (h8 : m 25 18 = 0) : ∃ m', f4_must 1 m = some m' ∧ NW' q r m m' := by
  have hB' : BM β n (up m 25 18 0) := BM_fr hB (up_ne2 _ _ (by decide)) (up_cell _ _ _ (by decide))
  obtain ⟨m', q1, q2, q3, q4, q5⟩ := m_next hB' hS hE (by rw [up_ne2 _ _ (by decide)]; exact h7)
  refine ⟨m', ?_, q2, q3, ?_, fun i a b c => ?_, fun k hk => ?_⟩
  · rw [m_must1 h8, bd q1]
  · rw [q4 18 (by decide) (by decide), up_eq]
  · rw [q4 i a b, up_ne2 _ _ c]
  · rw [q5 k hk, up_cell _ _ _ hk]
def nOk (β : Nat → Nat) (n q r lo hi : Nat) : Prop := sr β n q = 2 ∧ lo ≤ tkV β n q r ∧ tkV β n q r ≤ hi
theorem m_num_ok {β : Nat → Nat} {n q r lo hi q' r' : Nat} {m : St} (hB : BM β n m) (hE : ED β n q r) (h6 : m 25 16 = nI q) (h7 : m 25 17 = nI r) (h8 : m 25 18 = 0) (hh : hi ≤ 99999) (ok : nOk β n q r lo hi) (hS : SK β n r q') (hE' : ED β n q' r') : ∃ m', f4_numberRead (nI lo) (nI hi) m = some (nI (tkV β n q r), m') ∧ NW' q' r' m m' := by
  obtain ⟨o1, o2, o3⟩ := ok
  obtain ⟨v1, v2⟩ := vx_vm (β := β) (q := q) (r - q) (ed_dig hE o1)
  have ev : vmN β q (r - q) = tkV β n q r := by
    unfold tkV at *
    rw [if_pos o1] at o3 ⊢
    omega
  obtain ⟨m', q1, q2⟩ := m_must_ok hB hS hE' h7 h8
  refine ⟨m', ?_, q2⟩
  rw [m_numR hB hE h6 h7, if_pos o1, ev]
  unfold f4_numberRead_b72
  rw [m_in, wi_iff.mpr ⟨nI_le o2 (by omega), nI_le o3 (by omega)⟩]
  show (f4_must 1 m).bind _ = _
  rw [bd q1]
theorem m_num_no {β : Nat → Nat} {n q r lo hi : Nat} {m : St} (hB : BM β n m) (hE : ED β n q r) (h6 : m 25 16 = nI q) (h7 : m 25 17 = nI r) (h8 : m 25 18 = 0) (hh : hi ≤ 99999) (hlo : lo ≤ 1) (no : ¬ nOk β n q r lo hi) : ∃ w, f4_numberRead (nI lo) (nI hi) m = some (w, up m 25 18 1) := by
  rw [m_numR hB hE h6 h7]
  refine ⟨if sr β n q = 2 then nI (vmN β q (r - q)) else -1, ?_⟩
  unfold f4_numberRead_b72
  have hw : wi (if sr β n q = 2 then nI (vmN β q (r - q)) else -1) (nI lo) (nI hi) = false := by
    cases hc : wi (if sr β n q = 2 then nI (vmN β q (r - q)) else -1) (nI lo) (nI hi) with
    | false => rfl
    | true =>
      exfalso
      have h1 := wi_iff.mp hc
      by_cases e : sr β n q = 2
      · rw [if_pos e] at h1
        obtain ⟨v1, v2⟩ := vx_vm (β := β) (q := q) (r - q) (ed_dig hE e)
        have a1 : vmN β q (r - q) ≤ hi := Nat.le_of_not_lt (fun z => nI_ge z (by omega) h1.2)
        have a2 : lo ≤ vmN β q (r - q) := by
          apply Nat.le_of_not_lt
          intro z
          exact nI_ge z (by omega) h1.1
        refine no ⟨e, ?_, ?_⟩ <;> unfold tkV <;> rw [if_pos e] <;> omega
      · rw [if_neg e] at h1
        have h2 := Int32.le_trans h1.1 h1.2
        have : (0 : Int32) ≤ nI lo := by rw [nl0]; exact nI_le (by omega) (by omega)
        exact absurd (Int32.le_trans this h1.1) (by decide)
  rw [m_in, hw]
  show (f4_must 0 m).bind _ = _
  rw [bd (m_must0 0 (Or.inl ⟨h8, rfl⟩))]
-- takes
theorem m_takesW (i : Nat) {m : St} (h8 : m 25 18 = 1) : f4_takes i m = some (0, m) := by
  unfold f4_takes
  rw [m_wordW i h8, Option.bind_some, if_pos rfl, if_pos (Or.inl rfl)]
theorem m_takes0 {β : Nat → Nat} {n i q r : Nat} {m : St} (hB : BM β n m) (hi : i < 17) (hE : ED β n q r) (h6 : m 25 16 = nI q) (h7 : m 25 17 = nI r) (h8 : m 25 18 = 0) (hw : wdB β n i q r = false) : f4_takes i m = some (0, m) := by
  unfold f4_takes
  rw [m_word hB hi hE h6 h7 h8, hw, Option.bind_some, if_pos (by decide : b01 false = 0), if_pos (by decide : b01 false = 0 ∨ b01 false = 1)]
  rfl
theorem m_takes1 {β : Nat → Nat} {n i q r q' r' : Nat} {m : St} (hB : BM β n m) (hi : i < 17) (hE : ED β n q r) (h6 : m 25 16 = nI q) (h7 : m 25 17 = nI r) (h8 : m 25 18 = 0) (hw : wdB β n i q r = true) (hS : SK β n r q') (hE' : ED β n q' r') : ∃ m', f4_takes i m = some (1, m') ∧ NW' q' r' m m' := by
  obtain ⟨m', q1, q2, q3, q4, q5⟩ := m_next hB hS hE' h7
  refine ⟨m', ?_, q2, q3, (q4 18 (by decide) (by decide)).trans h8, fun i a b _ => q4 i a b, q5⟩
  unfold f4_takes
  rw [m_word hB hi hE h6 h7 h8, hw, Option.bind_some, if_neg (by decide : ¬ b01 true = 0), bd q1, if_pos (by decide : b01 true = 0 ∨ b01 true = 1)]
  rfl
