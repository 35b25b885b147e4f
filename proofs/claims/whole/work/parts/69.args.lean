theorem i_toInt64_lt {a b : Int32} : a.toInt64 < b.toInt64 ↔ a < b := by
  rw [Int64.lt_iff_toInt_lt, Int32.lt_iff_toInt_lt, Int32.toInt_toInt64, Int32.toInt_toInt64]
def wi (a lo hi : Int32) : Bool := decide (lo ≤ a) && decide (a ≤ hi)
theorem i_nlt {a b : Int32} : ¬ a < b ↔ b ≤ a := Int32.not_lt
theorem wi_iff {a lo hi : Int32} : wi a lo hi = true ↔ lo ≤ a ∧ a ≤ hi := by unfold wi; simp
theorem x_within (a lo hi : Int32) : f3_isWithin a lo hi = b01 (wi a lo hi) := by
  unfold f3_isWithin b01
  by_cases h1 : a < lo
  · rw [if_pos h1, if_neg]
    intro z
    exact absurd (wi_iff.mp z).1 (fun q => i_nlt.mpr q h1)
  · rw [if_neg h1]
    by_cases h2 : hi < a
    · rw [if_pos h2, if_neg]
      intro z
      exact absurd (wi_iff.mp z).2 (fun q => i_nlt.mpr q h2)
    · rw [if_neg h2, if_pos]
      exact wi_iff.mpr ⟨i_nlt.mp h1, i_nlt.mp h2⟩
theorem m_in (a lo hi : Int32) : f4_in a.toInt64 lo.toInt64 hi.toInt64 = b01 (wi a lo hi) := by
  rw [← x_within]
  unfold f4_in f3_isWithin
  by_cases h1 : a < lo
  · rw [if_pos ((lg_cmp_lt _ _).mpr (i_toInt64_lt.mpr h1)), if_pos h1]
  · rw [if_neg (fun q => h1 (i_toInt64_lt.mp ((lg_cmp_lt _ _).mp q))), if_neg h1]
    by_cases h2 : hi < a
    · rw [if_pos ((lg_cmp_gt _ _).mpr (i_toInt64_lt.mpr h2)), if_pos h2]
    · rw [if_neg (fun q => h2 (i_toInt64_lt.mp ((lg_cmp_gt _ _).mp q))), if_neg h2]
theorem cls0 (a : Int32) (N : Nat) (hN : N < 2147483647) : wi a 0 (nI N) = false ∨ ∃ n, n ≤ N ∧ a = nI n := by
  by_cases h : wi a 0 (nI N) = true
  · right
    obtain ⟨h1, h2⟩ := wi_iff.mp h
    have g2 : ¬ nI (N + 1) ≤ a := by
      intro z
      have h3 := Int32.le_trans z h2
      exact nI_ge (by omega) (by omega) h3
    obtain ⟨j, hj, e, _⟩ := pk_mu (x := a) (L := N + 1) (fun z => i_nlt.mpr h1 z) g2 (by omega)
    exact ⟨j, by omega, e⟩
  · left
    simpa using h
theorem wi_t {n N : Nat} (h : n ≤ N) (hN : N < 2147483648) : wi (nI n) 0 (nI N) = true := wi_iff.mpr ⟨by rw [nl0]; exact nI_le (by omega) (by omega), nI_le h hN⟩
theorem wi_f {n N : Nat} (h : N < n) (hn : n < 2147483648) : wi (nI n) 0 (nI N) = false := by
  have : ¬ wi (nI n) 0 (nI N) = true := fun z => nI_ge h hn (wi_iff.mp z).2
  simpa using this
theorem cls1 (a : Int32) (N : Nat) (hN : N < 2147483647) : wi a 1 (nI N) = false ∨ ∃ n, 1 ≤ n ∧ n ≤ N ∧ a = nI n := by
  by_cases h : wi a 1 (nI N) = true
  · right
    obtain ⟨h1, h2⟩ := wi_iff.mp h
    have h0 : wi a 0 (nI N) = true := wi_iff.mpr ⟨Int32.le_trans (by decide) h1, h2⟩
    rcases cls0 a N hN with g | ⟨n, hn, e⟩
    · rw [h0] at g; exact absurd g (by decide)
    · refine ⟨n, ?_, hn, e⟩
      rcases Nat.eq_zero_or_pos n with z | z
      · rw [e, z] at h1
        exact absurd h1 (by decide)
      · exact z
  · left
    simpa using h
theorem wi_t1 {n N : Nat} (h1 : 1 ≤ n) (h : n ≤ N) (hN : N < 2147483648) : wi (nI n) 1 (nI N) = true := wi_iff.mpr ⟨by rw [nl1]; exact nI_le h1 (by omega), nI_le h hN⟩
theorem b01_t : b01 true = 1 := rfl
theorem b01_f : b01 false = 0 := rfl
-- the asked ones
theorem x_isCorner (a : Int32) : f3_isCorner a = b01 (wi a 0 (nI 15)) := x_within a 0 15
theorem x_isKind (a : Int32) : f3_isKind a = b01 (wi a 0 (nI 6)) := x_within a 0 6
theorem x_isSet (a : Int32) : f3_isSet a = b01 (wi a 0 (nI 65535)) := x_within a 0 65535
theorem m_isCorner (a : Int32) : f4_isCorner a = b01 (wi a 0 (nI 15)) := m_in a 0 15
theorem m_isKind (a : Int32) : f4_isKind a = b01 (wi a 0 (nI 6)) := m_in a 0 6
theorem m_isSet (a : Int32) : f4_isSet a = b01 (wi a 0 (nI 65535)) := m_in a 0 65535
theorem m_isAhead (a : Int32) : f4_isAhead a = b01 (wi a 0 (nI 100)) := m_in a 0 100
theorem m_isShort (a : Int32) : f4_isShort a = b01 (wi a 0 (nI 40)) := m_in a 0 40
theorem m_isSpot (a : Int32) : f4_isSpot a = b01 (wi a 0 (nI 9)) := m_in a 0 9
theorem m_isSheet (a : Int32) : f4_isSheet a = b01 (wi a 0 (nI 3)) := m_in a 0 3
-- a whisper's number
def isW (τ : Nat → Nat) (a : Int32) : Bool := decide (0 ≤ a) && decide (a < nI (τ 1))
theorem clsW {τ : Nat → Nat} (hI : IT τ) (a : Int32) : isW τ a = false ∨ ∃ w, w < τ 1 ∧ a = nI w := by
  have h8 := hI.1
  by_cases h : isW τ a = true
  · right
    unfold isW at h
    simp only [Bool.and_eq_true, decide_eq_true_eq] at h
    obtain ⟨j, hj, e, _⟩ := pk_mu (x := a) (L := τ 1) (fun z => i_nlt.mpr h.1 z) (fun z => i_nlt.mpr z h.2) (by omega)
    exact ⟨j, hj, e⟩
  · left
    simpa using h
theorem isW_t {τ : Nat → Nat} (hI : IT τ) {w : Nat} (hw : w < τ 1) : isW τ (nI w) = true := by
  have h8 := hI.1
  unfold isW
  simp only [Bool.and_eq_true, decide_eq_true_eq]
  exact ⟨by rw [nl0]; exact nI_le (by omega) (by omega), nI_lt hw (by omega)⟩
theorem x_hasW {x : St} {t : Nat} {τ : Nat → Nat} (hT : TX x t τ) (a : Int32) : f2_hasWhisper t a x = b01 (isW τ a) := by
  unfold f2_hasWhisper b01 isW
  rw [hT.2.2.1]
  by_cases h1 : a < 0
  · rw [if_pos h1, if_neg]
    simp only [Bool.and_eq_true, decide_eq_true_eq]
    exact fun z => i_nlt.mpr z.1 h1
  · rw [if_neg h1]
    by_cases h2 : nI (τ 1) ≤ a
    · rw [if_pos h2, if_neg]
      simp only [Bool.and_eq_true, decide_eq_true_eq]
      exact fun z => i_nlt.mpr h2 z.2
    · rw [if_neg h2, if_pos]
      simp only [Bool.and_eq_true, decide_eq_true_eq]
      exact ⟨i_nlt.mp h1, Int32.not_le.mp h2⟩
theorem m_isW {m : St} {τ : Nat → Nat} (hT : TM (m 26) τ) (hI : IT τ) (a : Int32) : f4_isWhisper a m = some (b01 (isW τ a)) := by
  have h8 := hI.1
  unfold f4_isWhisper
  have e0 : (0 : Int64) = (0 : Int32).toInt64 := rfl
  rw [if_neg (by decide), m_many hT, e0, m_in]
  congr 2
  rcases Nat.eq_zero_or_pos (τ 1) with z | z
  · unfold wi isW
    rw [z]
    by_cases h1 : (0 : Int32) ≤ a
    · have g1 : ¬ a ≤ nI 0 - 1 := fun q => absurd (Int32.le_trans h1 q) (by decide)
      have g2 : ¬ a < nI 0 := fun q => i_nlt.mpr h1 q
      simp [g1, g2]
    · simp [h1]
  · rw [nl1, pk_sub (by omega)]
    by_cases h : isW τ a = true
    · rw [h]
      rcases clsW hI a with g | ⟨w, hw, e⟩
      · rw [h] at g; exact absurd g (by decide)
      · rw [e]; exact wi_t (by omega) (by omega)
    · rcases cls0 a (τ 1 - 1) (by omega) with g | ⟨n, hn, e⟩
      · rw [g]; simpa using h
      · exfalso
        rw [e] at h
        exact h (isW_t hI (by omega))
