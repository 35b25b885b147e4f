-- the model's next
theorem m_letter {β : Nat → Nat} {n k : Nat} {m : St} (h : BM β n m) (hk : k < 1000) : f4_isByte (nI k) (97 : Int32) (122 : Int32) m = some (b01 (decide (sr β n k = 1))) := by
  have := m_isByte h hk (a := 97) (b := 122) (by omega) (by omega)
  rw [show decide (sr β n k = 1) = decide (k < n ∧ 97 ≤ β k ∧ β k ≤ 122) by rw [decide_eq_decide]; exact sr1]
  exact this
theorem m_digit {β : Nat → Nat} {n k : Nat} {m : St} (h : BM β n m) (hk : k < 1000) : f4_isByte (nI k) (48 : Int32) (57 : Int32) m = some (b01 (decide (sr β n k = 2))) := by
  have := m_isByte h hk (a := 48) (b := 57) (by omega) (by omega)
  rw [show decide (sr β n k = 2) = decide (k < n ∧ 48 ≤ β k ∧ β k ≤ 57) by rw [decide_eq_decide]; exact sr2i]
  exact this
theorem BM_fr {β : Nat → Nat} {n : Nat} {m m' : St} (h : BM β n m) (e1 : m' 25 15 = m 25 15) (e2 : m' 31 = m 31) : BM β n m' := ⟨e1.trans h.1, h.2.1, fun i hi => by rw [e2]; exact h.2.2 i hi⟩
def NX (q r : Nat) (m m' : St) : Prop := m' 25 16 = nI q ∧ m' 25 17 = nI r ∧ (∀ i, i ≠ 16 → i ≠ 17 → m' 25 i = m 25 i) ∧ ∀ k, k ≠ 25 → m' k = m k
theorem m_run_L {β : Nat → Nat} {n q r : Nat} (hE : ED β n q r) (hr : r ≤ 120) : ∀ (d k F : Nat) (m : St), d + 1 ≤ F → k + d = r → q ≤ k → BM β n m → m 25 16 = nI q → m 25 17 = nI k → ((sr β n q = 1 ∨ sr β n q = 2) ∨ k = q) → ∃ m', f4_next_L70 F (b01 (decide (sr β n q = 1))) (b01 (decide (sr β n q = 2))) m = some m' ∧ NX q r m m'
  | d, k, 0, m, hF, hk, hq, hB, h6, h7, hc => by omega
  | d, k, F + 1, m, hF, hk, hq, hB, h6, h7, hc => by
    obtain ⟨e1, e2, e3, e4, e5⟩ := hE
    have hl := sr_le β n q
    have hn := hB.2.1
    have done : k = r → ∃ m', f4_next_b149 (m 25 17) m = some m' ∧ NX q r m m' := by
      intro e
      unfold f4_next_b149
      refine ⟨_, rfl, ?_, ?_, fun i h1 h2 => up_ne2 _ _ h2, fun a ha => up_cell _ _ _ ha⟩
      · rw [up_ne2 _ _ (by decide)]; exact h6
      · rw [up_eq, h7, e]; exact Int32.add_zero _
    have more : k < r → 1 ≤ d → (sr β n q = 1 ∨ sr β n q = 2) → ∃ m', f4_next_b108 (f4_next_L70 F) (b01 (decide (sr β n q = 1))) (b01 (decide (sr β n q = 2))) m = some m' ∧ NX q r m m' := by
      intro hkr hd hs
      unfold f4_next_b108
      rw [h7, nl1, nI_add]
      obtain ⟨m', q1, q2, q3, q4, q5⟩ := m_run_L ⟨e1, e2, e3, e4, e5⟩ hr (d - 1) (k + 1) F (up m 25 17 (nI (k + 1))) (by omega) (by omega) (by omega) (BM_fr hB (up_ne2 _ _ (by decide)) (up_cell _ _ _ (by decide))) (by rw [up_ne2 _ _ (by decide)]; exact h6) (up_eq _ _ _ _) (Or.inl hs)
      exact ⟨m', q1, q2, q3, fun i h1 h2 => by rw [q4 i h1 h2, up_ne2 _ _ h2], fun a ha => by rw [q5 a ha, up_cell _ _ _ ha]⟩
    rw [f4_next_L70_s, h7, bd (m_letter hB (by omega)), b01_0, b01_0]
    unfold f4_next_b89
    rw [h7, bd (m_digit hB (by omega)), b01_0, b01_0]
    unfold f4_next_b121
    rw [b01_0, b01_0]
    by_cases s1 : sr β n q = 1
    · obtain ⟨f1, f2, f3⟩ := e5 (Or.inl s1)
      rw [if_pos (by simp [s1])]
      by_cases hkr : k < r
      · rw [if_pos (by rw [f2 k hq hkr]; simp [s1])]
        exact more hkr (by omega) (Or.inl s1)
      · have ek : k = r := by omega
        rw [if_neg (by rw [ek]; simp; rw [← s1]; exact f3), if_neg (by simp [s1]), if_pos (by simp [s1])]
        exact done ek
    · rw [if_neg (by simp [s1])]
      by_cases s2 : sr β n q = 2
      · obtain ⟨f1, f2, f3⟩ := e5 (Or.inr s2)
        rw [if_pos (by simp [s2])]
        by_cases hkr : k < r
        · rw [if_pos (by rw [f2 k hq hkr]; simp [s2])]
          exact more hkr (by omega) (Or.inr s2)
        · have ek : k = r := by omega
          rw [if_neg (by rw [ek]; simp; rw [← s2]; exact f3), if_neg (by simp [s1]), if_pos (by simp [s2])]
          exact done ek
      · rw [if_neg (by simp [s2]), if_neg (by simp [s1]), if_neg (by simp [s2]), hB.1, h6]
        have ekq : k = q := by
          rcases hc with z | z
          · omega
          · exact z
        by_cases s0 : sr β n q = 0
        · have h0 := sr0.mp s0
          rw [i_le_t h0 (by omega)]
          exact done (by rw [e3 s0]; exact ekq)
        · have h0 : q < n := Nat.lt_of_not_le (fun z => s0 (sr0.mpr z))
          rw [i_le_f h0 (by omega), h7, nl1, nI_add, ekq, ← e4 (by omega)]
          exact ⟨_, rfl, by rw [up_ne2 _ _ (by decide)]; exact h6, up_eq _ _ _ _, fun i h1 h2 => up_ne2 _ _ h2, fun a ha => up_cell _ _ _ ha⟩
theorem m_skip_L {β : Nat → Nat} {n p q r : Nat} (hS : SK β n p q) (hE : ED β n q r) : ∀ (d k F : Nat) (m : St), d + 1 ≤ F → k + d = q → p ≤ k → BM β n m → m 25 16 = nI k → ∃ m', f4_next_L8 F m = some m' ∧ NX q r m m'
  | d, k, 0, m, hF, hk, hp, hB, h6 => by omega
  | 0, k, F + 1, m, hF, hk, hp, hB, h6 => by
    have hn := hB.2.1
    have hqn := hS.2.1
    have hr := hE.2.1
    have ek : k = q := hk
    have hb := m_isByte hB (k := k) (a := 32) (b := 32) (by omega) (by omega) (by omega)
    have hb' : f4_isByte (nI k) (32 : Int32) (32 : Int32) m = _ := hb
    have hB1 : BM β n (up m 25 17 (nI k)) := BM_fr hB (up_ne2 _ _ (by decide)) (up_cell _ _ _ (by decide))
    rw [f4_next_L8_s, h6, bd hb', b01_0, if_neg (by
      simp only [decide_eq_true_eq]
      rintro ⟨z1, z2, z3⟩
      rw [ek] at z1 z2 z3
      exact hS.2.2.2 ⟨z1, by omega⟩), up_ne2 _ _ (by decide), h6, bd (m_letter hB1 (by omega)), bd (m_digit hB1 (by omega)), ek]
    obtain ⟨m', q1, q2, q3, q4, q5⟩ := m_run_L hE (by omega) (r - q) q fu (up m 25 17 (nI q)) (by rw [fu_eq]; omega) (by have := hE.1; omega) (by omega) (by rw [← ek]; exact hB1) (by rw [up_ne2 _ _ (by decide), h6, ek]) (up_eq _ _ _ _) (Or.inr rfl)
    exact ⟨m', q1, q2, q3, fun i h1 h2 => by rw [q4 i h1 h2, up_ne2 _ _ h2], fun a ha => by rw [q5 a ha, up_cell _ _ _ ha]⟩
  | d + 1, k, F + 1, m, hF, hk, hp, hB, h6 => by
    have hn := hB.2.1
    have hq := hS.2.1
    have hb := m_isByte hB (k := k) (a := 32) (b := 32) (by omega) (by omega) (by omega)
    have hb' : f4_isByte (nI k) (32 : Int32) (32 : Int32) m = _ := hb
    have h32 := hS.2.2.1 k hp (by omega)
    rw [f4_next_L8_s, h6, bd hb', b01_0, if_pos (by
      simp only [decide_eq_true_eq]
      omega), nl1, nI_add]
    obtain ⟨m', q1, q2, q3, q4, q5⟩ := m_skip_L hS hE d (k + 1) F (up m 25 16 (nI (k + 1))) (by omega) (by omega) (by omega) (BM_fr hB (up_ne2 _ _ (by decide)) (up_cell _ _ _ (by decide))) (up_eq _ _ _ _)
    exact ⟨m', q1, q2, q3, fun i h1 h2 => by rw [q4 i h1 h2, up_ne2 _ _ h1], fun a ha => by rw [q5 a ha, up_cell _ _ _ ha]⟩
theorem m_next {β : Nat → Nat} {n p q r : Nat} {m : St} (hB : BM β n m) (hS : SK β n p q) (hE : ED β n q r) (h7 : m 25 17 = nI p) : ∃ m', f4_next m = some m' ∧ NX q r m m' := by
  have hn := hB.2.1
  have hq := hS.2.1
  unfold f4_next
  rw [h7]
  obtain ⟨m', q1, q2, q3, q4, q5⟩ := m_skip_L hS hE (q - p) p fu (up m 25 16 (nI p)) (by rw [fu_eq]; omega) (by have := hS.1; omega) (by omega) (BM_fr hB (up_ne2 _ _ (by decide)) (up_cell _ _ _ (by decide))) (up_eq _ _ _ _)
  exact ⟨m', q1, q2, q3, fun i h1 h2 => by rw [q4 i h1 h2, up_ne2 _ _ h1], fun a ha => by rw [q5 a ha, up_cell _ _ _ ha]⟩
-- words
def wLen (i : Nat) : Nat := sLen.getD i 0
def mtB (β : Nat → Nat) (n i q : Nat) : Nat → Nat → Bool
  | 0, _ => true
  | d + 1, k => decide (bAt β n (q + k) = sch i (nI k)) && mtB β n i q d (k + 1)
def wdB (β : Nat → Nat) (n i q r : Nat) : Bool := decide (sr β n q = 1) && decide (r - q = wLen i) && mtB β n i q (wLen i) 0
theorem wLen_le : ∀ i, i < 18 → wLen i ≤ 7 ∧ 1 ≤ wLen i := by decide
theorem x_word_L {β : Nat → Nat} {n i q : Nat} {x : St} (hB : BX β n x) (hi : i < 18) (hq : q ≤ 120) (h3 : x 13 3 = nI q) : ∀ (d k F : Nat), d + 1 ≤ F → k + d = wLen i → f1_isWord_L28 i F (nI k) x = some (b01 (mtB β n i q d k))
  | d, k, 0, hF, hk => by omega
  | 0, k, F + 1, hF, hk => by
    have hw := wLen_le i hi
    have hk' : k = wLen i := hk
    rw [f1_isWord_L28_s, show Int32.ofNat (sLen.getD i 0) = nI (wLen i) from rfl, i_le_t (by omega) (by omega)]
    rfl
  | d + 1, k, F + 1, hF, hk => by
    have hw := wLen_le i hi
    have ih := x_word_L hB hi hq h3 d (k + 1) F (by omega) (by omega)
    rw [f1_isWord_L28_s, show Int32.ofNat (sLen.getD i 0) = nI (wLen i) from rfl, i_le_f (by omega) (by omega), h3, nI_add, bd (x_byte hB (by omega)), if_neg (show ¬ (nI k < 0 ∨ sLen.getD i 0 ≤ (nI k).toNatClampNeg) from nI_in (N := wLen i) (by omega) (by omega)), nl1, nI_add]
    unfold mtB
    by_cases e : bAt β n (q + k) = sch i (nI k)
    · rw [if_pos e, ih, show decide (bAt β n (q + k) = sch i (nI k)) = true by simp [e], Bool.true_and]
    · rw [if_neg e, show decide (bAt β n (q + k) = sch i (nI k)) = false by simp [e], Bool.false_and]
      rfl
theorem x_word {β : Nat → Nat} {n i q r : Nat} {x : St} (hB : BX β n x) (hi : i < 18) (hE : ED β n q r) (h2 : x 13 2 = nI (sr β n q)) (h3 : x 13 3 = nI q) (h4 : x 13 4 = nI r) : f1_isWord i x = some (b01 (wdB β n i q r)) := by
  have hn := hB.2.1
  have hl := sr_le β n q
  have hw := wLen_le i hi
  have g1 := hE.1
  have g2 := hE.2.1
  unfold f1_isWord wdB
  rw [h2]
  by_cases e : sr β n q = 1
  · rw [nl1, i_eq_t e, h3, h4, pk_sub g1, show Int32.ofNat (sLen.getD i 0) = nI (wLen i) from rfl, show decide (sr β n q = 1) = true by simp [e], Bool.true_and]
    by_cases e2 : r - q = wLen i
    · rw [i_eq_t e2, show decide (r - q = wLen i) = true by simp [e2], Bool.true_and]
      exact x_word_L hB hi (by omega) h3 (wLen i) 0 fu (by rw [fu_eq]; omega) (by omega)
    · rw [i_eq_f e2 (by omega) (by omega), show decide (r - q = wLen i) = false by simp [e2], Bool.false_and]
      rfl
  · rw [nl1, i_eq_f e (by omega) (by omega), show decide (sr β n q = 1) = false by simp [e], Bool.false_and, Bool.false_and]
    rfl
theorem m_word0 (i F : Nat) (k : Int32) (m : St) : f4_isWord_L31 i (F + 1) 0 k m = some 0 := by
  rw [f4_isWord_L31_s, if_pos rfl, if_pos (Or.inl rfl)]
theorem m_word_L {β : Nat → Nat} {n i q : Nat} {m : St} (hB : BM β n m) (hi : i < 18) (hq : q + wLen i ≤ n) (h6 : m 25 16 = nI q) : ∀ (d k F : Nat), d + 2 ≤ F → k + d = wLen i → f4_isWord_L31 i F 1 (nI k) m = some (b01 (mtB β n i q d k))
  | d, k, 0, hF, hk => by omega
  | 0, k, F + 1, hF, hk => by
    have hw := wLen_le i hi
    have hk' : k = wLen i := hk
    rw [f4_isWord_L31_s, if_neg (by decide : ¬ (1 : Int32) = 0), show Int32.ofNat (sLen.getD i 0) = nI (wLen i) from rfl, i_le_t (by omega) (by omega), if_pos (Or.inr rfl)]
    rfl
  | d + 1, k, F + 1, hF, hk => by
    have hw := wLen_le i hi
    have hn := hB.2.1
    have ih := m_word_L hB hi hq h6 d (k + 1) F (by omega) (by omega)
    rw [f4_isWord_L31_s, if_neg (by decide : ¬ (1 : Int32) = 0), show Int32.ofNat (sLen.getD i 0) = nI (wLen i) from rfl, i_le_f (by omega) (by omega), h6, nI_add, if_neg (nI_in (by omega) (by omega)), if_neg (show ¬ (nI k < 0 ∨ sLen.getD i 0 ≤ (nI k).toNatClampNeg) from nI_in (N := wLen i) (by omega) (by omega)), nI_clamp (by omega), (hB.2.2 _ (by omega)).2]
    unfold f4_isWord_b67 mtB
    rw [show nI k + 1 = nI (k + 1) by rw [nl1, nI_add]]
    have hb : bAt β n (q + k) = nI (β (q + k)) := by unfold bAt; rw [if_pos (by omega)]
    rw [hb]
    by_cases e : nI (β (q + k)) = sch i (nI k)
    · rw [if_pos e, ih, show decide (nI (β (q + k)) = sch i (nI k)) = true by simp [e], Bool.true_and]
    · obtain ⟨F', hF'⟩ : ∃ F', F = F' + 1 := ⟨F - 1, by omega⟩
      rw [if_neg e, show decide (nI (β (q + k)) = sch i (nI k)) = false by simp [e], Bool.false_and, hF', m_word0]
      rfl
theorem m_wordR {β : Nat → Nat} {n i q r : Nat} {m : St} (hB : BM β n m) (hi : i < 18) (hE : ED β n q r) (h6 : m 25 16 = nI q) (h7 : m 25 17 = nI r) (h8 : m 25 18 = 0) : f4_isWord i m = some (b01 (decide (r - q = wLen i) && mtB β n i q (wLen i) 0)) := by
  have hn := hB.2.1
  have hw := wLen_le i hi
  have g1 := hE.1
  have g2 := hE.2.1
  unfold f4_isWord f4_isWord_b27 f4_isWord_b28
  rw [if_pos h8, h6, h7, pk_sub g1, show Int32.ofNat (sLen.getD i 0) = nI (wLen i) from rfl]
  by_cases e2 : r - q = wLen i
  · rw [i_eq_t e2, show decide (r - q = wLen i) = true by simp [e2], Bool.true_and]
    exact m_word_L hB hi (by omega) h6 (wLen i) 0 fu (by rw [fu_eq]; omega) (by omega)
  · rw [i_eq_f e2 (by omega) (by omega), show decide (r - q = wLen i) = false by simp [e2], Bool.false_and]
    exact m_word0 i 1099 _ m
theorem m_wordW (i : Nat) {m : St} (h8 : m 25 18 = 1) : f4_isWord i m = some 0 := by
  unfold f4_isWord f4_isWord_b27 f4_isWord_b28
  rw [h8, if_neg (by decide : ¬ (1 : Int32) = 0)]
  exact m_word0 i 1099 _ m
theorem sch_first : ∀ i, i < 17 → ∃ c, c < 123 ∧ 97 ≤ c ∧ sch i (nI 0) = nI c := by
  intro i hi
  have : ∀ i, i < 17 → (sch i (nI 0)).toInt.toNat < 123 ∧ 97 ≤ (sch i (nI 0)).toInt.toNat ∧ sch i (nI 0) = nI (sch i (nI 0)).toInt.toNat := by decide
  exact ⟨_, (this i hi).1, (this i hi).2.1, (this i hi).2.2⟩
theorem mt_first {β : Nat → Nat} {n i q : Nat} (hb : ∀ i, i < 120 → β i < 256) (hn : n ≤ 120) (hi : i < 17) (h : mtB β n i q (wLen i) 0 = true) : sr β n q = 1 := by
  have hw := wLen_le i (by omega)
  obtain ⟨d, hd⟩ : ∃ d, wLen i = d + 1 := ⟨wLen i - 1, by omega⟩
  rw [hd] at h
  unfold mtB at h
  rw [Bool.and_eq_true, decide_eq_true_eq, Nat.add_zero] at h
  obtain ⟨c, c1, c2, c3⟩ := sch_first i hi
  have h1 := h.1
  rw [c3] at h1
  unfold bAt at h1
  by_cases e : q < n
  · rw [if_pos e] at h1
    have h2 := hb q (by omega)
    have h3 := n_inj (by omega) (by omega) h1
    exact sr1.mpr ⟨e, by omega, by omega⟩
  · rw [if_neg e] at h1
    have : (0 : Int32) ≤ nI c := by rw [nl0]; exact nI_le (by omega) (by omega)
    rw [← h1] at this
    exact absurd this (by decide)
theorem m_word {β : Nat → Nat} {n i q r : Nat} {m : St} (hB : BM β n m) (hi : i < 17) (hE : ED β n q r) (h6 : m 25 16 = nI q) (h7 : m 25 17 = nI r) (h8 : m 25 18 = 0) : f4_isWord i m = some (b01 (wdB β n i q r)) := by
  rw [m_wordR hB (by omega) hE h6 h7 h8]
  unfold wdB
  cases h : mtB β n i q (wLen i) 0 with
  | false => rw [Bool.and_false, Bool.and_false]
  | true =>
    have := mt_first (fun j hj => (hB.2.2 j hj).1) hB.2.1 hi h
    rw [this]
    simp
theorem m_sign {β : Nat → Nat} {n q r : Nat} {m : St} (hB : BM β n m) (hE : ED β n q r) (h6 : m 25 16 = nI q) (h7 : m 25 17 = nI r) (h8 : m 25 18 = 0) : f4_isWord 17 m = some (b01 (decide (sr β n q = 3))) := by
  have hn := hB.2.1
  rw [m_wordR hB (by omega) hE h6 h7 h8]
  congr 2
  have hw : wLen 17 = 1 := rfl
  have hs : sch 17 (nI 0) = nI 59 := by decide
  rw [hw]
  unfold mtB mtB
  rw [hs, Nat.add_zero, Bool.and_true]
  rw [← Bool.decide_and, decide_eq_decide]
  constructor
  · rintro ⟨a, b⟩
    have hq : q < n := by have := hE.1; have := hE.2.1; omega
    unfold bAt at b
    rw [if_pos hq] at b
    have h2 := (hB.2.2 q (by omega)).1
    exact sr3.mpr ⟨hq, n_inj (by omega) (by omega) b⟩
  · intro z
    have z2 := sr3.mp z
    have := hE.2.2.2.1 (by omega)
    refine ⟨by omega, ?_⟩
    unfold bAt
    rw [if_pos z2.1, z2.2]
