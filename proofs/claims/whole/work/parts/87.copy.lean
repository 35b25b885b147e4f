-- copy
def hB (a n : Int32) (L : Nat) : Bool := decide (0 ≤ a) && decide (0 ≤ n) && decide (a.toInt + n.toInt ≤ L)
theorem x_hasN {x : St} {j L : Nat} (g : x (16 + 2 * j) 2 = nI L) (hL : L ≤ 40) (a n : Int32) : f0_hasNumbers j a n x = b01 (hB a n L) := by
  unfold f0_hasNumbers hB
  by_cases h1 : a < 0
  · rw [if_pos h1, show decide (0 ≤ a) = false by simpa using Int32.not_le.mpr h1]
    rfl
  · rw [if_neg h1]
    have h1' := i_nlt.mp h1
    rw [show decide (0 ≤ a) = true by simpa using h1', Bool.true_and]
    by_cases h2 : n < 0
    · rw [if_pos h2, show decide (0 ≤ n) = false by simpa using Int32.not_le.mpr h2]
      rfl
    · rw [if_neg h2]
      have h2' := i_nlt.mp h2
      rw [show decide (0 ≤ n) = true by simpa using h2', Bool.true_and]
      obtain ⟨p, hp, ep⟩ := nneg a h1'
      obtain ⟨q, hq, eq⟩ := nneg n h2'
      subst ep
      subst eq
      rw [g, nl40, i_lt_f (show L ≤ 40 from hL) (by omega), nI_toInt (by omega), nI_toInt (by omega)]
      by_cases h3 : L < p
      · rw [i_lt_t h3 (by omega), show decide ((p : Int) + (q : Int) ≤ (L : Int)) = false by simp; omega]
        rfl
      · rw [i_lt_f (by omega) (by omega), pk_sub (by omega)]
        by_cases h4 : L - p < q
        · rw [i_lt_t h4 (by omega), show decide ((p : Int) + (q : Int) ≤ (L : Int)) = false by simp; omega]
          rfl
        · rw [i_lt_f (by omega) (by omega), show decide ((p : Int) + (q : Int) ≤ (L : Int)) = true by simp; omega]
          rfl
theorem l_sum_gt {p q L : Nat} (hp : p < 2147483648) (hq : q < 2147483648) (hL : L ≤ 40) : (0 < lg_cmp ((nI p).toInt64 + (nI q).toInt64) (nI L).toInt64) ↔ L < p + q := by
  rw [lg_cmp_gt, Int64.lt_iff_toInt_lt, Int64.toInt_add, Int32.toInt_toInt64, Int32.toInt_toInt64, Int32.toInt_toInt64, nI_toInt (by omega), nI_toInt (by omega), nI_toInt (by omega), Int.bmod_eq_of_le (by omega) (by omega)]
  omega
theorem m_cp1_L {s f n : Nat} (k1 k2 k3 k4 : Int32) (hs : s < 4) (hf : f + n ≤ 40) : ∀ (d k F : Nat) (m : St), d + 1 ≤ F → k + d = n → ∃ m', f4_copy_L135 F (nI s) (nI f) k3 k4 (nI n) (nI k) m = f4_copy_L172 fu k3 k4 (nI n) (0 : Int32) m' ∧ (∀ i, i < n → k ≤ i → m' 35 i = m 34 (40 * s + f + i)) ∧ (∀ i, i < k → m' 35 i = m 35 i) ∧ ∀ a, a ≠ 35 → m' a = m a
  | d, k, 0, m, hF, hk => by omega
  | 0, k, F + 1, m, hF, hk => by
    rw [f4_copy_L135_s, i_le_t (by omega) (by omega)]
    exact ⟨m, rfl, fun i h1 h2 => by omega, fun _ _ => rfl, fun _ _ => rfl⟩
  | d + 1, k, F + 1, m, hF, hk => by
    have e : ((40 : Int32) * nI s + nI f) + nI k = nI (40 * s + f + k) := by rw [nl40, pk_mul, nI_add, nI_add]
    rw [f4_copy_L135_s, i_le_f (by omega) (by omega), e, if_neg (nI_in (by omega) (by omega)), if_neg (nI_in (by omega) (by omega)), nI_clamp (by omega), nI_clamp (by omega), nl1, nI_add]
    obtain ⟨m', q1, q2, q3, q4⟩ := m_cp1_L k1 k2 k3 k4 hs hf d (k + 1) F (up m 35 k (m 34 (40 * s + f + k))) (by omega) (by omega)
    refine ⟨m', q1, fun i h1 h2 => ?_, fun i h1 => ?_, fun a ha => (q4 a ha).trans (up_cell _ _ _ ha)⟩
    · by_cases e2 : i = k
      · rw [q3 i (by omega), e2, up_eq]
      · rw [q2 i h1 (by omega), up_cell _ _ _ (by omega)]
    · rw [q3 i (by omega), up_ne2 _ _ (by omega)]
theorem m_cp2_L {t g n : Nat} (ht : t < 4) (hg : g + n ≤ 40) : ∀ (d k F : Nat) (m : St), d + 1 ≤ F → k + d = n → ∃ m', f4_copy_L172 F (nI t) (nI g) (nI n) (nI k) m = some (nI n, m') ∧ (∀ i, i < n → k ≤ i → m' 34 (40 * t + g + i) = m 35 i) ∧ (∀ q, (q < 40 * t + g + k ∨ 40 * t + g + n ≤ q) → m' 34 q = m 34 q) ∧ ∀ a, a ≠ 34 → m' a = m a
  | d, k, 0, m, hF, hk => by omega
  | 0, k, F + 1, m, hF, hk => by
    rw [f4_copy_L172_s, i_le_t (by omega) (by omega)]
    exact ⟨m, rfl, fun i h1 h2 => by omega, fun _ _ => rfl, fun _ _ => rfl⟩
  | d + 1, k, F + 1, m, hF, hk => by
    have e : ((40 : Int32) * nI t + nI g) + nI k = nI (40 * t + g + k) := by rw [nl40, pk_mul, nI_add, nI_add]
    rw [f4_copy_L172_s, i_le_f (by omega) (by omega), e, if_neg (nI_in (by omega) (by omega)), if_neg (nI_in (by omega) (by omega)), nI_clamp (by omega), nI_clamp (by omega), nl1, nI_add]
    obtain ⟨m', q1, q2, q3, q4⟩ := m_cp2_L ht hg d (k + 1) F (up m 34 (40 * t + g + k) (m 35 k)) (by omega) (by omega)
    refine ⟨m', q1, fun i h1 h2 => ?_, fun q hq => ?_, fun a ha => (q4 a ha).trans (up_cell _ _ _ ha)⟩
    · by_cases e2 : i = k
      · rw [e2, q3 _ (by omega), up_eq]
      · rw [q2 i h1 (by omega), up_cell _ _ _ (by omega)]
    · rw [q3 q (by omega), up_ne2 _ _ (by omega)]
theorem R_copy_ok {x m : St} (h : REL x m) {s t f g n : Nat} (hs : s < 4) (ht : t < 4) (hf : f + n ≤ 40) (hg : g + n ≤ 40) : EQ (some (nI n, uR x (17 + 2 * t) (va_cpy (x (17 + 2 * s)) (x (17 + 2 * t)) f g n))) (f4_copy_L135 fu (nI s) (nI f) (nI t) (nI g) (nI n) (0 : Int32) m) := by
  obtain ⟨m1, p1, p2, _, p4⟩ := m_cp1_L (nI s) (nI f) (nI t) (nI g) hs hf n 0 fu m (by rw [fu_eq]; omega) (by omega)
  obtain ⟨m2, q1, q2, q3, q4⟩ := m_cp2_L ht hg n 0 fu m1 (by rw [fu_eq]; omega) (by omega)
  have p1' : f4_copy_L135 fu (nI s) (nI f) (nI t) (nI g) (nI n) (0 : Int32) m = some (nI n, m2) := p1.trans q1
  rw [p1']
  refine EQs (REL_sh h (fun a ha => uR_ne _ _ (by omega)) (fun a h1 h2 h3 h4 => (q4 a h3).trans (p4 a h4)) (fun k hk => ?_)) _
  obtain ⟨b, L, g1, g2, g3, g4, g5, g6, g7⟩ := h.2.2.2.2 k hk
  obtain ⟨_, _, _, _, _, _, _, _, s7⟩ := h.2.2.2.2 s hs
  refine ⟨b, L, g1, g2, ?_, ?_, ?_, ?_, fun i hi => ?_⟩
  · rw [uR_ne _ _ (by omega)]; exact g3
  · rw [q4 32 (by omega), p4 32 (by omega)]; exact g4
  · rw [uR_ne _ _ (by omega)]; exact g5
  · rw [q4 33 (by omega), p4 33 (by omega)]; exact g6
  · by_cases e : k = t
    · subst e
      rw [uR_eq]
      unfold va_cpy
      by_cases e2 : g ≤ i ∧ i < g + n
      · rw [if_pos e2, s7 _ (by omega)]
        have := q2 (i - g) (by omega) (by omega)
        rw [show 40 * k + g + (i - g) = 40 * k + i by omega, p2 (i - g) (by omega) (by omega)] at this
        rw [this, Nat.add_assoc]
      · rw [if_neg e2, g7 i hi, q3 _ (by omega), p4 34 (by omega)]
    · rw [uR_ne _ _ (by omega), g7 i hi, q3 _ (by omega), p4 34 (by omega)]
theorem R_copy {x m : St} (h : REL x m) (a f b g n : Int32) : EQ (f3_copy a f b g n x) (f4_copy a f b g n m) := by
  unfold f3_copy f4_copy
  have bey : EQ (f3_copy_b24 x) (f4_copy_b14 m) := EQf0 h (fun _ _ => rfl) (fun _ _ => rfl)
  have mis : EQ (f3_copy_b47 x) (f4_copy_b38 m) := EQf5 h (fun _ _ => rfl) (fun _ _ => rfl)
  have wrong : EQ (f3_copy_b97 x) (f4_copy_b118 a f b g n m) := by
    unfold f4_copy_b118 f4_copy_b119
    rw [if_pos rfl]
    exact EQf0 h (fun _ _ => rfl) (fun _ _ => rfl)
  rw [m_isSheet, m_isSheet]
  rcases clsS a with ⟨e1, e2⟩ | ⟨s, hs, e⟩
  · rw [if_pos e1, ite_self, e2, if_pos (by decide : b01 false = 0)]
    exact bey
  · rw [e] at wrong ⊢
    rw [if_neg (nI4_not hs), wi_t (by omega) (by omega), if_neg (by decide : ¬ b01 true = 0)]
    rcases clsS b with ⟨e1, e2⟩ | ⟨t, ht, e'⟩
    · rw [if_pos e1, e2, if_pos (by decide : b01 false = 0)]
      exact bey
    · rw [e'] at wrong ⊢
      obtain ⟨sb, sL, s1, s2, s3, s4, s5, s6, s7⟩ := h.2.2.2.2 s hs
      obtain ⟨tb, tL, t1, t2, t3, t4, t5, t6, t7⟩ := h.2.2.2.2 t ht
      rw [if_neg (nI4_not ht), wi_t (by omega) (by omega), if_neg (by decide : ¬ b01 true = 0), nI_clamp (by omega), nI_clamp (by omega), x_missing s3 (by omega), x_missing t3 (by omega), b01_0, b01_0]
      simp only [ixF hs (show s < 2147483648 by omega), ixF ht (show t < 2147483648 by omega), if_false]
      rw [s4, t4, s3, t3, s6, t6]
      by_cases es : sb = 0
      · rw [if_pos (by simp [es]), es, if_pos (by decide : nI 0 = 0)]
        exact mis
      · rw [if_neg (by simp [es]), if_neg (show ¬ nI sb = 0 from fun z => es (n_inj (by omega) (by omega) z))]
        by_cases et : tb = 0
        · rw [if_pos (by simp [et]), et, if_pos (by decide : nI 0 = 0)]
          exact mis
        · rw [if_neg (by simp [et]), if_neg (show ¬ nI tb = 0 from fun z => et (n_inj (by omega) (by omega) z))]
          by_cases eb : nI sb = nI tb
          · rw [if_pos eb, if_pos eb, x_hasN s5 s2, x_hasN t5 t2, b01_0, b01_0]
            unfold hB
            by_cases hn : n < 0
            · rw [if_pos hn, show decide (0 ≤ n) = false by simpa using Int32.not_le.mpr hn]
              simp only [Bool.and_false, Bool.false_and, Bool.false_eq_true, if_false]
              exact wrong
            · have hn' := i_nlt.mp hn
              rw [if_neg hn, show decide (0 ≤ n) = true by simpa using hn']
              by_cases hf : f < 0
              · rw [if_pos hf, show decide (0 ≤ f) = false by simpa using Int32.not_le.mpr hf]
                simp only [Bool.false_and, Bool.false_eq_true, if_false]
                exact wrong
              · have hf' := i_nlt.mp hf
                rw [if_neg hf, show decide (0 ≤ f) = true by simpa using hf']
                by_cases hg : g < 0
                · rw [if_pos hg, show decide (0 ≤ g) = false by simpa using Int32.not_le.mpr hg]
                  simp only [Bool.false_and, Bool.false_eq_true, if_false, ite_self]
                  exact wrong
                · have hg' := i_nlt.mp hg
                  rw [if_neg hg, show decide (0 ≤ g) = true by simpa using hg']
                  obtain ⟨q, hq, en⟩ := nneg n hn'
                  obtain ⟨p, hp, ef⟩ := nneg f hf'
                  obtain ⟨r, hr, eg⟩ := nneg g hg'
                  subst en
                  subst ef
                  subst eg
                  rw [nI_toInt (by omega), nI_toInt (by omega), nI_toInt (by omega)]
                  simp only [Bool.true_and, decide_eq_true_eq]
                  by_cases h1 : p + q ≤ sL
                  · have l1 : ¬ (0 < lg_cmp ((nI p).toInt64 + (nI q).toInt64) (nI sL).toInt64) := fun z => by have := (l_sum_gt hp hq s2).mp z; omega
                    rw [if_pos (show (p : Int) + (q : Int) ≤ (sL : Int) by omega), if_neg l1]
                    by_cases h2 : r + q ≤ tL
                    · have n1 : ¬ (nI p < 0 ∨ nI r < 0 ∨ nI q < 0 ∨ 40 < (nI p).toNatClampNeg + (nI q).toNatClampNeg ∨ 40 < (nI r).toNatClampNeg + (nI q).toNatClampNeg) := by
                        rw [nI_clamp (by omega), nI_clamp (by omega), nI_clamp (by omega)]
                        rintro (z | z | z | z | z)
                        · exact hf z
                        · exact hg z
                        · exact hn z
                        · omega
                        · omega
                      have l2 : ¬ (0 < lg_cmp ((nI r).toInt64 + (nI q).toInt64) (nI tL).toInt64) := fun z => by have := (l_sum_gt hr hq t2).mp z; omega
                      rw [if_pos (show (r : Int) + (q : Int) ≤ (tL : Int) by omega), if_neg l2, if_neg n1, nI_clamp (by omega), nI_clamp (by omega), nI_clamp (by omega)]
                      unfold f4_copy_b119
                      rw [if_neg (by decide : ¬ (1 : Int32) = 0)]
                      exact R_copy_ok h hs ht (by omega) (by omega)
                    · rw [if_neg (show ¬ (r : Int) + (q : Int) ≤ (tL : Int) by omega), if_pos ((l_sum_gt hr hq t2).mpr (by omega))]
                      exact wrong
                  · rw [if_neg (show ¬ (p : Int) + (q : Int) ≤ (sL : Int) by omega), if_pos ((l_sum_gt hp hq s2).mpr (by omega))]
                    exact wrong
          · rw [if_neg eb, if_neg eb]
            exact EQf2 h (fun _ _ => rfl) (fun _ _ => rfl)
