theorem up_cell (x : St) {k a : Nat} (i : Nat) (v : Int32) (h : a ≠ k) : up x k i v a = x a := uR_ne _ _ h
def RM (m m' : St) : Prop := (∀ k, k ≠ 25 → k ≠ 26 → m' k = m k) ∧ (∀ i, i ≠ 5 → m' 25 i = m 25 i) ∧ ∀ i, (i < 85 ∨ 109 ≤ i) → m' 26 i = m 26 i
theorem RM_refl (m : St) : RM m m := ⟨fun _ _ _ => rfl, fun _ _ => rfl, fun _ _ => rfl⟩
theorem RM_trans {a b c : St} (h : RM a b) (g : RM b c) : RM a c := ⟨fun k h1 h2 => (g.1 k h1 h2).trans (h.1 k h1 h2), fun i hi => (g.2.1 i hi).trans (h.2.1 i hi), fun i hi => (g.2.2 i hi).trans (h.2.2 i hi)⟩
theorem m_b95 {z9 : St} {τ9 : Nat → Nat} (k8 : Int32 → Int32 → Int32 → St → Option St) (hT : TM (z9 26) τ9) {w : Nat} (hw : w < 8) (b2 w1 w2 : Int32) : f4_rolls_b95 k8 (nI w) b2 w1 w2 z9 = k8 (nI w) (b2 + (-1 : Int32)) (if noA τ9 (qu τ9 w 1) then 1 else 0) (up z9 25 5 (w1 ||| w2)) := by
  have h26 : up z9 25 5 (w1 ||| w2) 26 = z9 26 := up_cell _ _ _ (by decide)
  have hT' : TM (up z9 25 5 (w1 ||| w2) 26) τ9 := by rw [h26]; exact hT
  unfold f4_rolls_b95 f4_rolls_b122
  rw [if_neg (by decide), bd (m_its1 hT' hw), h26, show (3 : Int32).toNatClampNeg = 3 from rfl, hT 3 (by omega) (by omega) (by omega)]
  unfold noA
  by_cases e : ((nI (τ9 3) >>> (nI (qu τ9 w 1) &&& 31)) &&& (1 : Int32)) = 0
  · rw [if_pos e, if_pos (by simp [e])]
  · rw [if_neg e, if_neg (by simp [e])]
set_option maxHeartbeats 1000000 in
theorem m_roll_L {w : Nat} (hw : w < 8) : ∀ (n : Nat) (τ : Nat → Nat) (m : St) (F : Nat), n + 2 ≤ F → TM (m 26) τ → IT τ → n < 1000 → ∃ m', f4_rolls_L8 F (nI w) (nI n) 1 m = some m' ∧ TM (m' 26) (rollN w n τ) ∧ RM m m' ∧ m' 25 5 = (if nI w = m 25 6 then m 25 5 ||| nI (wayN w n τ) else m 25 5)
  | n, τ, m, 0, hF, hT, hI, hi => by omega
  | n, τ, m, 1, hF, hT, hI, hi => by omega
  | 0, τ, m, F + 2, hF, hT, hI, hi => by
    refine ⟨m, ?_, hT, RM_refl m, ?_⟩
    · rw [f4_rolls_L8_s, if_pos (by decide)]
    · unfold wayN
      rw [← nl0, i_or0, ite_self]
  | n + 1, τ, m, F + 2, hF, hT, hI, hi => by
    have h1 := it_w hI hw
    have hn := nxt_lt hI hw
    have hg := sGath_le hI hw
    have hs := sSteep_le hI (c := qu τ w 1) (by omega)
    have e0 : ¬ (nI (n + 1) ≤ 0) := by rw [nl0]; exact nI_ge (by omega) (by omega)
    rw [f4_rolls_L8_s, if_neg e0, if_neg (by decide), bd (m_its1 hT hw), bd (m_steep hT hI (by omega))]
    unfold rollN wayN
    by_cases h0 : sSteep τ (qu τ w 1) = 0
    · refine ⟨m, ?_, ?_, RM_refl m, ?_⟩
      · rw [h0, if_pos (by decide : nI 0 ≤ 0)]
      · rw [if_pos h0]; exact hT
      · rw [if_pos h0, ← nl0, i_or0, ite_self]
    · have e1 : ¬ (nI (sSteep τ (qu τ w 1)) ≤ 0) := by rw [nl0]; exact nI_ge (by omega) (by omega)
      rw [if_neg e1, if_neg h0, if_neg h0, bd (m_its2 hT hw), bd (m_gath hT hI hw), nI_add, nl999, i_min (by omega) (by omega), bd (m_sets2 hw)]
      have hT6 := TM_up hT (85 + 3 * w + 2) (min (qu τ w 2 + sGath τ w) 999)
      rw [bd (m_its1 hT6 hw), qu_up (by omega), bd (m_part1 hT6 (c := qu τ w 1) (by omega)), tr_up (by omega) (by omega) (by omega), bd (m_sets1 hw)]
      have hT9 := TM_up hT6 (85 + 3 * w + 1) (nxt τ w)
      have f5 : up (up m 26 (85 + 3 * w + 2) (nI (min (qu τ w 2 + sGath τ w) 999))) 26 (85 + 3 * w + 1) (nI (nxt τ w)) 25 = m 25 := by
        rw [up_cell _ _ _ (by decide), up_cell _ _ _ (by decide)]
      have hq9 : qu (upN (upN τ (85 + 3 * w + 2) (min (qu τ w 2 + sGath τ w) 999)) (85 + 3 * w + 1) (nxt τ w)) w 1 = nxt τ w := qu_upe
      have key : ∀ W : Int32, ∃ m', f4_rolls_b95 (f4_rolls_L8 (F + 1)) (nI w) (nI (n + 1)) (m 25 5) W (up (up m 26 (85 + 3 * w + 2) (nI (min (qu τ w 2 + sGath τ w) 999))) 26 (85 + 3 * w + 1) (nI (nxt τ w))) = some m' ∧ TM (m' 26) (if noA τ (nxt τ w) then rollN w n (stepR w τ) else stepR w τ) ∧ RM m m' ∧ m' 25 5 = (if nI w = m 25 6 then (m 25 5 ||| W) ||| nI (if noA τ (nxt τ w) then wayN w n (stepR w τ) else 0) else m 25 5 ||| W) := by
        intro W
        rw [m_b95 _ hT9 hw, hq9, i_dec (by omega) (by omega), show n + 1 - 1 = n by omega]
        have hA3 : noA (upN (upN τ (85 + 3 * w + 2) (min (qu τ w 2 + sGath τ w) 999)) (85 + 3 * w + 1) (nxt τ w)) (nxt τ w) = noA τ (nxt τ w) := by
          unfold noA
          rw [upN_ne _ _ (by omega), upN_ne _ _ (by omega)]
        have hT10 : TM (up (up (up m 26 (85 + 3 * w + 2) (nI (min (qu τ w 2 + sGath τ w) 999))) 26 (85 + 3 * w + 1) (nI (nxt τ w))) 25 5 (m 25 5 ||| W) 26) (stepR w τ) := by
          rw [up_cell _ _ _ (by decide)]
          exact hT9
        have hRM : RM m (up (up (up m 26 (85 + 3 * w + 2) (nI (min (qu τ w 2 + sGath τ w) 999))) 26 (85 + 3 * w + 1) (nI (nxt τ w))) 25 5 (m 25 5 ||| W)) := by
          refine ⟨fun k a b => ?_, fun i a => ?_, fun i a => ?_⟩
          · rw [up_cell _ _ _ a, up_cell _ _ _ b, up_cell _ _ _ b]
          · rw [up_ne2 _ _ a, f5]
          · rw [up_ne1 _ _ _ _ (by decide), up_ne2 _ _ (by omega), up_ne2 _ _ (by omega)]
        rw [hA3]
        by_cases hA : noA τ (nxt τ w) = true
        · rw [if_pos hA, if_pos hA, if_pos hA]
          obtain ⟨m', q1, q2, q3, q4⟩ := m_roll_L hw n (stepR w τ) _ (F + 1) (by omega) hT10 (st_it hI hw) (by omega)
          refine ⟨m', q1, q2, RM_trans hRM q3, ?_⟩
          rw [q4, up_eq, up_ne2 _ _ (by decide), f5]
        · rw [if_neg hA, if_neg hA, if_neg hA]
          refine ⟨_, ?_, hT10, hRM, ?_⟩
          · rw [f4_rolls_L8_s]
            by_cases hz : nI n ≤ 0
            · rw [if_pos hz]
            · rw [if_neg hz, if_pos rfl]
          · rw [up_eq, ← nl0, i_or0, ite_self]
      change ∃ m', (if nI w = (up (up m 26 (85 + 3 * w + 2) (nI (min (qu τ w 2 + sGath τ w) 999))) 26 (85 + 3 * w + 1) (nI (nxt τ w))) 25 6 then (f4_its (nI w) (1 : Int32) (up (up m 26 (85 + 3 * w + 2) (nI (min (qu τ w 2 + sGath τ w) 999))) 26 (85 + 3 * w + 1) (nI (nxt τ w)))).bind fun v10 => f4_rolls_b95 (f4_rolls_L8 (F + 1)) (nI w) (nI (n + 1)) (up (up m 26 (85 + 3 * w + 2) (nI (min (qu τ w 2 + sGath τ w) 999))) 26 (85 + 3 * w + 1) (nI (nxt τ w)) 25 5) ((1 : Int32) <<< (v10 &&& 31)) (up (up m 26 (85 + 3 * w + 2) (nI (min (qu τ w 2 + sGath τ w) 999))) 26 (85 + 3 * w + 1) (nI (nxt τ w))) else f4_rolls_b95 (f4_rolls_L8 (F + 1)) (nI w) (nI (n + 1)) (up (up m 26 (85 + 3 * w + 2) (nI (min (qu τ w 2 + sGath τ w) 999))) 26 (85 + 3 * w + 1) (nI (nxt τ w)) 25 5) 0 (up (up m 26 (85 + 3 * w + 2) (nI (min (qu τ w 2 + sGath τ w) 999))) 26 (85 + 3 * w + 1) (nI (nxt τ w)))) = some m' ∧ _
      rw [f5]
      by_cases hW : nI w = m 25 6
      · rw [if_pos hW, bd (m_its1 hT9 hw), hq9]
        obtain ⟨m', q1, q2, q3, q4⟩ := key ((1 : Int32) <<< (nI (nxt τ w) &&& 31))
        refine ⟨m', q1, q2, q3, ?_⟩
        rw [q4, if_pos hW, if_pos hW, i_orA, i_shl _ hn, i_or]
      · rw [if_neg hW]
        obtain ⟨m', q1, q2, q3, q4⟩ := key 0
        refine ⟨m', q1, q2, q3, ?_⟩
        rw [q4, if_neg hW, if_neg hW, i_or0]
