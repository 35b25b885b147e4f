theorem x_roll_L {t w : Nat} (hw : w < 8) : ∀ (n : Nat) (τ : Nat → Nat) (x : St) (F way i : Nat), n + 1 ≤ F → TX x t τ → IT τ → i + n < 1000 → ∃ x', f2_roll_L11 t F (nI w) (nI (i + n)) (nI way) (nI i) x = some (nI (way ||| wayN w n τ), x') ∧ TX x' t (rollN w n τ) ∧ ∀ k, k ≠ 3 + 4 * t → x' k = x k
  | 0, τ, x, 0, way, i, hF, hT, hI, hi => by omega
  | n + 1, τ, x, 0, way, i, hF, hT, hI, hi => by omega
  | 0, τ, x, F + 1, way, i, hF, hT, hI, hi => by
    refine ⟨x, ?_, hT, fun _ _ => rfl⟩
    rw [f2_roll_L11_s, i_le_t (by omega) (by omega)]
    unfold wayN
    rw [Nat.or_zero]
  | n + 1, τ, x, F + 1, way, i, hF, hT, hI, hi => by
    have h1 := it_w hI hw
    have hn := nxt_lt hI hw
    have hg := sGath_le hI hw
    have hs := sSteep_le hI (c := qu τ w 1) (by omega)
    rw [f2_roll_L11_s, i_le_f (by omega) (by omega), bd (x_its1 hT hw), bd (x_steep hT hI (by omega))]
    unfold rollN wayN
    by_cases h0 : sSteep τ (qu τ w 1) = 0
    · refine ⟨x, ?_, ?_, fun _ _ => rfl⟩
      · rw [h0, if_pos (by decide : nI 0 = 0), if_pos rfl, Nat.or_zero]
      · rw [if_pos h0]; exact hT
    · rw [nl0, i_eq_f h0 (by omega) (by omega), if_neg h0, if_neg h0, bd (x_its2 hT hw), bd (x_gath hT hI hw), nI_add, nl999, i_mn (b := 0) (by omega), bd (x_setQ2 hw)]
      have hT6 := TX_upq hT (k := 2) (min (qu τ w 2 + sGath τ w) 999) hw (by omega)
      rw [bd (x_part1 hT6 (c := qu τ w 1) (by omega)), tr_up (by omega) (by omega) (by omega), bd (x_setQ1 hw)]
      have hT8 := TX_upq hT6 (k := 1) (nxt τ w) hw (by omega)
      have e4 := hT8.2.2.2.1
      rw [upN_ne _ _ (by omega), upN_ne _ _ (by omega)] at e4
      have hfr : ∀ k, k ≠ 3 + 4 * t → up (up x (3 + 4 * t) (3 * w + 2) (nI (min (qu τ w 2 + sGath τ w) 999))) (3 + 4 * t) (3 * w + 1) (nI (nxt τ w)) k = x k := by
        intro k hk
        funext j
        rw [up_ne1 _ _ _ _ hk, up_ne1 _ _ _ _ hk]
      have ew : nI way ||| ((1 : Int32) <<< (nI (nxt τ w) &&& 31)) = nI (way ||| 2 ^ nxt τ w) := by rw [i_shl _ hn, i_or]
      have ea : f3_isIn (nI (τ 3)) (nI (nxt τ w)) = if noA τ (nxt τ w) then 0 else 1 := by
        unfold f3_isIn noA
        by_cases e : ((nI (τ 3) >>> (nI (nxt τ w) &&& 31)) &&& (1 : Int32)) = 0
        · rw [if_pos e, if_pos (by simp [e])]
        · rw [if_neg e, if_neg (by simp [e])]
      change ∃ x', (if f3_isIn (up (up x (3 + 4 * t) (3 * w + 2) (nI (min (qu τ w 2 + sGath τ w) 999))) (3 + 4 * t) (3 * w + 1) (nI (nxt τ w)) (1 + 4 * t) 4) (nI (nxt τ w)) = nI 0 then _ else some (nI way ||| ((1 : Int32) <<< (nI (nxt τ w) &&& 31)), _)) = _ ∧ _ ∧ _
      rw [e4, ea]
      by_cases hA : noA τ (nxt τ w) = true
      · rw [if_pos hA, if_pos hA, if_pos hA, if_pos (by decide : (0 : Int32) = nI 0)]
        obtain ⟨x', q1, q2, q3⟩ := x_roll_L hw n (stepR w τ) _ F (way ||| 2 ^ nxt τ w) (i + 1) (by omega) hT8 (st_it hI hw) (by omega)
        refine ⟨x', ?_, q2, fun k hk => (q3 k hk).trans (hfr k hk)⟩
        rw [← Nat.or_assoc, ← q1, ← ew, nl1, nI_add, show i + 1 + n = i + (n + 1) by omega]
        rfl
      · rw [if_neg hA, if_neg hA, if_neg hA, if_neg (by decide : ¬ (1 : Int32) = nI 0)]
        exact ⟨_, by rw [Nat.or_zero, ← ew]; rfl, hT8, hfr⟩
