theorem R_as {x m : St} (h : REL x m) (a b : Int32) : EQ (f3_as a b x) (f4_as a b m) := by
  have hh := h
  obtain ⟨⟨τ, hI, hM, hX, ⟨h9, h0, h6⟩, hz, hs⟩, hR⟩ := h
  have hW : TW x 0 (m 26) τ := ⟨hI, hM, hX, ⟨h9, h0, h6⟩, hz, hs⟩
  have h8 := hI.1
  unfold f3_as f4_as f3_as_b17 f4_as_b14
  have ex : f3_isWithin a 0 9 = b01 (wi a 0 (nI 9)) := x_within a 0 9
  rw [ex, m_isSpot, x_isKind, m_isKind]
  rcases cls0 a 9 (by omega) with e | ⟨k, hk, e⟩
  · simp only [e, b01_f, n00, if_true]
    exact EQf0 hh (fun _ _ => rfl) (fun _ _ => rfl)
  · subst e
    simp only [wi_t hk (by omega), b01_t, n10, if_false]
    rcases cls0 b 6 (by omega) with e | ⟨j, hj, e⟩
    · simp only [e, b01_f, n00, if_true]
      exact EQf0 hh (fun _ _ => rfl) (fun _ _ => rfl)
    · subst e
      simp only [wi_t hj (by omega), b01_t, n10, if_false]
      have hh1 : f2_heldIn 0 (nI k) x = some (m 26 (109 + k)) := by
        unfold f2_heldIn
        rw [if_neg (show ¬ nI k < 0 by rw [nl0]; exact nI_nlt (by omega) (by omega)), if_neg (show ¬ (10 : Int32) ≤ nI k by rw [nl10]; exact nI_ge (by omega) (by omega)), if_neg (nI_in (by omega) (by omega)), nI_clamp (by omega), (hs k (by omega)).1]
      rw [bd hh1, nl109, nI_add, if_neg (nI_in (by omega) (by omega)), nI_clamp (by omega)]
      rcases (hs k (by omega)).2 with e | ⟨w, hw, e⟩
      · rw [e, if_neg (by decide : ¬ (0 : Int32) ≤ -1), if_neg (by decide : ¬ (0 : Int32) ≤ -1)]
        exact EQf5 hh (fun _ _ => rfl) (fun _ _ => rfl)
      · have e0 : (0 : Int32) ≤ nI w := by rw [nl0]; exact nI_le (by omega) (by omega)
        have hq := it_w hI hw
        obtain ⟨u1, bb, u2⟩ := under_eq x (qu τ w 0) (by omega) j (by omega)
        rw [e, if_pos e0, if_pos e0, bd (x_its0 hX hw), bd (m_its0 hM hw), u1, u2, Option.bind_some, Option.bind_some, b01_0, b01_0]
        cases bb
        · exact EQf2 hh (fun _ _ => rfl) (fun _ _ => rfl)
        · exact EQs hh _
-- the tape is empty; nothing is kept
theorem R_wipe {x m : St} (h : REL x m) : (f3_wipe x).1 = (f4_wipe m).1 ∧ REL (f3_wipe x).2 (f4_wipe m).2 := by
  obtain ⟨⟨τ, hW⟩, ⟨k1, k2⟩, f1, ⟨n, t1, t2, t3, t4⟩, s1⟩ := h
  refine ⟨t2.trans t3.symm, ?_⟩
  show REL (up x 13 1 0) (up m 25 15 0)
  have ex : ∀ a, a ≠ 13 → up x 13 1 0 a = x a := fun a ha => up_cell _ _ _ ha
  have em : ∀ a, a ≠ 25 → up m 25 15 0 a = m a := fun a ha => up_cell _ _ _ ha
  refine ⟨⟨τ, ?_⟩, ⟨?_, ?_⟩, ?_, ⟨0, by omega, ?_, ?_, ?_⟩, ?_⟩
  · rw [em 26 (by omega)]
    exact TW_fr hW (ex _ (by omega)) (ex _ (by omega)) (ex _ (by omega)) (ex _ (by omega)) (fun _ _ => rfl)
  · rw [ex 0 (by omega), up_ne2 _ _ (by decide), k1]
  · rw [up_ne2 _ _ (by decide), em 27 (by omega)]
    rcases k2 with k2 | ⟨k2, τ, k3⟩
    · exact Or.inl k2
    · exact Or.inr ⟨k2, τ, TW_fr k3 (ex _ (by omega)) (ex _ (by omega)) (ex _ (by omega)) (ex _ (by omega)) (fun _ _ => rfl)⟩
  · intro i hi
    rw [ex 24 (by omega), em 29 (by omega), f1 i hi]
  · rw [up_eq]; rfl
  · rw [up_eq]; rfl
  · rw [ex 14 (by omega), em 31 (by omega)]
    exact t4
  · intro j hj
    rw [ex (16 + 2 * j) (by omega), ex (17 + 2 * j) (by omega), em 32 (by omega), em 33 (by omega), em 34 (by omega)]
    exact s1 j hj
theorem REL_kept {x m x' m' : St} (h : REL x m) (v : Int32) (hv : v = 0 ∨ v = 1 ∧ ∃ τ, TW x' 1 (m' 27) τ) (ex : ∀ a, a ≠ 0 → a ≠ 5 → a ≠ 6 → a ≠ 7 → a ≠ 8 → x' a = x a) (ex0 : x' 0 3 = v) (em : ∀ a, a ≠ 25 → a ≠ 27 → m' a = m a) (em2 : ∀ i, i ≠ 3 → m' 25 i = m 25 i) (em3 : m' 25 3 = v) : REL x' m' := by
  obtain ⟨⟨τ, hW⟩, ⟨k1, k2⟩, f1, ⟨n, t1, t2, t3, t4⟩, s1⟩ := h
  refine ⟨⟨τ, ?_⟩, ⟨?_, ?_⟩, ?_, ⟨n, t1, ?_, ?_, ?_⟩, ?_⟩
  · rw [em 26 (by omega) (by omega)]
    exact TW_fr hW (ex _ (by omega) (by omega) (by omega) (by omega) (by omega)) (ex _ (by omega) (by omega) (by omega) (by omega) (by omega)) (ex _ (by omega) (by omega) (by omega) (by omega) (by omega)) (ex _ (by omega) (by omega) (by omega) (by omega) (by omega)) (fun _ _ => rfl)
  · rw [ex0, em3]
  · rw [em3]; exact hv
  · intro i hi
    rw [ex 24 (by omega) (by omega) (by omega) (by omega) (by omega), em 29 (by omega) (by omega), f1 i hi]
  · rw [ex 13 (by omega) (by omega) (by omega) (by omega) (by omega), t2]
  · rw [em2 15 (by omega), t3]
  · rw [ex 14 (by omega) (by omega) (by omega) (by omega) (by omega), em 31 (by omega) (by omega)]
    exact t4
  · intro j hj
    rw [ex (16 + 2 * j) (by omega) (by omega) (by omega) (by omega) (by omega), ex (17 + 2 * j) (by omega) (by omega) (by omega) (by omega) (by omega), em 32 (by omega) (by omega), em 33 (by omega) (by omega), em 34 (by omega) (by omega)]
    exact s1 j hj
theorem R_tear {x m : St} (h : REL x m) : (f3_tear x).1 = (f4_tear m).1 ∧ REL (f3_tear x).2 (f4_tear m).2 := by
  have hr : REL (up x 0 3 0) (up m 25 3 0) := REL_kept h 0 (Or.inl rfl) (fun a h0 _ _ _ _ => up_cell _ _ _ h0) (up_eq _ _ _ _) (fun a h0 _ => up_cell _ _ _ h0) (fun i hi => up_ne2 _ _ hi) (up_eq _ _ _ _)
  unfold f3_tear f4_tear f3_tear_b12 f4_tear_b12
  rw [h.2.1.1]
  by_cases e : m 25 3 = 0
  · rw [if_pos e, if_pos e]
    exact ⟨rfl, hr⟩
  · rw [if_neg e, if_neg e]
    exact ⟨rfl, hr⟩
