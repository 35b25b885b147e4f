theorem R_fits {x m : St} (h : REL x m) (a b : Int32) : EQ (f3_fits a b x) (f4_fits a b m) := by
  have hh := h
  obtain ⟨⟨τ, hI, hM, hX, ⟨h9, h0, h6⟩, hz, hs⟩, hR⟩ := h
  have h8 := hI.1
  unfold f3_fits f4_fits f4_lacksFits
  rcases clsS a with ⟨e1, e2⟩ | ⟨j, hj, e⟩
  · have ew : f3_whyNotHeard a b x = -1000001 := by
      unfold f3_whyNotHeard
      rw [if_pos e1]
    rw [ew, m_lacksF e2, if_neg (by decide : ¬ (-1000001 : Int32) = 0)]
    exact EQf0 hh (fun _ _ => rfl) (fun _ _ => rfl)
  · subst e
    obtain ⟨bb, L, hb, hL, s1, s2, s3, s4, s5⟩ := hR.2.2.2 j hj
    have em : f4_in b.toInt64 1 999 = b01 (wi b 1 (nI 999)) := m_in b 1 999
    have ey : f3_isWithin b 1 999 = b01 (wi b 1 (nI 999)) := x_within b 1 999
    have ew : f3_whyNotHeard (nI j) b x = (if bb = 0 then (-1000006 : Int32) else if wi b 1 (nI 999) = true then (if τ 1 = 8 then (-1000005 : Int32) else 0) else (-1000001 : Int32)) := by
      unfold f3_whyNotHeard
      rw [if_neg (nI4_not hj), nI_clamp (by omega), x_missing s1 (by omega), ey, x_full hX hI, b01_0, b01_0, b01_0]
      by_cases e0 : bb = 0
      · simp [e0]
      · simp only [e0, decide_false, Bool.false_eq_true, if_false]
        cases wi b 1 (nI 999)
        · simp
        · by_cases e8 : τ 1 = 8
          · simp [e8]
          · simp [e8]
    rw [ew, m_lacksT hj s2 (by omega)]
    by_cases e0 : bb = 0
    · rw [if_pos e0, if_pos e0, if_neg (by decide : ¬ (-1000006 : Int32) = 0), Option.bind_some, if_neg (by decide : ¬ (5 : Int32) < 0), Option.bind_some, if_neg (by decide : ¬ (5 : Int32) < 0)]
      exact EQf5 hh (fun _ _ => rfl) (fun _ _ => rfl)
    · rw [if_neg e0, if_neg e0, Option.bind_some, if_pos (by decide : (-1 : Int32) < 0), em]
      rcases cls1 b 999 (by omega) with e | ⟨v, hv1, hv, e⟩
      · rw [e, if_neg (by decide : ¬ false = true), if_neg (by decide : ¬ (-1000001 : Int32) = 0), if_pos (by decide : b01 false = 0), Option.bind_some, if_neg (by decide : ¬ (0 : Int32) < 0)]
        exact EQf0 hh (fun _ _ => rfl) (fun _ _ => rfl)
      · subst e
        rw [wi_t1 hv1 hv (by omega), if_pos (rfl : true = true), if_neg (by decide : ¬ b01 true = 0), if_neg g119_1, m_many hM]
        by_cases e8 : τ 1 = 8
        · rw [e8, if_pos (rfl : 8 = 8), if_neg (by decide : ¬ (-1000005 : Int32) = 0), if_pos (by decide : nI 8 = 8), Option.bind_some, if_neg (by decide : ¬ (4 : Int32) < 0)]
          exact EQf4 hh (fun _ _ => rfl) (fun _ _ => rfl)
        · rw [if_neg e8, if_pos (rfl : (0 : Int32) = 0), if_neg (show ¬ nI (τ 1) = 8 from fun z => e8 (n_inj (by omega) (by omega) z)), Option.bind_some, if_pos (by decide : (-1 : Int32) < 0)]
          obtain ⟨m', p1, p2, p3, p4⟩ := m_findFits hM hI (by omega) hj hL s4 (fun i => m 34 (40 * j + i)) (fun _ _ => rfl) hv
          rw [bd p1]
          obtain ⟨x', q1, q2⟩ := x_fits_L hX hI (by omega) hj hL s3 (fun i => m 34 (40 * j + i)) s5 hv 112 0 fu x (by rw [fu_eq]; omega) (by omega) (XI_refl x)
          have q1' : f3_fits_L23 fu (nI j) (nI v) (0 : Int32) (0 : Int32) x = _ := q1
          rw [q1', p3]
          exact EQs (REL_vi hh q2 p2) _
theorem R_said {x m : St} (h : REL x m) (a b : Int32) : EQ (f3_said a b x) (f4_said a b m) := by
  have hh := h
  obtain ⟨⟨τ, hI, hM, hX, ⟨h9, h0, h6⟩, hz, hs⟩, hR⟩ := h
  have h8 := hI.1
  unfold f3_said f4_said f4_lacksFits
  rcases clsS a with ⟨e1, e2⟩ | ⟨j, hj, e⟩
  · have ew : f3_whyNotHeard a b x = -1000001 := by
      unfold f3_whyNotHeard
      rw [if_pos e1]
    rw [ew, m_lacksF e2, if_neg (by decide : ¬ (-1000001 : Int32) = 0)]
    exact EQf0 hh (fun _ _ => rfl) (fun _ _ => rfl)
  · subst e
    obtain ⟨bb, L, hb, hL, s1, s2, s3, s4, s5⟩ := hR.2.2.2 j hj
    have em : f4_in b.toInt64 1 999 = b01 (wi b 1 (nI 999)) := m_in b 1 999
    have ey : f3_isWithin b 1 999 = b01 (wi b 1 (nI 999)) := x_within b 1 999
    have ew : f3_whyNotHeard (nI j) b x = (if bb = 0 then (-1000006 : Int32) else if wi b 1 (nI 999) = true then (if τ 1 = 8 then (-1000005 : Int32) else 0) else (-1000001 : Int32)) := by
      unfold f3_whyNotHeard
      rw [if_neg (nI4_not hj), nI_clamp (by omega), x_missing s1 (by omega), ey, x_full hX hI, b01_0, b01_0, b01_0]
      by_cases e0 : bb = 0
      · simp [e0]
      · simp only [e0, decide_false, Bool.false_eq_true, if_false]
        cases wi b 1 (nI 999)
        · simp
        · by_cases e8 : τ 1 = 8
          · simp [e8]
          · simp [e8]
    rw [ew, m_lacksT hj s2 (by omega)]
    by_cases e0 : bb = 0
    · rw [if_pos e0, if_pos e0, if_neg (by decide : ¬ (-1000006 : Int32) = 0), Option.bind_some, if_neg (by decide : ¬ (5 : Int32) < 0), Option.bind_some, if_neg (by decide : ¬ (5 : Int32) < 0)]
      exact EQf5 hh (fun _ _ => rfl) (fun _ _ => rfl)
    · rw [if_neg e0, if_neg e0, Option.bind_some, if_pos (by decide : (-1 : Int32) < 0), em]
      rcases cls1 b 999 (by omega) with e | ⟨v, hv1, hv, e⟩
      · rw [e, if_neg (by decide : ¬ false = true), if_neg (by decide : ¬ (-1000001 : Int32) = 0), if_pos (by decide : b01 false = 0), Option.bind_some, if_neg (by decide : ¬ (0 : Int32) < 0)]
        exact EQf0 hh (fun _ _ => rfl) (fun _ _ => rfl)
      · subst e
        rw [wi_t1 hv1 hv (by omega), if_pos (rfl : true = true), if_neg (by decide : ¬ b01 true = 0), if_neg g119_1, m_many hM]
        by_cases e8 : τ 1 = 8
        · rw [e8, if_pos (rfl : 8 = 8), if_neg (by decide : ¬ (-1000005 : Int32) = 0), if_pos (by decide : nI 8 = 8), Option.bind_some, if_neg (by decide : ¬ (4 : Int32) < 0)]
          exact EQf4 hh (fun _ _ => rfl) (fun _ _ => rfl)
        · rw [if_neg e8, if_pos (rfl : (0 : Int32) = 0), if_neg (show ¬ nI (τ 1) = 8 from fun z => e8 (n_inj (by omega) (by omega) z)), Option.bind_some, if_pos (by decide : (-1 : Int32) < 0)]
          obtain ⟨m', p1, p2, p3, p4⟩ := m_findFits hM hI (by omega) hj hL s4 (fun i => m 34 (40 * j + i)) (fun _ _ => rfl) hv
          rw [bd p1]
          exact R_said_L hh hX hI (by omega) hj hL s3 (fun i => m 34 (40 * j + i)) s5 hv p2 p4 112 0 fu x (by rw [fu_eq]; omega) (by omega) (XI_refl x) rfl
