-- some minutes ahead
theorem R_ahead {x m : St} (h : REL x m) (a b : Int32) : EQ (f3_ahead a b x) (f4_ahead a b m) := by
  have hh := h
  obtain ⟨⟨τ, hI, hM, hX, ⟨h9, h0, h6⟩, hz, hs⟩, hR⟩ := h
  have h8 := hI.1
  unfold f3_ahead f4_ahead f3_ahead_b21 f4_ahead_b15
  have ex : f3_isWithin b 0 100 = b01 (wi b 0 (nI 100)) := x_within b 0 100
  rw [x_hasW hX, bd (m_isW hM hI a), ex, m_isAhead]
  rcases clsW hI a with e | ⟨w, hw, e⟩
  · simp only [e, b01_f, n00, if_true]
    exact EQf0 hh (fun _ _ => rfl) (fun _ _ => rfl)
  · subst e
    simp only [isW_t hI hw, b01_t, n10, if_false]
    rcases cls0 b 100 (by omega) with e | ⟨n, hn, e⟩
    · simp only [e, b01_f, n00, if_true]
      exact EQf0 hh (fun _ _ => rfl) (fun _ _ => rfl)
    · subst e
      simp only [wi_t hn (by omega), b01_t, n10, if_false]
      obtain ⟨x1, q1, q2, q3⟩ := x_lends hX
      obtain ⟨x2, r1, r2, _, r4, _⟩ := x_pass (n := n) (by omega) q2 hI
      obtain ⟨m1, p1, p2, p3, p4⟩ := m_lends m
      obtain ⟨m2, s1, s2, s3, _, _⟩ := m_mins (m := m1) n (by omega) (by rw [p3]; exact hM) hI
      obtain ⟨m3, t1, t2, _⟩ := m_lays (TR_min p2 s3)
      rw [bd q1, bd r1, bd p1, bd s1, bd (m_its1 s2 (by omega)), bd t1]
      refine ⟨nI (qu (mins n τ) w 1), x2, m3, ?_, rfl, REL_tr hh (XI_trans q3 (XI_pass r4)) t2⟩
      exact bd (x_its1 r2 (by omega))
theorem m_loudBy {m : St} {τ : Nat → Nat} (hM : TM (m 26) τ) (hI : IT τ) {c n : Nat} (hc : c < 16) (hn : n < 1000) : ∃ m', f4_loudBy (nI c) (nI n) m = some (nI (sLoud (mins n τ) c), m') ∧ MI m m' := by
  obtain ⟨m1, p1, p2, p3, p4⟩ := m_lends m
  obtain ⟨m2, s1, s2, s3, _, _⟩ := m_mins (m := m1) n hn (by rw [p3]; exact hM) hI
  obtain ⟨m3, t1, t2, _⟩ := m_lays (TR_min p2 s3)
  unfold f4_loudBy
  rw [bd p1, bd s1, bd (m_loud s2 (ms_it n hI) hc), bd t1]
  exact ⟨m3, rfl, t2⟩
theorem R_loud {x m : St} (h : REL x m) (a b : Int32) : EQ (f3_loud a b x) (f4_loud a b m) := by
  have hh := h
  obtain ⟨⟨τ, hI, hM, hX, ⟨h9, h0, h6⟩, hz, hs⟩, hR⟩ := h
  unfold f3_loud f4_loud f3_loud_b17 f4_loud_b23
  have ex : f3_isWithin b 0 100 = b01 (wi b 0 (nI 100)) := x_within b 0 100
  rw [x_isCorner, m_isCorner, ex, m_isAhead]
  rcases cls0 a 15 (by omega) with e | ⟨c, hc, e⟩
  · simp only [e, b01_f, n00, if_true]
    exact EQf0 hh (fun _ _ => rfl) (fun _ _ => rfl)
  · subst e
    simp only [wi_t hc (by omega), b01_t, n10, if_false]
    rcases cls0 b 100 (by omega) with e | ⟨n, hn, e⟩
    · simp only [e, b01_f, n00, if_true]
      exact EQf0 hh (fun _ _ => rfl) (fun _ _ => rfl)
    · subst e
      simp only [wi_t hn (by omega), b01_t, n10, if_false]
      obtain ⟨x1, q1, q2, q3⟩ := x_lends hX
      obtain ⟨x2, r1, r2, _, r4, _⟩ := x_pass (n := n) (by omega) q2 hI
      obtain ⟨m3, p1, p2⟩ := m_loudBy hM hI (by omega : c < 16) (by omega : n < 1000)
      rw [bd q1, bd r1, bd p1]
      refine ⟨nI (sLoud (mins n τ) c), x2, m3, ?_, rfl, REL_tr hh (XI_trans q3 (XI_pass r4)) p2⟩
      exact bd (x_loud r2 (ms_it n hI) (by omega))
-- heard
theorem R_heard_L {x0 m0 : St} (h : REL x0 m0) {c : Nat} (hc : c < 16) : ∀ (d n F : Nat) (τ : Nat → Nat) (x m : St), d + 1 ≤ F → n + d = 101 → TX x 2 τ → TM (m 26) τ → IT τ → XI x0 x → TR m0 m → EQ (f3_heard_L27 F (nI c) (nI n) x) (f4_heard_L19 F (nI c) (nI n) m)
  | d, n, 0, τ, x, m, hF, hn, hX, hM, hI, hx, hm => by omega
  | 0, n, F + 1, τ, x, m, hF, hn, hX, hM, hI, hx, hm => by
    obtain ⟨m3, t1, t2, _⟩ := m_lays hm
    rw [f3_heard_L27_s, f4_heard_L19_s, nl100, i_lt_t (by omega) (by omega), i_lt_t (by omega) (by omega)]
    unfold f4_heard_b43
    rw [bd t1, nl100, i_lt_t (by omega) (by omega)]
    exact EQf3 (REL_tr h hx t2) (fun _ _ => rfl) (fun _ _ => rfl)
  | d + 1, n, F + 1, τ, x, m, hF, hn, hX, hM, hI, hx, hm => by
    rw [f3_heard_L27_s, f4_heard_L19_s, nl100, i_lt_f (by omega) (by omega), i_lt_f (by omega) (by omega), bd (x_heard hX hI hc), bd (m_heard hM hI hc), b01_0, b01_0]
    by_cases e : sHeard τ c = true
    · rw [if_pos e, if_pos e]
      obtain ⟨m3, t1, t2, _⟩ := m_lays hm
      unfold f4_heard_b43
      rw [bd t1, nl100, i_lt_f (by omega) (by omega)]
      exact EQs (REL_tr h hx t2) _
    · rw [if_neg e, if_neg e]
      obtain ⟨x2, r1, r2, _, r4, _⟩ := x_pass (n := 1) (by omega) hX hI
      obtain ⟨m2, s1, s2, s3, _, _⟩ := m_min hM hI
      rw [nl1, bd r1, bd s1, nI_add]
      exact R_heard_L h hc d (n + 1) F (sMin τ) x2 m2 (by omega) (by omega) r2 s2 (sm_it hI) (XI_trans hx (XI_pass r4)) (TR_min hm s3)
theorem R_heard {x m : St} (h : REL x m) (a : Int32) : EQ (f3_heard a x) (f4_heard a m) := by
  have hh := h
  obtain ⟨⟨τ, hI, hM, hX, ⟨h9, h0, h6⟩, hz, hs⟩, hR⟩ := h
  unfold f3_heard f4_heard
  rw [x_isCorner, m_isCorner]
  rcases cls0 a 15 (by omega) with e | ⟨c, hc, e⟩
  · simp only [e, b01_f, n00, if_true]
    exact EQf0 hh (fun _ _ => rfl) (fun _ _ => rfl)
  · subst e
    simp only [wi_t hc (by omega), b01_t, n10, if_false]
    obtain ⟨x1, q1, q2, q3⟩ := x_lends hX
    obtain ⟨m1, p1, p2, p3, p4⟩ := m_lends m
    rw [bd q1, bd p1]
    exact R_heard_L hh (by omega) 101 0 fu τ x1 m1 (by rw [fu_eq]; omega) (by omega) q2 (by rw [p3]; exact hM) hI q3 p2
-- still
def stB (τ : Nat → Nat) : Nat → Bool
  | 0 => true
  | k + 1 => stB τ k && decide (sWay k τ = 0)
theorem stB_mov (τ : Nat → Nat) : ∀ k, stB τ k = decide (movW k τ = 0)
  | 0 => by unfold stB movW; simp
  | k + 1 => by
    unfold stB movW
    rw [stB_mov τ k]
    by_cases e : movW k τ = 0
    · rw [mi_mov k e, e, Nat.zero_or]
      simp
    · have e2 : ¬ (movW k τ ||| sWay k (minW k τ)) = 0 := fun z => e (Nat.or_eq_zero_iff.mp z).1
      simp [e, e2]
theorem sw0_iff {τ : Nat → Nat} {w : Nat} : sWay w τ = 0 ↔ sSteep τ (qu τ w 1) = 0 ∨ sSpeed τ w = 0 := by
  unfold sWay
  rcases Nat.eq_zero_or_pos (sSpeed τ w) with z | z
  · rw [z]
    simp [wayN]
  · obtain ⟨n, hn⟩ : ∃ n, sSpeed τ w = n + 1 := ⟨sSpeed τ w - 1, by omega⟩
    rw [hn, wy_n0]
    constructor
    · exact fun q => Or.inl q
    · rintro (q | q)
      · exact q
      · omega
theorem m_moves {m : St} {τ : Nat → Nat} {w : Nat} (hM : TM (m 26) τ) (hI : IT τ) (hw : w < 8) : f4_moves (nI w) m = some (b01 (! decide (sWay w τ = 0))) := by
  have h1 := it_w hI hw
  have h2 := sSteep_le hI (c := qu τ w 1) (by omega)
  have h3 := sSpeed_le hI hw
  unfold f4_moves
  rw [bd (m_its1 hM hw), bd (m_steep hM hI (by omega))]
  by_cases e : sSteep τ (qu τ w 1) = 0
  · rw [if_pos (by rw [nl0]; exact nI_le (by omega) (by omega)), show decide (sWay w τ = 0) = true by simp [sw0_iff, e]]
    rfl
  · rw [if_neg (by rw [nl0]; exact nI_ge (by omega) (by omega)), bd (m_speed hM hI hw)]
    by_cases g : sSpeed τ w = 0
    · rw [if_pos (by rw [nl0]; exact nI_le (by omega) (by omega)), show decide (sWay w τ = 0) = true by simp [sw0_iff, g]]
      rfl
    · rw [if_neg (by rw [nl0]; exact nI_ge (by omega) (by omega)), show decide (sWay w τ = 0) = false by simp [sw0_iff, e, g]]
      rfl
theorem m_still_B {m : St} {τ : Nat → Nat} (hM : TM (m 26) τ) (hI : IT τ) : ∀ (d b F : Nat), d + 1 ≤ F → b + d = τ 1 → f4_isStill_L4 F (b01 (stB τ b)) (nI b) m = some (b01 (stB τ (τ 1)))
  | d, b, 0, hF, hb => by omega
  | 0, b, F + 1, hF, hb => by
    have h1 := hI.1
    have hb' : b = τ 1 := hb
    rw [f4_isStill_L4_s, if_neg g119_1, m_many hM, i_le_t (by omega) (by omega), hb']
    cases stB τ (τ 1) <;> rfl
  | d + 1, b, F + 1, hF, hb => by
    have h1 := hI.1
    have ih := m_still_B hM hI d (b + 1) F (by omega) (by omega)
    rw [show stB τ (b + 1) = (stB τ b && decide (sWay b τ = 0)) from rfl] at ih
    rw [f4_isStill_L4_s, if_neg g119_1, m_many hM, i_le_f (by omega) (by omega), b01_0]
    unfold f4_isStill_b30 f4_isStill_b31
    by_cases e : stB τ b = true
    · rw [e, Bool.true_and] at ih
      rw [if_pos e, bd (m_moves hM hI (by omega)), b01_0, nl1, nI_add]
      by_cases g : sWay b τ = 0
      · rw [show decide (sWay b τ = 0) = true by simp [g]] at ih ⊢
        exact ih
      · rw [show decide (sWay b τ = 0) = false by simp [g]] at ih ⊢
        exact ih
    · have e' : stB τ b = false := by simpa using e
      rw [e', Bool.false_and] at ih
      rw [if_neg e, nl1, nI_add]
      exact ih
theorem m_isStill {m : St} {τ : Nat → Nat} (hM : TM (m 26) τ) (hI : IT τ) : f4_isStill m = some (b01 (decide (sMov τ = 0))) := by
  have h1 := hI.1
  have := m_still_B hM hI (τ 1) 0 fu (by rw [fu_eq]; omega) (by omega)
  rw [stB_mov τ (τ 1)] at this
  exact this
theorem still_le : ∀ (d : Nat) (τ : Nat → Nat), stillN d τ ≤ d
  | 0, _ => Nat.le_refl 0
  | d + 1, τ => by
    have := still_le d (sMin τ)
    unfold stillN
    split <;> omega
theorem m_still_L {m0 : St} : ∀ (d n F : Nat) (τ : Nat → Nat) (m : St), d + 1 ≤ F → n + d = 101 → TM (m 26) τ → IT τ → TR m0 m → ∃ m3, MI m0 m3 ∧ f4_still_L6 F (nI n) m = (if 100 < n + stillN d τ then (f4_finds (3 : Int32) m3).bind fun q => match q with | (v6, z5) => some (v6, z5) else some (nI (n + stillN d τ), m3))
  | d, n, 0, τ, m, hF, hn, hM, hI, hm => by omega
  | 0, n, F + 1, τ, m, hF, hn, hM, hI, hm => by
    obtain ⟨m3, t1, t2, _⟩ := m_lays hm
    refine ⟨m3, t2, ?_⟩
    rw [f4_still_L6_s, nl100, i_lt_t (by omega) (by omega)]
    unfold f4_still_b29 stillN
    rw [bd t1, nl100, i_lt_t (by omega) (by omega), if_pos (by omega)]
  | d + 1, n, F + 1, τ, m, hF, hn, hM, hI, hm => by
    rw [f4_still_L6_s, nl100, i_lt_f (by omega) (by omega), bd (m_isStill hM hI), b01_0]
    unfold stillN
    by_cases e : sMov τ = 0
    · obtain ⟨m3, t1, t2, _⟩ := m_lays hm
      refine ⟨m3, t2, ?_⟩
      rw [if_pos (by simp [e]), if_pos e]
      unfold f4_still_b29
      rw [bd t1, nl100, i_lt_f (by omega) (by omega), if_neg (by omega)]
      rfl
    · obtain ⟨m2, s1, s2, s3, _, _⟩ := m_min hM hI
      rw [if_neg (by simp [e]), if_neg e, bd s1, nl1, nI_add]
      obtain ⟨m3, t1, t2⟩ := m_still_L d (n + 1) F (sMin τ) m2 (by omega) (by omega) s2 (sm_it hI) (TR_min hm s3)
      exact ⟨m3, t1, by rw [t2, ← Nat.add_assoc]⟩
theorem R_still {x m : St} (h : REL x m) : EQ (f3_still x) (f4_still m) := by
  have hh := h
  obtain ⟨⟨τ, hI, hM, hX, ⟨h9, h0, h6⟩, hz, hs⟩, hR⟩ := h
  unfold f3_still f4_still
  obtain ⟨x1, q1, q2, q3⟩ := x_lends hX
  obtain ⟨x2, r1, r2, _, r4, _⟩ := x_pass (n := 101) (by omega) q2 hI
  obtain ⟨m1, p1, p2, p3, p4⟩ := m_lends m
  obtain ⟨m3, t1, t2⟩ := m_still_L (m0 := m) 101 0 fu τ m1 (by rw [fu_eq]; omega) (by omega) (by rw [p3]; exact hM) hI p2
  have hr := REL_tr hh (XI_trans q3 (XI_pass r4)) t1
  have hl := still_le 101 τ
  rw [Nat.zero_add] at t2
  have t2' : f4_still_L6 fu (0 : Int32) m1 = _ := t2
  rw [bd q1, nl101, bd r1, bd p1, t2']
  show EQ (if nI (stillN 101 τ) ≤ (100 : Int32) then some (nI (stillN 101 τ), x2) else _) _
  by_cases e : 100 < stillN 101 τ
  · rw [if_pos e, nl100, i_le_f e (by omega)]
    exact EQf3 hr (fun _ _ => rfl) (fun _ _ => rfl)
  · rw [if_neg e, nl100, i_le_t (by omega) (by omega)]
    exact EQs hr _
-- the harbour
theorem home_le (w : Nat) : ∀ (d : Nat) (τ : Nat → Nat), homeN w d τ ≤ d
  | 0, _ => Nat.le_refl 0
  | d + 1, τ => by
    have := home_le w d (sRoll w τ)
    unfold homeN
    split <;> omega
theorem m_home_L {m0 : St} {w : Nat} : ∀ (d n F : Nat) (τ σ : Nat → Nat) (m : St), d + 1 ≤ F → n + d = 101 → TM (m 26) τ → IT τ → IT σ → SW w τ σ → w < τ 1 → TR m0 m → ∃ m3, MI m0 m3 ∧ f4_comesHome_L6 F (nI w) (nI n) m = some (nI (n + homeN w d σ), m3)
  | d, n, 0, τ, σ, m, hF, hn, hM, hI, hJ, hS, hw, hm => by omega
  | 0, n, F + 1, τ, σ, m, hF, hn, hM, hI, hJ, hS, hw, hm => by
    obtain ⟨m3, t1, t2, _⟩ := m_lays hm
    refine ⟨m3, t2, ?_⟩
    rw [f4_comesHome_L6_s, nl100, i_lt_t (by omega) (by omega)]
    unfold f4_comesHome_b33 homeN
    rw [bd t1]
    rfl
  | d + 1, n, F + 1, τ, σ, m, hF, hn, hM, hI, hJ, hS, hw, hm => by
    have h8 := hI.1
    have h1 := it_w hI (w := w) (by omega)
    rw [f4_comesHome_L6_s, nl100, i_lt_f (by omega) (by omega), bd (m_its1 hM (by omega))]
    unfold homeN
    rw [← hS.2 1 (by omega)]
    by_cases e : qu τ w 1 = 15
    · obtain ⟨m3, t1, t2, _⟩ := m_lays hm
      refine ⟨m3, t2, ?_⟩
      rw [nl15, i_eq_t e, if_pos e]
      unfold f4_comesHome_b33
      rw [bd t1]
      rfl
    · obtain ⟨m2, s1, s2, s3, _, _⟩ := m_min hM hI
      rw [nl15, i_eq_f e (by omega) (by omega), if_neg e, bd s1, nl1, nI_add]
      obtain ⟨m3, t1, t2⟩ := m_home_L d (n + 1) F (sMin τ) (sRoll w σ) m2 (by omega) (by omega) s2 (sm_it hI) (sr_it (by omega) hJ) (SW_trans (sm_sw hI hw) (SW_sr (by omega) hS hI)) (by rw [sm_lo τ (by omega)]; exact hw) (TR_min hm s3)
      exact ⟨m3, t1, by rw [t2, Nat.add_assoc]⟩
theorem m_home {m : St} {τ : Nat → Nat} {w : Nat} (hM : TM (m 26) τ) (hI : IT τ) (hw : w < τ 1) : ∃ m3, MI m m3 ∧ f4_comesHome (nI w) m = some (nI (homeN w 101 τ), m3) := by
  obtain ⟨m1, p1, p2, p3, p4⟩ := m_lends m
  obtain ⟨m3, t1, t2⟩ := m_home_L (m0 := m) (w := w) 101 0 fu τ τ m1 (by rw [fu_eq]; omega) (by omega) (by rw [p3]; exact hM) hI hI (SW_refl w τ) hw p2
  refine ⟨m3, t1, ?_⟩
  unfold f4_comesHome
  rw [bd p1]
  rw [Nat.zero_add] at t2
  exact t2
theorem R_harbour {x m : St} (h : REL x m) (a : Int32) : EQ (f3_harbour a x) (f4_harbour a m) := by
  have hh := h
  obtain ⟨⟨τ, hI, hM, hX, ⟨h9, h0, h6⟩, hz, hs⟩, hR⟩ := h
  have h8 := hI.1
  unfold f3_harbour f4_harbour
  rw [x_hasW hX, bd (m_isW hM hI a)]
  rcases clsW hI a with e | ⟨w, hw, e⟩
  · simp only [e, b01_f, n00, if_true]
    exact EQf0 hh (fun _ _ => rfl) (fun _ _ => rfl)
  · subst e
    simp only [isW_t hI hw, b01_t, n10, if_false]
    obtain ⟨x1, q1, q2, q3⟩ := x_lends hX
    obtain ⟨x2, r1, r2⟩ := x_home (w := w) (by omega) q2 hI
    obtain ⟨m3, t1, t2⟩ := m_home hM hI hw
    have hl := home_le w 101 τ
    have hr := REL_tr hh (XI_trans q3 (XI_roll r2)) t1
    rw [bd q1, bd r1, bd t2]
    show EQ (if nI (homeN w 101 τ) ≤ (100 : Int32) then some (nI (homeN w 101 τ), x2) else _) (if (100 : Int32) < nI (homeN w 101 τ) then _ else some (nI (homeN w 101 τ), m3))
    by_cases e : 100 < homeN w 101 τ
    · rw [nl100, i_le_f e (by omega), i_lt_t e (by omega)]
      exact EQf3 hr (fun _ _ => rfl) (fun _ _ => rfl)
    · rw [nl100, i_le_t (by omega) (by omega), i_lt_f (by omega) (by omega)]
      exact EQs hr _
-- the greatest
theorem R_loudest_L {x0 m0 : St} (h : REL x0 m0) {c N : Nat} (hc : c < 16) (hN : N < 1000) : ∀ (d n F : Nat) (τ : Nat → Nat) (x m : St) (v : Int32), d + 1 ≤ F → n + d = N → TX x 2 τ → TM (m 26) τ → IT τ → XI x0 x → TR m0 m → EQ (f3_loudest_L47 F (nI c) (nI N) v (nI n) x) (f4_loudest_L33 F (nI c) (nI N) v (nI n) m)
  | d, n, 0, τ, x, m, v, hF, hn, hX, hM, hI, hx, hm => by omega
  | 0, n, F + 1, τ, x, m, v, hF, hn, hX, hM, hI, hx, hm => by
    obtain ⟨m3, t1, t2, _⟩ := m_lays hm
    rw [f3_loudest_L47_s, f4_loudest_L33_s, i_le_t (by omega) (by omega), i_le_t (by omega) (by omega), bd t1]
    exact EQs (REL_tr h hx t2) v
  | d + 1, n, F + 1, τ, x, m, v, hF, hn, hX, hM, hI, hx, hm => by
    obtain ⟨x2, r1, r2, _, r4, _⟩ := x_pass (n := 1) (by omega) hX hI
    obtain ⟨m2, s1, s2, s3, _, _⟩ := m_min hM hI
    have r2' : TX x2 2 (sMin τ) := r2
    rw [f3_loudest_L47_s, f4_loudest_L33_s, i_le_f (by omega) (by omega), i_le_f (by omega) (by omega), nl1, bd r1, bd s1, bd (m_loud s2 (sm_it hI) hc), nI_add]
    show EQ ((f2_loudAt 2 (nI c) x2).bind fun v7 => f3_loudest_L47 F (nI c) (nI N) (if v < v7 then v7 else v) (nI (n + 1)) x2) _
    rw [bd (x_loud r2' (sm_it hI) hc)]
    exact R_loudest_L h hc hN d (n + 1) F (sMin τ) x2 m2 _ (by omega) (by omega) r2 s2 (sm_it hI) (XI_trans hx (XI_pass r4)) (TR_min hm s3)
theorem R_loudest {x m : St} (h : REL x m) (a b : Int32) : EQ (f3_loudest a b x) (f4_loudest a b m) := by
  have hh := h
  obtain ⟨⟨τ, hI, hM, hX, ⟨h9, h0, h6⟩, hz, hs⟩, hR⟩ := h
  unfold f3_loudest f4_loudest f3_loudest_b17 f4_loudest_b14
  have ex : f3_isWithin b 0 100 = b01 (wi b 0 (nI 100)) := x_within b 0 100
  rw [x_isCorner, m_isCorner, ex, m_isAhead]
  rcases cls0 a 15 (by omega) with e | ⟨c, hc, e⟩
  · simp only [e, b01_f, n00, if_true]
    exact EQf0 hh (fun _ _ => rfl) (fun _ _ => rfl)
  · subst e
    simp only [wi_t hc (by omega), b01_t, n10, if_false]
    rcases cls0 b 100 (by omega) with e | ⟨n, hn, e⟩
    · simp only [e, b01_f, n00, if_true]
      exact EQf0 hh (fun _ _ => rfl) (fun _ _ => rfl)
    · subst e
      simp only [wi_t hn (by omega), b01_t, n10, if_false]
      obtain ⟨x1, q1, q2, q3⟩ := x_lends hX
      obtain ⟨m1, p1, p2, p3, p4⟩ := m_lends m
      have hM1 : TM (m1 26) τ := by rw [p3]; exact hM
      rw [bd q1, bd p1, bd (x_loud q2 hI (by omega)), bd (m_loud hM1 hI (by omega))]
      exact R_loudest_L hh (by omega) (by omega) n 0 fu τ x1 m1 _ (by rw [fu_eq]; omega) (by omega) q2 hM1 hI q3 p2
-- who is lower
theorem R_over_L {x0 m0 : St} (h : REL x0 m0) {a b : Nat} (ha : a < 8) (hb : b < 8) : ∀ (d n F : Nat) (τ : Nat → Nat) (x m : St), d + 1 ≤ F → n + d = 101 → TX x 2 τ → TM (m 26) τ → IT τ → XI x0 x → TR m0 m → EQ (f3_overtakes_L47 F (nI a) (nI b) (nI n) x) (f4_overtakes_L33 F (nI a) (nI b) (nI n) m)
  | d, n, 0, τ, x, m, hF, hn, hX, hM, hI, hx, hm => by omega
  | 0, n, F + 1, τ, x, m, hF, hn, hX, hM, hI, hx, hm => by
    obtain ⟨m3, t1, t2, _⟩ := m_lays hm
    rw [f3_overtakes_L47_s, f4_overtakes_L33_s, nl100, i_lt_t (by omega) (by omega), i_lt_t (by omega) (by omega)]
    unfold f4_overtakes_b62
    rw [bd t1, nl100, i_lt_t (by omega) (by omega)]
    exact EQf3 (REL_tr h hx t2) (fun _ _ => rfl) (fun _ _ => rfl)
  | d + 1, n, F + 1, τ, x, m, hF, hn, hX, hM, hI, hx, hm => by
    have h1 := it_w hI ha
    have h2 := it_w hI hb
    have h3 := it_t hI (c := qu τ a 1) (by omega)
    have h4 := it_t hI (c := qu τ b 1) (by omega)
    rw [f3_overtakes_L47_s, f4_overtakes_L33_s, nl100, i_lt_f (by omega) (by omega), i_lt_f (by omega) (by omega), bd (x_height hX hI ha), bd (x_height hX hI hb), bd (m_height hM hI ha), bd (m_height hM hI hb)]
    by_cases e : tr τ (qu τ a 1) 0 < tr τ (qu τ b 1) 0
    · rw [i_le_f e (by omega), i_lt_t e (by omega)]
      obtain ⟨m3, t1, t2, _⟩ := m_lays hm
      unfold f4_overtakes_b62
      rw [bd t1, nl100, i_lt_f (by omega) (by omega)]
      exact EQs (REL_tr h hx t2) _
    · rw [i_le_t (by omega) (by omega), i_lt_f (by omega) (by omega)]
      obtain ⟨x2, r1, r2, _, r4, _⟩ := x_pass (n := 1) (by omega) hX hI
      obtain ⟨m2, s1, s2, s3, _, _⟩ := m_min hM hI
      rw [nl1, bd r1, bd s1, nI_add]
      exact R_over_L h ha hb d (n + 1) F (sMin τ) x2 m2 (by omega) (by omega) r2 s2 (sm_it hI) (XI_trans hx (XI_pass r4)) (TR_min hm s3)
theorem R_overtakes {x m : St} (h : REL x m) (a b : Int32) : EQ (f3_overtakes a b x) (f4_overtakes a b m) := by
  have hh := h
  obtain ⟨⟨τ, hI, hM, hX, ⟨h9, h0, h6⟩, hz, hs⟩, hR⟩ := h
  have h8 := hI.1
  unfold f3_overtakes f4_overtakes f3_overtakes_b27 f4_overtakes_b21
  rw [x_hasW hX, x_hasW hX, bd (m_isW hM hI a), bd (m_isW hM hI b)]
  rcases clsW hI a with e | ⟨w, hw, e⟩
  · simp only [e, b01_f, n00, if_true]
    exact EQf0 hh (fun _ _ => rfl) (fun _ _ => rfl)
  · subst e
    simp only [isW_t hI hw, b01_t, n10, if_false]
    rcases clsW hI b with e | ⟨v, hv, e⟩
    · simp only [e, b01_f, n00, if_true]
      exact EQf0 hh (fun _ _ => rfl) (fun _ _ => rfl)
    · subst e
      simp only [isW_t hI hv, b01_t, n10, if_false]
      by_cases e : nI w = nI v
      · rw [if_pos e, if_pos e]
        exact EQf0 hh (fun _ _ => rfl) (fun _ _ => rfl)
      · rw [if_neg e, if_neg e]
        obtain ⟨x1, q1, q2, q3⟩ := x_lends hX
        obtain ⟨m1, p1, p2, p3, p4⟩ := m_lends m
        rw [bd q1, bd p1]
        exact R_over_L hh (by omega) (by omega) 101 0 fu τ x1 m1 (by rw [fu_eq]; omega) (by omega) q2 (by rw [p3]; exact hM) hI q3 p2
