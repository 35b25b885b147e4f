-- the model's minute
def RMm (m m' : St) : Prop := (∀ k, k ≠ 25 → k ≠ 26 → m' k = m k) ∧ (∀ i, i ≠ 5 → m' 25 i = m 25 i) ∧ ∀ i, i ≠ 0 → (i < 85 ∨ 109 ≤ i) → m' 26 i = m 26 i
theorem RMm_refl (m : St) : RMm m m := ⟨fun _ _ _ => rfl, fun _ _ => rfl, fun _ _ _ => rfl⟩
theorem RMm_trans {a b c : St} (h : RMm a b) (g : RMm b c) : RMm a c := ⟨fun k h1 h2 => (g.1 k h1 h2).trans (h.1 k h1 h2), fun i hi => (g.2.1 i hi).trans (h.2.1 i hi), fun i h0 hi => (g.2.2 i h0 hi).trans (h.2.2 i h0 hi)⟩
theorem RM_m {a b : St} (h : RM a b) : RMm a b := ⟨h.1, h.2.1, fun i _ hi => h.2.2 i hi⟩
theorem m_min_L : ∀ (d b : Nat) (τ : Nat → Nat) (m : St) (F : Nat), d + 1 ≤ F → b + d = τ 1 → TM (m 26) (minW b τ) → IT τ → ∃ m', f4_aMinute_L2 F (nI b) m = some m' ∧ TM (m' 26) (minW (b + d) τ) ∧ RMm m m' ∧ m' 26 0 = m 26 0 + 1 ∧ ∀ w0, w0 < τ 1 → m 25 6 = nI w0 → m' 25 5 = m 25 5 ||| nI (if b ≤ w0 then sWay w0 (minW w0 τ) else 0)
  | d, b, τ, m, 0, hF, hb, hT, hI => by omega
  | 0, b, τ, m, F + 1, hF, hb, hT, hI => by
    have h1 := hI.1
    have e1 : m 26 1 = nI b := by rw [hT 1 (by omega) (by omega) (by omega), mi_lo _ _ (by omega), ← hb]; rfl
    rw [f4_aMinute_L2_s, if_neg (by decide), show (1 : Int32).toNatClampNeg = 1 from rfl, e1, i_le_t (by omega) (by omega), if_neg (by decide), if_neg (by decide), show (0 : Int32).toNatClampNeg = 0 from rfl]
    refine ⟨_, rfl, ?_, ⟨fun k a b => up_cell _ _ _ b, fun i a => up_ne1 _ _ _ _ (by decide), fun i a _ => up_ne2 _ _ a⟩, up_eq _ _ _ _, fun w0 hw h6 => ?_⟩
    · intro j a b c
      rw [up_ne2 _ _ (by omega)]
      exact hT j a b c
    · rw [up_ne1 _ _ _ _ (by decide), if_neg (by omega), ← nl0, i_or0]
  | d + 1, b, τ, m, F + 1, hF, hb, hT, hI => by
    have h1 := hI.1
    have e1 : m 26 1 = nI (τ 1) := by rw [hT 1 (by omega) (by omega) (by omega), mi_lo _ _ (by omega)]
    rw [f4_aMinute_L2_s, if_neg (by decide), show (1 : Int32).toNatClampNeg = 1 from rfl, e1, i_le_f (by omega) (by omega)]
    obtain ⟨m1, p1, p2, p3, p4⟩ := m_roll (w := b) hT (mi_it b (by omega) hI) (by omega)
    rw [bd p1, nl1, nI_add]
    obtain ⟨m', q1, q2, q3, q4, q5⟩ := m_min_L d (b + 1) τ m1 F (by omega) (by omega) p2 hI
    refine ⟨m', q1, ?_, RMm_trans (RM_m p3) q3, ?_, fun w0 hw h6 => ?_⟩
    · rw [show b + (d + 1) = b + 1 + d by omega]; exact q2
    · rw [q4, p3.2.2 0 (by omega)]; rfl
    · rw [q5 w0 hw (by rw [p3.2.1 6 (by omega), h6]), p4, h6]
      by_cases e : b = w0
      · subst e
        rw [if_pos rfl, if_neg (by omega), if_pos (by omega), ← nl0, i_or0]
      · rw [if_neg (fun z => e (n_inj (by omega) (by omega) z))]
        by_cases e2 : b ≤ w0
        · rw [if_pos (by omega), if_pos e2]
        · rw [if_neg (by omega), if_neg e2]
theorem m_min {m : St} {τ : Nat → Nat} (hT : TM (m 26) τ) (hI : IT τ) : ∃ m', f4_aMinute m = some m' ∧ TM (m' 26) (sMin τ) ∧ RMm m m' ∧ m' 26 0 = m 26 0 + 1 ∧ ∀ w0, w0 < τ 1 → m 25 6 = nI w0 → m' 25 5 = m 25 5 ||| nI (sWay w0 τ) := by
  have h1 := hI.1
  obtain ⟨m', q1, q2, q3, q4, q5⟩ := m_min_L (τ 1) 0 τ m fu (by rw [fu_eq]; omega) (by omega) hT hI
  refine ⟨m', q1, ?_, q3, q4, fun w0 hw h6 => ?_⟩
  · rw [Nat.zero_add] at q2; exact q2
  · rw [q5 w0 hw h6, if_pos (by omega)]
    have := mi_sw (w := w0) (by omega) w0 (τ := τ) (by omega) hI
    rw [if_neg (by omega)] at this
    rw [SW_sw (by omega) this (mi_it w0 (by omega) hI)]
theorem m_mins_L : ∀ (d b n : Nat) (τ : Nat → Nat) (m : St) (F : Nat), d + 1 ≤ F → b + d = n → n < 2000 → TM (m 26) τ → IT τ → ∃ m', f4_minutes_L2 F (nI n) (nI b) m = some m' ∧ TM (m' 26) (mins d τ) ∧ RMm m m' ∧ m' 26 0 = m 26 0 + nI d ∧ ∀ w0, w0 < τ 1 → m 25 6 = nI w0 → m' 25 5 = m 25 5 ||| nI (wayS w0 d τ)
  | d, b, n, τ, m, 0, hF, hb, hn, hT, hI => by omega
  | 0, b, n, τ, m, F + 1, hF, hb, hn, hT, hI => by
    rw [f4_minutes_L2_s, i_le_t (by omega) (by omega)]
    refine ⟨m, rfl, hT, RMm_refl m, ?_, fun w0 hw h6 => ?_⟩
    · rw [← nl0, Int32.add_zero]
    · unfold wayS
      rw [← nl0, i_or0]
  | d + 1, b, n, τ, m, F + 1, hF, hb, hn, hT, hI => by
    have h1 := hI.1
    rw [f4_minutes_L2_s, i_le_f (by omega) (by omega)]
    obtain ⟨m1, p1, p2, p3, p4, p5⟩ := m_min hT hI
    rw [bd p1, nl1, nI_add]
    obtain ⟨m', q1, q2, q3, q4, q5⟩ := m_mins_L d (b + 1) n (sMin τ) m1 F (by omega) (by omega) hn p2 (sm_it hI)
    refine ⟨m', q1, q2, RMm_trans p3 q3, ?_, fun w0 hw h6 => ?_⟩
    · rw [q4, p4, nl1, Int32.add_assoc, nI_add, Nat.add_comm]
    · rw [q5 w0 (by rw [sm_lo τ (by omega)]; exact hw) (by rw [p3.2.1 6 (by omega), h6]), p5 w0 hw h6, i_orA, i_or, ws_sw (by omega) d (sm_sw hI hw) (sm_it hI) (sr_it (by omega) hI)]
      rfl
theorem m_mins {m : St} {τ : Nat → Nat} (n : Nat) (hn : n < 1000) (hT : TM (m 26) τ) (hI : IT τ) : ∃ m', f4_minutes (nI n) m = some m' ∧ TM (m' 26) (mins n τ) ∧ RMm m m' ∧ m' 26 0 = m 26 0 + nI n ∧ ∀ w0, w0 < τ 1 → m 25 6 = nI w0 → m' 25 5 = m 25 5 ||| nI (wayS w0 n τ) :=
  m_mins_L n 0 n τ m fu (by rw [fu_eq]; omega) (by omega) (by omega) hT hI
-- the class's minutes
theorem x_pass_L27 {t n i : Nat} {F0 : Nat} : ∀ (d b : Nat) (τ : Nat → Nat) (x : St) (F mv : Nat), d + 1 ≤ F → b + d = τ 1 → TX x t (minW b τ) → IT τ → ∃ x', f2_pass_L27 t (f2_pass_L17 t F0) F (nI n) (nI i) (nI (movW b τ)) (nI b) x = (if movW (b + d) τ = 0 then some (nI i, x') else f2_pass_L17 t F0 (nI n) (nI (i + 1)) x') ∧ TX x' t (minW (b + d) τ) ∧ ∀ k, k ≠ 3 + 4 * t → x' k = x k
  | d, b, τ, x, 0, mv, hF, hb, hT, hI => by omega
  | 0, b, τ, x, F + 1, mv, hF, hb, hT, hI => by
    have h1 := hI.1
    have h2 := mv_lt b (τ := τ) (by omega) hI
    have e1 : x (1 + 4 * t) 3 = nI b := by rw [hT.2.2.1, mi_lo _ _ (by omega), ← hb]; rfl
    rw [f2_pass_L27_s, e1, i_le_t (by omega) (by omega)]
    refine ⟨x, ?_, hT, fun _ _ => rfl⟩
    by_cases e : movW b τ = 0
    · rw [e, if_pos (by decide : nI 0 = 0), if_pos (by rw [Nat.add_zero, e])]
    · rw [nl0, i_eq_f e (by omega) (by omega), if_neg (by rw [Nat.add_zero]; exact e), nl1, nI_add]
  | d + 1, b, τ, x, F + 1, mv, hF, hb, hT, hI => by
    have h1 := hI.1
    have h2 := mv_lt b (τ := τ) (by omega) hI
    have e1 : x (1 + 4 * t) 3 = nI (τ 1) := by rw [hT.2.2.1, mi_lo _ _ (by omega)]
    rw [f2_pass_L27_s, e1, i_le_f (by omega) (by omega)]
    obtain ⟨x1, p1, p2, p3⟩ := x_roll (w := b) hT (mi_it b (by omega) hI) (by omega)
    rw [bd p1]
    obtain ⟨x', q1, q2, q3⟩ := x_pass_L27 d (b + 1) τ x1 F mv (by omega) (by omega) p2 hI
    refine ⟨x', ?_, ?_, fun k hk => (q3 k hk).trans (p3 k hk)⟩
    · rw [show b + (d + 1) = b + 1 + d by omega, ← q1]
      show f2_pass_L27 t (f2_pass_L17 t F0) F (nI n) (nI i) (nI (movW b τ) ||| nI (sWay b (minW b τ))) (nI b + 1) x1 = _
      rw [nl1, nI_add, i_or]
      rfl
    · rw [show b + (d + 1) = b + 1 + d by omega]; exact q2
theorem x_pass_L17 {t n : Nat} (hn : n < 1000) : ∀ (d i : Nat) (τ : Nat → Nat) (x : St) (F : Nat), d + 1 ≤ F → i + d = n → TX x t τ → IT τ → ∃ x', f2_pass_L17 t F (nI n) (nI i) x = some (nI (i + stillN d τ), x') ∧ TX x' t (mins d τ) ∧ ∀ k, k ≠ 3 + 4 * t → x' k = x k
  | d, i, τ, x, 0, hF, hb, hT, hI => by omega
  | 0, i, τ, x, F + 1, hF, hb, hT, hI => by
    rw [f2_pass_L17_s, i_le_t (by omega) (by omega)]
    refine ⟨x, ?_, hT, fun _ _ => rfl⟩
    rw [← hb]; rfl
  | d + 1, i, τ, x, F + 1, hF, hb, hT, hI => by
    have h1 := hI.1
    rw [f2_pass_L17_s, i_le_f (by omega) (by omega)]
    obtain ⟨x1, p1, p2, p3⟩ := x_pass_L27 (t := t) (n := n) (i := i) (F0 := F) (τ 1) 0 τ x fu 0 (by rw [fu_eq]; omega) (by omega) hT hI
    rw [Nat.zero_add] at p1 p2
    have p1' : f2_pass_L27 t (f2_pass_L17 t F) fu (nI n) (nI i) (0 : Int32) (0 : Int32) x = _ := p1
    rw [p1']
    unfold stillN mins
    by_cases e : movW (τ 1) τ = 0
    · have e2 : sMov τ = 0 := e
      have e3 : sMin τ = τ := mi_mov _ e
      rw [if_pos e, if_pos e2, e3, ms_fix d e2]
      refine ⟨x1, rfl, ?_, p3⟩
      rw [mi_mov _ e] at p2
      exact p2
    · have e2 : ¬ sMov τ = 0 := e
      rw [if_neg e, if_neg e2]
      obtain ⟨x', q1, q2, q3⟩ := x_pass_L17 hn d (i + 1) (sMin τ) x1 F (by omega) (by omega) p2 (sm_it hI)
      refine ⟨x', ?_, q2, fun k hk => (q3 k hk).trans (p3 k hk)⟩
      rw [q1, Nat.add_assoc]
theorem x_pass {x : St} {t n : Nat} {τ : Nat → Nat} (hn : n < 1000) (hT : TX x t τ) (hI : IT τ) : ∃ x', f2_pass t (nI n) x = some (nI (stillN n τ), x') ∧ TX x' t (mins n τ) ∧ x' (1 + 4 * t) 6 = (if (99999 : Int32) < x (1 + 4 * t) 6 + nI n then (99999 : Int32) else x (1 + 4 * t) 6 + nI n) ∧ (∀ k, k ≠ 3 + 4 * t → k ≠ 1 + 4 * t → x' k = x k) ∧ ∀ i, i ≠ 6 → x' (1 + 4 * t) i = x (1 + 4 * t) i := by
  unfold f2_pass
  have hT' : TX (up x (1 + 4 * t) 6 (if (99999 : Int32) < x (1 + 4 * t) 6 + nI n then (99999 : Int32) else x (1 + 4 * t) 6 + nI n)) t τ := by
    refine ⟨fun i hi => ?_, fun i hi => ?_, ?_, ?_, ?_⟩
    · rw [up_ne1 _ _ _ _ (by omega)]; exact hT.1 i hi
    · rw [up_ne1 _ _ _ _ (by omega)]; exact hT.2.1 i hi
    · rw [up_ne2 _ _ (by omega)]; exact hT.2.2.1
    · rw [up_ne2 _ _ (by omega)]; exact hT.2.2.2.1
    · rw [up_ne2 _ _ (by omega)]; exact hT.2.2.2.2
  obtain ⟨x', q1, q2, q3⟩ := x_pass_L17 (t := t) hn n 0 τ _ fu (by rw [fu_eq]; omega) (by omega) hT' hI
  refine ⟨x', ?_, q2, ?_, fun k hk h1 => ?_, fun i hi => ?_⟩
  · rw [Nat.zero_add] at q1; exact q1
  · rw [q3 _ (by omega), up_eq]
  · rw [q3 _ hk, up_cell _ _ _ h1]
  · rw [q3 _ (by omega), up_ne2 _ _ hi]
-- one whisper of the class, some minutes
theorem x_way_L {t w n : Nat} (hw : w < 8) (hn : n < 1000) : ∀ (d i : Nat) (τ : Nat → Nat) (x : St) (F : Nat) (way : Nat), d + 1 ≤ F → i + d = n → TX x t τ → IT τ → ∃ x', f2_wayOf_L12 t F (nI w) (nI n) (nI way) (nI i) x = some (nI (way ||| wayS w d τ), x') ∧ TX x' t (solo w d τ) ∧ ∀ k, k ≠ 3 + 4 * t → x' k = x k
  | d, i, τ, x, 0, way, hF, hb, hT, hI => by omega
  | 0, i, τ, x, F + 1, way, hF, hb, hT, hI => by
    rw [f2_wayOf_L12_s, i_le_t (by omega) (by omega)]
    refine ⟨x, ?_, hT, fun _ _ => rfl⟩
    unfold wayS
    rw [Nat.or_zero]
  | d + 1, i, τ, x, F + 1, way, hF, hb, hT, hI => by
    have h2 := wy_lo hw hI
    rw [f2_wayOf_L12_s, i_le_f (by omega) (by omega)]
    obtain ⟨x1, p1, p2, p3⟩ := x_roll hT hI hw
    rw [bd p1]
    by_cases e : sWay w τ = 0
    · have e3 : sRoll w τ = τ := wy0 _ e
      refine ⟨x1, ?_, ?_, p3⟩
      · show (if nI (sWay w τ) = 0 then some (nI way, x1) else _) = _
        rw [e, if_pos (by decide : nI 0 = 0), (so_fix (d + 1) e).2, Nat.or_zero]
      · rw [(so_fix (d + 1) e).1]
        rw [e3] at p2
        exact p2
    · obtain ⟨x', q1, q2, q3⟩ := x_way_L hw hn d (i + 1) (sRoll w τ) x1 F (way ||| sWay w τ) (by omega) (by omega) p2 (sr_it hw hI)
      refine ⟨x', ?_, q2, fun k hk => (q3 k hk).trans (p3 k hk)⟩
      show (if nI (sWay w τ) = 0 then some (nI way, x1) else f2_wayOf_L12 t F (nI w) (nI n) (nI way ||| nI (sWay w τ)) (nI i + 1) x1) = _
      unfold wayS
      rw [nl0, i_eq_f e (by omega) (by omega), nl1, nI_add, i_or, q1, Nat.or_assoc]
theorem x_way {x : St} {t w n : Nat} {τ : Nat → Nat} (hw : w < 8) (hn : n < 1000) (hT : TX x t τ) (hI : IT τ) : ∃ x', f2_wayOf t (nI w) (nI n) x = some (nI (2 ^ qu τ w 1 ||| wayS w n τ), x') ∧ TX x' t (solo w n τ) ∧ ∀ k, k ≠ 3 + 4 * t → x' k = x k := by
  have h1 := it_w hI hw
  unfold f2_wayOf
  rw [bd (x_its1 hT hw), i_shl _ (by omega)]
  exact x_way_L hw hn n 0 τ x fu (2 ^ qu τ w 1) (by rw [fu_eq]; omega) (by omega) hT hI
-- how many minutes to the harbour; more than the bound: never
def homeN (w : Nat) : Nat → (Nat → Nat) → Nat
  | 0, _ => 0
  | d + 1, τ => if qu τ w 1 = 15 then 0 else 1 + homeN w d (sRoll w τ)
theorem x_home_L {t w : Nat} (hw : w < 8) : ∀ (d i : Nat) (τ : Nat → Nat) (x : St) (F : Nat), d + 1 ≤ F → i + d = 101 → TX x t τ → IT τ → ∃ x', f2_minutesToHarbour_L2 t F (nI w) (nI i) x = some (nI (i + homeN w d τ), x') ∧ ∀ k, k ≠ 3 + 4 * t → x' k = x k
  | d, i, τ, x, 0, hF, hb, hT, hI => by omega
  | 0, i, τ, x, F + 1, hF, hb, hT, hI => by
    rw [f2_minutesToHarbour_L2_s, nl100, i_lt_t (by omega) (by omega)]
    refine ⟨x, ?_, fun _ _ => rfl⟩
    unfold homeN
    rw [show i + 0 = 101 by omega]
    rfl
  | d + 1, i, τ, x, F + 1, hF, hb, hT, hI => by
    have h1 := it_w hI hw
    rw [f2_minutesToHarbour_L2_s, nl100, i_lt_f (by omega) (by omega), bd (x_its1 hT hw)]
    unfold homeN
    by_cases e : qu τ w 1 = 15
    · rw [nl15, i_eq_t e, if_pos e]
      exact ⟨x, rfl, fun _ _ => rfl⟩
    · rw [nl15, i_eq_f e (by omega) (by omega), if_neg e]
      obtain ⟨x1, p1, p2, p3⟩ := x_roll hT hI hw
      rw [bd p1]
      obtain ⟨x', q1, q2⟩ := x_home_L hw d (i + 1) (sRoll w τ) x1 F (by omega) (by omega) p2 (sr_it hw hI)
      refine ⟨x', ?_, fun k hk => (q2 k hk).trans (p3 k hk)⟩
      show f2_minutesToHarbour_L2 t F (nI w) (nI i + 1) x1 = _
      rw [nl1, nI_add, q1, Nat.add_assoc]
theorem x_home {x : St} {t w : Nat} {τ : Nat → Nat} (hw : w < 8) (hT : TX x t τ) (hI : IT τ) : ∃ x', f2_minutesToHarbour t (nI w) x = some (nI (homeN w 101 τ), x') ∧ ∀ k, k ≠ 3 + 4 * t → x' k = x k := by
  unfold f2_minutesToHarbour
  obtain ⟨x', q1, q2⟩ := x_home_L (t := t) hw 101 0 τ x fu (by rw [fu_eq]; omega) (by omega) hT hI
  rw [Nat.zero_add] at q1
  exact ⟨x', q1, q2⟩
