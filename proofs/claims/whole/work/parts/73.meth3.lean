-- the count at a corner
def wAt (τ : Nat → Nat) (c w : Nat) : Nat := if qu τ w 1 = c then 1 else 0
def sThere (τ : Nat → Nat) (c : Nat) : Nat := sumN (wAt τ c) (τ 1)
theorem wAt_le (τ : Nat → Nat) (c w : Nat) : wAt τ c w ≤ 1 := by unfold wAt; split <;> omega
theorem st_le (τ : Nat → Nat) (c k : Nat) : sumN (wAt τ c) k ≤ k := by
  have := sum_le (f := wAt τ c) (B := 1) (k := k) (fun i _ => wAt_le τ c i)
  omega
theorem x_there_L {x : St} {t c : Nat} {τ : Nat → Nat} (hT : TX x t τ) (hI : IT τ) (hc : c < 16) : ∀ (d b F : Nat), d + 1 ≤ F → b + d = τ 1 → f2_whispersAt_L4 t F (nI c) (nI (sumN (wAt τ c) b)) (nI b) x = some (nI (sThere τ c))
  | d, b, 0, hF, hb => by omega
  | 0, b, F + 1, hF, hb => by
    have h1 := hI.1
    have hb' : b = τ 1 := hb
    rw [f2_whispersAt_L4_s, hT.2.2.1, i_le_t (by omega) (by omega), hb']
    rfl
  | d + 1, b, F + 1, hF, hb => by
    have h1 := hI.1
    have h2 := it_w hI (w := b) (by omega)
    have ih := x_there_L hT hI hc d (b + 1) F (by omega) (by omega)
    have e1 : nI (sumN (wAt τ c) (b + 1)) = nI (sumN (wAt τ c) b + wAt τ c b) := rfl
    rw [e1] at ih
    rw [f2_whispersAt_L4_s, hT.2.2.1, i_le_f (by omega) (by omega), bd (x_its1 hT (by omega))]
    unfold f2_whispersAt_b25
    by_cases e : qu τ b 1 = c
    · rw [i_eq_t e, nl1, nI_add, nI_add, ← ih]
      unfold wAt
      rw [if_pos e]
    · rw [i_eq_f e (by omega) (by omega), nl1, nI_add, ← ih]
      unfold wAt
      rw [if_neg e]
      rfl
theorem x_there {x : St} {t c : Nat} {τ : Nat → Nat} (hT : TX x t τ) (hI : IT τ) (hc : c < 16) : f2_whispersAt t (nI c) x = some (nI (sThere τ c)) := by
  have h1 := hI.1
  exact x_there_L hT hI hc (τ 1) 0 fu (by rw [fu_eq]; omega) (by omega)
theorem m_atH_L {m : St} {τ : Nat → Nat} (hT : TM (m 26) τ) (hI : IT τ) : ∀ (d b F : Nat), d + 1 ≤ F → b + d = τ 1 → f4_atHarbour_L4 F (nI (sumN (wAt τ 15) b)) (nI b) m = some (nI (sThere τ 15))
  | d, b, 0, hF, hb => by omega
  | 0, b, F + 1, hF, hb => by
    have h1 := hI.1
    have hb' : b = τ 1 := hb
    rw [f4_atHarbour_L4_s, if_neg g119_1, m_many hT, i_le_t (by omega) (by omega), hb']
    rfl
  | d + 1, b, F + 1, hF, hb => by
    have h1 := hI.1
    have h2 := it_w hI (w := b) (by omega)
    have ih := m_atH_L hT hI d (b + 1) F (by omega) (by omega)
    have e1 : nI (sumN (wAt τ 15) (b + 1)) = nI (sumN (wAt τ 15) b + wAt τ 15 b) := rfl
    rw [e1] at ih
    rw [f4_atHarbour_L4_s, if_neg g119_1, m_many hT, i_le_f (by omega) (by omega), bd (m_its1 hT (by omega))]
    unfold f4_atHarbour_b31
    by_cases e : qu τ b 1 = 15
    · rw [nl15, i_eq_t e, nl1, nI_add, nI_add, ← ih]
      unfold wAt
      rw [if_pos e]
    · rw [nl15, i_eq_f e (by omega) (by omega), nl1, nI_add, nl0, nI_add, ← ih]
      unfold wAt
      rw [if_neg e]
theorem m_atH {m : St} {τ : Nat → Nat} (hT : TM (m 26) τ) (hI : IT τ) : f4_atHarbour m = some (nI (sThere τ 15)) := by
  have h1 := hI.1
  exact m_atH_L hT hI (τ 1) 0 fu (by rw [fu_eq]; omega) (by omega)
-- the spots in use
def cS (s : Nat → Int32) : Nat → Nat
  | 0 => 0
  | k + 1 => cS s k + if s (109 + k) < 0 then 0 else 1
theorem x_used_L {x : St} {t : Nat} {s : Nat → Int32} (hs : ∀ i, i < 10 → x (4 + 4 * t) i = s (109 + i)) : ∀ (d b F : Nat), d + 1 ≤ F → b + d = 10 → f2_spotsInUse_L4 t F (nI (cS s b)) (nI b) x = some (nI (cS s 10))
  | d, b, 0, hF, hb => by omega
  | 0, b, F + 1, hF, hb => by
    have hb' : b = 10 := hb
    rw [f2_spotsInUse_L4_s, nl10, i_le_t (by omega) (by omega), hb']
  | d + 1, b, F + 1, hF, hb => by
    have ih := x_used_L hs d (b + 1) F (by omega) (by omega)
    unfold cS at ih
    rw [f2_spotsInUse_L4_s, nl10, i_le_f (by omega) (by omega), if_neg (nI_in (by omega) (by omega)), nI_clamp (by omega), hs b (by omega)]
    unfold f2_spotsInUse_b25
    by_cases e : s (109 + b) < 0
    · rw [if_pos e] at ih ⊢
      rw [nl1, nI_add]
      exact ih
    · rw [if_neg e] at ih ⊢
      rw [nl1, nI_add, nI_add]
      exact ih
theorem m_used_L {m : St} : ∀ (d b F : Nat), d + 1 ≤ F → b + d = 10 → f4_held_L4 F (nI (cS (m 26) b)) (nI b) m = some (nI (cS (m 26) 10))
  | d, b, 0, hF, hb => by omega
  | 0, b, F + 1, hF, hb => by
    have hb' : b = 10 := hb
    rw [f4_held_L4_s, nl10, i_le_t (by omega) (by omega), hb']
  | d + 1, b, F + 1, hF, hb => by
    have ih := m_used_L (m := m) d (b + 1) F (by omega) (by omega)
    unfold cS at ih
    rw [f4_held_L4_s, nl10, i_le_f (by omega) (by omega), nl109, nI_add, if_neg (nI_in (by omega) (by omega)), nI_clamp (by omega)]
    unfold f4_held_b28
    by_cases e : m 26 (109 + b) < 0
    · rw [if_pos e] at ih
      rw [if_neg (Int32.not_le.mpr e), nl1, nI_add, nl0, nI_add]
      exact ih
    · rw [if_neg e] at ih
      rw [if_pos (i_nlt.mp e), nl1, nI_add, nI_add]
      exact ih
-- count, now
theorem R_count {x m : St} (h : REL x m) (a : Int32) : EQ (f3_count a x) (f4_count a m) := by
  have hh := h
  obtain ⟨⟨τ, hI, hM, hX, ⟨h9, h0, h6⟩, hz, hs⟩, hR⟩ := h
  have hW : TW x 0 (m 26) τ := ⟨hI, hM, hX, ⟨h9, h0, h6⟩, hz, hs⟩
  obtain ⟨_, _, ⟨n, t1, t2, t3, _⟩, _⟩ := hR
  unfold f3_count f4_count
  rw [if_neg g119_0, if_neg g119_1, if_neg g119_4]
  split
  · rw [cl_0, h0, h6]; exact EQs hh _
  split
  · rw [m_many hM, hX.2.2.1]; exact EQs hh _
  split
  · rw [nl15, bd (x_there hX hI (by omega)), bd (m_atH hM hI)]; exact EQs hh _
  split
  · rw [bd (x_allW hX hI), bd (m_allW hM hI)]; exact EQs hh _
  split
  · rw [bd (x_allS hX), bd (m_allS hM)]; exact EQs hh _
  split
  · rw [t2, t3]; exact EQs hh _
  split
  · rw [cl_4, hz]; exact EQs hh _
  split
  · have q1 : f2_spotsInUse 0 x = some (nI (cS (m 26) 10)) := x_used_L (fun i hi => (hs i hi).1) 10 0 fu (by rw [fu_eq]; omega) (by omega)
    have q2 : f4_held m = some (nI (cS (m 26) 10)) := m_used_L 10 0 fu (by rw [fu_eq]; omega) (by omega)
    rw [bd q1, bd q2]; exact EQs hh _
  · exact EQf0 hh (fun _ _ => rfl) (fun _ _ => rfl)
theorem R_now {x m : St} (h : REL x m) (a : Int32) : EQ (f3_now a x) (f4_now a m) := by
  have hh := h
  obtain ⟨⟨τ, hI, hM, hX, ⟨h9, h0, h6⟩, hz, hs⟩, hR⟩ := h
  have hW : TW x 0 (m 26) τ := ⟨hI, hM, hX, ⟨h9, h0, h6⟩, hz, hs⟩
  unfold f3_now f4_now
  rw [if_neg g119_0, if_neg g119_2, if_neg g119_3]
  split
  · rw [cl_0, h0, h6]; exact EQs hh _
  split
  · rw [bd (x_hears hX hI), bd (m_hears hM hI)]; exact EQs hh _
  split
  · rw [bd (x_allW hX hI), bd (m_allW hM hI)]; exact EQs hh _
  split
  · rw [cl_2, hM 2 (by omega) (by omega) (by omega), hX.2.2.2.2]; exact EQs hh _
  split
  · rw [cl_3, hM 3 (by omega) (by omega) (by omega), hX.2.2.2.1]; exact EQs hh _
  split
  · rw [bd (x_runs hX hI), bd (m_runs hM hI)]; exact EQs hh _
  · exact EQf0 hh (fun _ _ => rfl) (fun _ _ => rfl)
-- rents
theorem R_rents_L {x m : St} {τ : Nat → Nat} (hX : TX x 0 τ) (hM : TM (m 26) τ) (hI : IT τ) : ∀ (d b F : Nat) (s : Int32), d + 1 ≤ F → b + d = 16 → ∃ r, f3_rents_L4 F s (nI b) x = some r ∧ f4_rents_L4 F s (nI b) m = some r
  | d, b, 0, s, hF, hb => by omega
  | 0, b, F + 1, s, hF, hb => by
    rw [f3_rents_L4_s, f4_rents_L4_s, nl16, i_le_t (by omega) (by omega), i_le_t (by omega) (by omega)]
    exact ⟨s, rfl, rfl⟩
  | d + 1, b, F + 1, s, hF, hb => by
    rw [f3_rents_L4_s, f4_rents_L4_s, nl16, i_le_f (by omega) (by omega), i_le_f (by omega) (by omega), bd (x_rent hX hI (by omega)), bd (m_rent hM hI (by omega)), nl1, nI_add]
    exact R_rents_L hX hM hI d (b + 1) F _ (by omega) (by omega)
theorem R_rents {x m : St} (h : REL x m) : ∃ r, f3_rents x = some r ∧ f4_rents m = some r := by
  obtain ⟨⟨τ, hI, hM, hX, ⟨h9, h0, h6⟩, hz, hs⟩, hR⟩ := h
  exact R_rents_L hX hM hI 16 0 fu 0 (by rw [fu_eq]; omega) (by omega)
theorem R_dear_L {x m : St} {τ : Nat → Nat} (hX : TX x 0 τ) (hM : TM (m 26) τ) (hI : IT τ) : ∀ (d b F c : Nat), d + 1 ≤ F → b + d = 16 → c < 16 → ∃ r, f3_dearest_L4 F (nI c) (nI b) x = some r ∧ f4_dearest_L4 F (nI c) (nI b) m = some r
  | d, b, 0, c, hF, hb, hc => by omega
  | 0, b, F + 1, c, hF, hb, hc => by
    rw [f3_dearest_L4_s, f4_dearest_L4_s, nl16, i_le_t (by omega) (by omega), i_le_t (by omega) (by omega)]
    exact ⟨_, rfl, rfl⟩
  | d + 1, b, F + 1, c, hF, hb, hc => by
    rw [f3_dearest_L4_s, f4_dearest_L4_s, nl16, i_le_f (by omega) (by omega), i_le_f (by omega) (by omega), bd (x_rent hX hI (by omega)), bd (m_rent hM hI (by omega)), bd (x_rent hX hI hc), bd (m_rent hM hI hc)]
    unfold f3_dearest_b31 f4_dearest_b28
    rw [nl1, nI_add]
    by_cases e : nI (sRent τ b) ≤ nI (sRent τ c)
    · rw [if_pos e, if_pos e]
      exact R_dear_L hX hM hI d (b + 1) F c (by omega) (by omega) hc
    · rw [if_neg e, if_neg e]
      exact R_dear_L hX hM hI d (b + 1) F b (by omega) (by omega) (by omega)
theorem R_dear {x m : St} (h : REL x m) : ∃ r, f3_dearest x = some r ∧ f4_dearest m = some r := by
  obtain ⟨⟨τ, hI, hM, hX, ⟨h9, h0, h6⟩, hz, hs⟩, hR⟩ := h
  exact R_dear_L hX hM hI 15 1 fu 0 (by rw [fu_eq]; omega) (by omega) (by omega)
-- status
theorem R_stat_L {x m : St} (hF : FD x m) (a : Int32) (hq : a = -1 ↔ a < 0) : ∀ (d b F : Nat) (s : Int32), d + 1 ≤ F → b + d = 7 → ∃ r, f3_status_L26 F a s (nI b) x = some (r, x) ∧ f4_status_L24 F a s (nI b) m = some (r, m)
  | d, b, 0, s, hG, hb => by omega
  | 0, b, F + 1, s, hG, hb => by
    rw [f3_status_L26_s, f4_status_L24_s, nl7, i_le_t (by omega) (by omega), i_le_t (by omega) (by omega)]
    exact ⟨s, rfl, rfl⟩
  | d + 1, b, F + 1, s, hG, hb => by
    rw [f3_status_L26_s, f4_status_L24_s, nl7, i_le_f (by omega) (by omega), i_le_f (by omega) (by omega)]
    unfold f3_status_b45 f3_status_b54 f4_status_b40 f4_status_b50
    rw [if_neg (nI_in (by omega) (by omega)), if_neg (nI_in (by omega) (by omega)), nI_clamp (by omega), hF b (by omega), show nI b + 1 = nI (b + 1) by rw [nl1, nI_add]]
    have e0 : s + 0 = s := Int32.add_zero s
    by_cases e : a = -1
    · rw [if_pos e, if_pos (hq.mp e)]
      exact R_stat_L hF a hq d (b + 1) F _ (by omega) (by omega)
    · rw [if_neg e, if_neg (fun z => e (hq.mpr z))]
      by_cases g : a = nI b
      · rw [if_pos g, if_pos g]
        exact R_stat_L hF a hq d (b + 1) F _ (by omega) (by omega)
      · rw [if_neg g, if_neg g, e0]
        exact R_stat_L hF a hq d (b + 1) F _ (by omega) (by omega)
theorem R_status {x m : St} (h : REL x m) (a : Int32) : EQ (f3_status a x) (f4_status a m) := by
  unfold f3_status f4_status
  have ex : f3_isWithin a (-1) (7 - 1) = b01 (wi a (-1) 6) := x_within a (-1) 6
  have em : f4_in a.toInt64 (-1) 6 = b01 (wi a (-1) 6) := m_in a (-1) 6
  rw [ex, em]
  by_cases e : wi a (-1) 6 = true
  · have h1 := (wi_iff.mp e).1
    rw [e]
    simp only [b01_t, n10, if_false]
    have hq : a = -1 ↔ a < 0 := by
      rw [Int32.lt_iff_toInt_lt]
      rw [Int32.le_iff_toInt_le] at h1
      rw [← Int32.toInt_inj]
      have e1 : (-1 : Int32).toInt = -1 := by decide
      have e2 : (0 : Int32).toInt = 0 := by decide
      rw [e1] at h1 ⊢
      rw [e2]
      omega
    obtain ⟨r, q1, q2⟩ := R_stat_L h.2.2.1 a hq 7 0 fu 0 (by rw [fu_eq]; omega) (by omega)
    exact ⟨r, x, m, q1, q2, h⟩
  · have e' : wi a (-1) 6 = false := by simpa using e
    rw [e']
    simp only [b01_f, n00, if_true]
    exact EQf0 h (fun _ _ => rfl) (fun _ _ => rfl)
-- spots
theorem TW_sp {x : St} {t : Nat} {s : Nat → Int32} {τ : Nat → Nat} (h : TW x t s τ) {k : Nat} (hk : k < 10) (v : Int32) (hv : v = -1 ∨ ∃ w, w < 8 ∧ v = nI w) : TW (up x (4 + 4 * t) k v) t (upd s (109 + k) v) τ := by
  obtain ⟨hI, hM, hX, ⟨h0, h1, h2⟩, hz, hs⟩ := h
  refine ⟨hI, fun i a b c => ?_, TX_fr hX (up_cell _ _ _ (by omega)) (up_cell _ _ _ (by omega)) (up_cell _ _ _ (by omega)), ⟨h0, ?_, ?_⟩, ?_, fun i hi => ?_⟩
  · rw [upd_ne _ _ (by omega)]; exact hM i a b c
  · rw [upd_ne _ _ (by omega)]; exact h1
  · rw [up_cell _ _ _ (by omega)]; exact h2
  · rw [up_cell _ _ _ (by omega), upd_ne _ _ (by omega)]; exact hz
  · by_cases e : i = k
    · rw [e, up_eq, upd_eq]
      exact ⟨rfl, hv⟩
    · rw [up_ne2 _ _ e, upd_ne _ _ (by omega)]
      exact hs i hi
theorem R_hold {x m : St} (h : REL x m) (a b : Int32) : EQ (f3_hold a b x) (f4_hold a b m) := by
  have hh := h
  obtain ⟨⟨τ, hI, hM, hX, ⟨h9, h0, h6⟩, hz, hs⟩, hR⟩ := h
  have hW : TW x 0 (m 26) τ := ⟨hI, hM, hX, ⟨h9, h0, h6⟩, hz, hs⟩
  have h8 := hI.1
  unfold f3_hold f4_hold f3_hold_b26 f4_hold_b20
  have ex : f3_isWithin a 0 9 = b01 (wi a 0 (nI 9)) := x_within a 0 9
  rw [ex, m_isSpot, x_hasW hX, bd (m_isW hM hI b)]
  rcases cls0 a 9 (by omega) with e | ⟨k, hk, e⟩
  · simp only [e, b01_f, n00, if_true]
    exact EQf0 hh (fun _ _ => rfl) (fun _ _ => rfl)
  · subst e
    simp only [wi_t hk (by omega), b01_t, n10, if_false]
    have key : (b = -1 ∨ ∃ w, w < 8 ∧ b = nI w) → EQ (f3_hold_b33 (nI k) b x) (f4_hold_b26 (nI k) b m) := by
      intro hv
      unfold f3_hold_b33 f4_hold_b26 f2_setSpot f3_put
      rw [nl109, nI_add, if_neg (nI_in (by omega) (by omega)), nI_clamp (by omega), if_neg (show ¬ nI k < 0 by rw [nl0]; exact nI_nlt (by omega) (by omega)), if_neg (show ¬ Int32.ofNat 10 ≤ nI k from nI_ge (by omega) (by omega)), if_neg (nI_in (by omega) (by omega)), nI_clamp (by omega)]
      refine EQ_mk (τ := τ) hR ?_ (XR_up (by omega)) MR_up
      show TW _ 0 (up m 26 (109 + k) b 26) _
      rw [up26]
      exact TW_sp hW (by omega) b hv
    by_cases e : b = -1
    · rw [if_pos e, if_pos e]
      exact key (Or.inl e)
    · rw [if_neg e, if_neg e]
      rcases clsW hI b with g | ⟨w, hw, g⟩
      · simp only [g, b01_f, n00, if_true]
        exact EQf0 hh (fun _ _ => rfl) (fun _ _ => rfl)
      · have ew : isW τ b = true := by rw [g]; exact isW_t hI hw
        simp only [ew, b01_t, n10, if_false]
        exact key (Or.inr ⟨w, by omega, g⟩)
theorem un_x : ∀ (F : Nat) (b1 b2 b3 : Int32) (x : St), f3_isUnder_L4 F b1 b2 b3 x = f3_isUnder_L4 F b1 b2 b3 (fun _ _ => 0)
  | 0, _, _, _, _ => rfl
  | F + 1, b1, b2, b3, x => by
    rw [f3_isUnder_L4_s, f3_isUnder_L4_s, un_x F _ _ _ x]
set_option maxRecDepth 10000 in
theorem un_d : ∀ k, k < 7 → ∀ j, j < 7 → f3_isUnder (nI k) (nI j) (fun _ _ => 0) = f4_isUnder (nI k) (nI j) ∧ (f4_isUnder (nI k) (nI j) = some (b01 true) ∨ f4_isUnder (nI k) (nI j) = some (b01 false)) := by decide +kernel
theorem under_eq (x : St) (k : Nat) (hk : k < 7) (j : Nat) (hj : j < 7) : f3_isUnder (nI k) (nI j) x = f4_isUnder (nI k) (nI j) ∧ ∃ b, f4_isUnder (nI k) (nI j) = some (b01 b) := by
  obtain ⟨h1, h2⟩ := un_d k hk j hj
  refine ⟨(un_x fu _ _ _ x).trans h1, ?_⟩
  rcases h2 with h2 | h2
  · exact ⟨true, h2⟩
  · exact ⟨false, h2⟩
