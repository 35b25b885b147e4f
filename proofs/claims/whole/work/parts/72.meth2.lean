theorem upd_ne (f : Nat → Int32) {i j : Nat} (v : Int32) (h : j ≠ i) : upd f i v j = f j := by
  unfold upd
  rw [if_neg h]
theorem upd_eq (f : Nat → Int32) (i : Nat) (v : Int32) : upd f i v i = v := by
  unfold upd
  rw [if_pos rfl]
theorem R_change {x m : St} (h : REL x m) (a b v : Int32) : EQ (f3_change a b v x) (f4_change a b v m) := by
  have hh := h
  obtain ⟨⟨τ, hI, hM, hX, ⟨h9, h0, h6⟩, hz, hs⟩, hR⟩ := h
  have hW : TW x 0 (m 26) τ := ⟨hI, hM, hX, ⟨h9, h0, h6⟩, hz, hs⟩
  have h8 := hI.1
  unfold f3_change f4_change f3_change_b19 f4_change_b32
  rw [x_hasW hX, bd (m_isW hM hI a)]
  rcases clsW hI a with e | ⟨w, hw, e⟩
  · simp only [e, b01_f, n00, if_true]
    exact EQf0 hh (fun _ _ => rfl) (fun _ _ => rfl)
  · rw [e, isW_t hI hw]
    simp only [b01_t, n10, if_false]
    rcases cls0 b 2 (by omega) with g | ⟨k, hk, g⟩
    · rw [x_isQualF x b v g, Option.bind_some, m_mayBeF b v g]
      simp only [n00, if_true]
      exact EQf0 hh (fun _ _ => rfl) (fun _ _ => rfl)
    · have h3 : k < 3 := by omega
      rw [g, x_isQual x v h3, Option.bind_some, m_mayBe v h3]
      have hq : qHi k ≤ 999 := by unfold qHi; split; omega; split <;> omega
      rcases cls v (qLo k) (qHi k) (by unfold qLo; split <;> omega) (by omega) with f | ⟨n, hn1, hn2, f⟩
      · simp only [f, b01_f, n00, if_true]
        exact EQf0 hh (fun _ _ => rfl) (fun _ _ => rfl)
      · have ew : wi v (nI (qLo k)) (nI (qHi k)) = true := by
          rw [f]
          exact wi_iff.mpr ⟨nI_le hn1 (by omega), nI_le hn2 (by omega)⟩
        rw [ew]
        simp only [b01_t, n10, if_false]
        have e5 : ((85 : Int32) + 3 * nI w) + nI k = nI (85 + 3 * w + k) := by rw [nl85, nl3, pk_mul, nI_add, nI_add]
        have hset : f2_setQuality 0 (nI w) (nI k) (nI n) x = some (up x (3 + 4 * 0) (3 * w + k) (nI n)) := by
          match k, h3 with
          | 0, _ => exact x_setQ0 (by omega)
          | 1, _ => exact x_setQ1 (by omega)
          | 2, _ => exact x_setQ2 (by omega)
        rw [bd (x_its hX (by omega) h3), f, bd hset, e5, bd (m_becomes (by omega) _), hM _ (by omega) (by omega) (by omega)]
        refine EQ_mk (τ := upN τ (85 + 3 * w + k) n) hR ?_ (XR_up (by omega)) MR_up
        show TW _ 0 (up m 26 (85 + 3 * w + k) (nI n) 26) _
        rw [up26]
        exact TW_upq hW (by omega) h3 hn2
-- a new whisper
def addN (τ : Nat → Nat) (k c v : Nat) : Nat → Nat := upN (upN (upN (upN τ 1 (τ 1 + 1)) (85 + 3 * τ 1 + 0) k) (85 + 3 * τ 1 + 1) c) (85 + 3 * τ 1 + 2) v
theorem IT_add {τ : Nat → Nat} (hI : IT τ) {k c v : Nat} (h : τ 1 < 8) (hk : k ≤ 6) (hc : c ≤ 15) (hv : v ≤ 999) : IT (addN τ k c v) :=
  IT_upq (IT_upq (IT_upq (IT_up hI (Or.inr (Or.inl ⟨rfl, by omega⟩))) h (by omega) hk) h (by omega) hc) h (by omega) hv
theorem TX_many {x : St} {t : Nat} {τ : Nat → Nat} (hX : TX x t τ) (n : Nat) : TX (up x (1 + 4 * t) 3 (nI n)) t (upN τ 1 n) := by
  refine ⟨fun i hi => ?_, fun i hi => ?_, ?_, ?_, ?_⟩
  · rw [up_ne1 _ _ _ _ (by omega), upN_ne _ _ (by omega)]; exact hX.1 i hi
  · rw [up_ne1 _ _ _ _ (by omega), upN_ne _ _ (by omega)]; exact hX.2.1 i hi
  · rw [up_eq, upN_eq]
  · rw [up_ne2 _ _ (by omega), upN_ne _ _ (by omega)]; exact hX.2.2.2.1
  · rw [up_ne2 _ _ (by omega), upN_ne _ _ (by omega)]; exact hX.2.2.2.2
theorem x_full {x : St} {t : Nat} {τ : Nat → Nat} (hX : TX x t τ) (hI : IT τ) : f2_isFull t x = b01 (decide (τ 1 = 8)) := by
  have h8 := hI.1
  unfold f2_isFull b01
  rw [hX.2.2.1]
  by_cases e : τ 1 = 8
  · rw [if_neg (by rw [nl8]; exact nI_nlt (by omega) (by omega)), if_pos (by simp [e])]
  · rw [if_pos (by rw [nl8]; exact nI_lt (by omega) (by omega)), if_neg (by simp [e])]
theorem x_add {x : St} {t : Nat} {τ : Nat → Nat} (hX : TX x t τ) (hI : IT τ) (h : τ 1 < 8) (k c v : Nat) : ∃ x', f2_addWhisper t (nI k) (nI c) (nI v) x = some (nI (τ 1), x') ∧ TX x' t (addN τ k c v) ∧ (∀ a, a ≠ 1 + 4 * t → a ≠ 3 + 4 * t → x' a = x a) ∧ ∀ i, i ≠ 3 → x' (1 + 4 * t) i = x (1 + 4 * t) i := by
  unfold f2_addWhisper
  rw [x_full hX hI, show decide (τ 1 = 8) = false by simp; omega, if_pos (by rfl), hX.2.2.1, nl1, nI_add, bd (x_setQ0 h), ← nl1, bd (x_setQ1 h), bd (x_setQ2 h)]
  refine ⟨_, rfl, ?_, fun a h1 h2 => ?_, fun i hi => ?_⟩
  · exact TX_upq (TX_upq (TX_upq (TX_many hX (τ 1 + 1)) k h (by omega)) c h (by omega)) v h (by omega)
  · rw [up_cell _ _ _ h2, up_cell _ _ _ h2, up_cell _ _ _ h2, up_cell _ _ _ h1]
  · rw [up_ne1 _ _ _ _ (by omega), up_ne1 _ _ _ _ (by omega), up_ne1 _ _ _ _ (by omega), up_ne2 _ _ hi]
theorem m_add {m : St} {τ : Nat → Nat} (hM : TM (m 26) τ) (h : τ 1 < 8) (k c v : Nat) : ∃ m', f4_adds (nI k) (nI c) (nI v) m = some (nI (τ 1), m') ∧ TM (m' 26) (addN τ k c v) ∧ (∀ a, a ≠ 26 → m' a = m a) ∧ ∀ i, (i = 0 ∨ 1 < i) → (i < 85 ∨ 109 ≤ i) → m' 26 i = m 26 i := by
  unfold f4_adds
  rw [if_neg (by decide), if_neg (by decide), if_neg (by decide), m_many hM, show (1 : Int32).toNatClampNeg = 1 from rfl, nl1, nI_add, bd (m_sets0 h), ← nl1, bd (m_sets1 h), bd (m_sets2 h)]
  refine ⟨_, rfl, ?_, fun a h1 => ?_, fun i h1 h2 => ?_⟩
  · exact TM_up (TM_up (TM_up (TM_up hM 1 (τ 1 + 1)) _ k) _ c) _ v
  · rw [up_cell _ _ _ h1, up_cell _ _ _ h1, up_cell _ _ _ h1, up_cell _ _ _ h1]
  · rw [up_ne2 _ _ (by omega), up_ne2 _ _ (by omega), up_ne2 _ _ (by omega), up_ne2 _ _ (by omega)]
theorem add_lo {τ : Nat → Nat} {k c v i : Nat} (h : i ≠ 1) (h2 : i < 85) : addN τ k c v i = τ i := by
  unfold addN
  rw [upN_ne _ _ (by omega), upN_ne _ _ (by omega), upN_ne _ _ (by omega), upN_ne _ _ h]
theorem TW_add {x x' : St} {t : Nat} {s s' : Nat → Int32} {τ : Nat → Nat} {k c v : Nat} (h : TW x t s τ) (h8 : τ 1 < 8) (hk : k ≤ 6) (hc : c ≤ 15) (hv : v ≤ 999) (q1 : TX x' t (addN τ k c v)) (q2 : ∀ a, a ≠ 1 + 4 * t → a ≠ 3 + 4 * t → x' a = x a) (q3 : ∀ i, i ≠ 3 → x' (1 + 4 * t) i = x (1 + 4 * t) i) (p1 : TM s' (addN τ k c v)) (p2 : ∀ i, (i = 0 ∨ 1 < i) → (i < 85 ∨ 109 ≤ i) → s' i = s i) : TW x' t s' (addN τ k c v) := by
  obtain ⟨hI, hM, hX, ⟨h0, h1, h2⟩, hz, hs⟩ := h
  refine ⟨IT_add hI h8 hk hc hv, p1, q1, ⟨?_, ?_, ?_⟩, ?_, fun i hi => ?_⟩
  · rw [add_lo (by omega) (by omega)]; exact h0
  · rw [add_lo (by omega) (by omega), p2 0 (by omega) (by omega)]; exact h1
  · rw [add_lo (by omega) (by omega), q3 6 (by omega)]; exact h2
  · rw [q3 7 (by omega), p2 4 (by omega) (by omega)]; exact hz
  · rw [q2 _ (by omega) (by omega), p2 _ (by omega) (by omega)]; exact hs i hi
theorem R_says {x m : St} (h : REL x m) (a b : Int32) : EQ (f3_says a b x) (f4_says a b m) := by
  have hh := h
  obtain ⟨⟨τ, hI, hM, hX, ⟨h9, h0, h6⟩, hz, hs⟩, hR⟩ := h
  have hW : TW x 0 (m 26) τ := ⟨hI, hM, hX, ⟨h9, h0, h6⟩, hz, hs⟩
  have h8 := hI.1
  unfold f3_says f4_says f3_says_b14 f4_says_b14
  rw [x_isCorner, m_isCorner, x_isKind, m_isKind]
  rcases cls0 a 6 (by omega) with e | ⟨k, hk, e⟩
  · simp only [e, b01_f, n00, if_true]
    exact EQf0 hh (fun _ _ => rfl) (fun _ _ => rfl)
  · subst e
    simp only [wi_t hk (by omega), b01_t, n10, if_false]
    rcases cls0 b 15 (by omega) with e | ⟨c, hc, e⟩
    · simp only [e, b01_f, n00, if_true]
      exact EQf0 hh (fun _ _ => rfl) (fun _ _ => rfl)
    · subst e
      simp only [wi_t hc (by omega), b01_t, n10, if_false]
      rw [if_neg g119_1, m_many hM, x_full hX hI]
      by_cases e8 : τ 1 = 8
      · rw [show decide (τ 1 = 8) = true by simp [e8], e8, if_pos (show nI 8 = 8 from rfl)]
        simp only [b01_t, n10, if_false]
        exact EQf1 hh (fun _ _ => rfl) (fun _ _ => rfl)
      · rw [show decide (τ 1 = 8) = false by simp [e8], if_neg (show ¬ nI (τ 1) = 8 from fun z => e8 (n_inj (by omega) (by omega) z))]
        simp only [b01_f, n00, if_true]
        obtain ⟨x', q0, q1, q2, q3⟩ := x_add hX hI (by omega) k c 1
        obtain ⟨m', p0, p1, p2, p3⟩ := m_add hM (by omega) k c 1
        rw [nl1, bd q0, bd p0]
        have hm : MR m m' := ⟨fun a _ h2 _ _ _ => p2 a h2, by rw [p2 25 (by omega)], by rw [p2 25 (by omega)]⟩
        exact EQ_mk hR (TW_add hW (by omega) hk hc (by omega) q1 q2 q3 p1 p3) (fun a h1 h2 => q2 a (by omega) (by omega)) hm
-- sets and the frost
theorem TW_up3 {x : St} {t : Nat} {s : Nat → Int32} {τ : Nat → Nat} (h : TW x t s τ) {v : Nat} (hv : v ≤ 65535) : TW (up x (1 + 4 * t) 4 (nI v)) t (upd s 3 (nI v)) (upN τ 3 v) := by
  obtain ⟨hI, hM, hX, ⟨h0, h1, h2⟩, hz, hs⟩ := h
  refine ⟨IT_up hI (Or.inr (Or.inr (Or.inr ⟨rfl, hv⟩))), ?_, ⟨fun i hi => ?_, fun i hi => ?_, ?_, ?_, ?_⟩, ⟨?_, ?_, ?_⟩, ?_, fun i hi => ?_⟩
  · have := TM_up (m := fun _ => s) hM 3 v
    rw [show up (fun _ => s) 26 3 (nI v) 26 = upd s 3 (nI v) from uR_eq _ _ _] at this
    exact this
  · rw [up_ne1 _ _ _ _ (by omega), upN_ne _ _ (by omega)]; exact hX.1 i hi
  · rw [up_ne1 _ _ _ _ (by omega), upN_ne _ _ (by omega)]; exact hX.2.1 i hi
  · rw [up_ne2 _ _ (by omega), upN_ne _ _ (by omega)]; exact hX.2.2.1
  · rw [up_eq, upN_eq]
  · rw [up_ne2 _ _ (by omega), upN_ne _ _ (by omega)]; exact hX.2.2.2.2
  · rw [upN_ne _ _ (by omega)]; exact h0
  · rw [upN_ne _ _ (by omega), upd_ne _ _ (by omega)]; exact h1
  · rw [up_ne2 _ _ (by omega), upN_ne _ _ (by omega)]; exact h2
  · rw [up_ne2 _ _ (by omega), upd_ne _ _ (by omega)]; exact hz
  · rw [up_ne1 _ _ _ _ (by omega), upd_ne _ _ (by omega)]; exact hs i hi
theorem TW_up2 {x : St} {t : Nat} {s : Nat → Int32} {τ : Nat → Nat} (h : TW x t s τ) {v : Nat} (hv : v ≤ 1) : TW (up x (1 + 4 * t) 5 (nI v)) t (upd s 2 (nI v)) (upN τ 2 v) := by
  obtain ⟨hI, hM, hX, ⟨h0, h1, h2⟩, hz, hs⟩ := h
  refine ⟨IT_up hI (Or.inr (Or.inr (Or.inl ⟨rfl, hv⟩))), ?_, ⟨fun i hi => ?_, fun i hi => ?_, ?_, ?_, ?_⟩, ⟨?_, ?_, ?_⟩, ?_, fun i hi => ?_⟩
  · have := TM_up (m := fun _ => s) hM 2 v
    rw [show up (fun _ => s) 26 2 (nI v) 26 = upd s 2 (nI v) from uR_eq _ _ _] at this
    exact this
  · rw [up_ne1 _ _ _ _ (by omega), upN_ne _ _ (by omega)]; exact hX.1 i hi
  · rw [up_ne1 _ _ _ _ (by omega), upN_ne _ _ (by omega)]; exact hX.2.1 i hi
  · rw [up_ne2 _ _ (by omega), upN_ne _ _ (by omega)]; exact hX.2.2.1
  · rw [up_ne2 _ _ (by omega), upN_ne _ _ (by omega)]; exact hX.2.2.2.1
  · rw [up_eq, upN_eq]
  · rw [upN_ne _ _ (by omega)]; exact h0
  · rw [upN_ne _ _ (by omega), upd_ne _ _ (by omega)]; exact h1
  · rw [up_ne2 _ _ (by omega), upN_ne _ _ (by omega)]; exact h2
  · rw [up_ne2 _ _ (by omega), upd_ne _ _ (by omega)]; exact hz
  · rw [up_ne1 _ _ _ _ (by omega), upd_ne _ _ (by omega)]; exact hs i hi
theorem TW_upz {x : St} {t : Nat} {s : Nat → Int32} {τ : Nat → Nat} (h : TW x t s τ) (v : Int32) : TW (up x (1 + 4 * t) 7 v) t (upd s 4 v) τ := by
  obtain ⟨hI, hM, hX, ⟨h0, h1, h2⟩, hz, hs⟩ := h
  refine ⟨hI, fun i a b c => ?_, ⟨fun i hi => ?_, fun i hi => ?_, ?_, ?_, ?_⟩, ⟨h0, ?_, ?_⟩, ?_, fun i hi => ?_⟩
  · rw [upd_ne _ _ c]; exact hM i a b c
  · rw [up_ne1 _ _ _ _ (by omega)]; exact hX.1 i hi
  · rw [up_ne1 _ _ _ _ (by omega)]; exact hX.2.1 i hi
  · rw [up_ne2 _ _ (by omega)]; exact hX.2.2.1
  · rw [up_ne2 _ _ (by omega)]; exact hX.2.2.2.1
  · rw [up_ne2 _ _ (by omega)]; exact hX.2.2.2.2
  · rw [upd_ne _ _ (by omega)]; exact h1
  · rw [up_ne2 _ _ (by omega)]; exact h2
  · rw [up_eq, upd_eq]
  · rw [up_ne1 _ _ _ _ (by omega), upd_ne _ _ (by omega)]; exact hs i hi
theorem R_aunts {x m : St} (h : REL x m) (a : Int32) : EQ (f3_aunts a x) (f4_aunts a m) := by
  have hh := h
  obtain ⟨⟨τ, hI, hM, hX, ⟨h9, h0, h6⟩, hz, hs⟩, hR⟩ := h
  have hW : TW x 0 (m 26) τ := ⟨hI, hM, hX, ⟨h9, h0, h6⟩, hz, hs⟩
  unfold f3_aunts f4_aunts
  rw [x_isSet, m_isSet]
  rcases cls0 a 65535 (by omega) with e | ⟨n, hn, e⟩
  · simp only [e, b01_f, n00, if_true]
    exact EQf0 hh (fun _ _ => rfl) (fun _ _ => rfl)
  · subst e
    simp only [wi_t hn (by omega), b01_t, n10, if_false]
    rw [nl3, bd (m_becomes (by omega) _), hX.2.2.2.1, hM 3 (by omega) (by omega) (by omega)]
    refine EQ_mk (τ := upN τ 3 n) hR ?_ (XR_up (by omega)) MR_up
    show TW _ 0 (up m 26 3 (nI n) 26) _
    rw [up26]
    exact TW_up3 hW hn
theorem R_frost {x m : St} (h : REL x m) (a : Int32) : EQ (f3_frost a x) (f4_frost a m) := by
  have hh := h
  obtain ⟨⟨τ, hI, hM, hX, ⟨h9, h0, h6⟩, hz, hs⟩, hR⟩ := h
  have hW : TW x 0 (m 26) τ := ⟨hI, hM, hX, ⟨h9, h0, h6⟩, hz, hs⟩
  unfold f3_frost f4_frost
  have ex : f3_isWithin a 0 1 = b01 (wi a 0 (nI 1)) := x_within a 0 1
  have em : f4_in a.toInt64 0 1 = b01 (wi a 0 (nI 1)) := m_in a 0 1
  rw [ex, em]
  rcases cls0 a 1 (by omega) with e | ⟨n, hn, e⟩
  · simp only [e, b01_f, n00, if_true]
    exact EQf0 hh (fun _ _ => rfl) (fun _ _ => rfl)
  · subst e
    simp only [wi_t hn (by omega), b01_t, n10, if_false]
    rw [nl2, bd (m_becomes (by omega) _), hX.2.2.2.2, hM 2 (by omega) (by omega) (by omega)]
    refine EQ_mk (τ := upN τ 2 n) hR ?_ (XR_up (by omega)) MR_up
    show TW _ 0 (up m 26 2 (nI n) 26) _
    rw [up26]
    exact TW_up2 hW hn
theorem R_seed {x m : St} (h : REL x m) (a : Int32) : EQ (some (f3_seed a x)) (f4_seed a m) := by
  have hh := h
  obtain ⟨⟨τ, hI, hM, hX, ⟨h9, h0, h6⟩, hz, hs⟩, hR⟩ := h
  have hW : TW x 0 (m 26) τ := ⟨hI, hM, hX, ⟨h9, h0, h6⟩, hz, hs⟩
  unfold f3_seed f4_seed
  rw [show (4 : Int32) = nI 4 from rfl, bd (m_becomes (by omega) _), hz]
  refine EQ_mk (τ := τ) hR ?_ (XR_up (by omega)) MR_up
  show TW _ 0 (up m 26 4 a 26) _
  rw [up26]
  exact TW_upz hW a
