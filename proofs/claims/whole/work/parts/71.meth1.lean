theorem x_w0 (a : Int32) (N : Nat) : f3_isWithin a 0 (nI N) = b01 (wi a 0 (nI N)) := x_within a 0 (nI N)
theorem R_corner {x m : St} (h : REL x m) (a b : Int32) : EQ (f3_corner a b x) (f4_corner a b m) := by
  have hh := h
  obtain ⟨⟨τ, hI, hM, hX, ⟨h9, h0, h6⟩, hz, hs⟩, hR⟩ := h
  unfold f3_corner f4_corner f3_corner_b17 f4_corner_b19
  have ex : f3_isWithin b 0 8 = b01 (wi b 0 (nI 8)) := x_within b 0 8
  have em : f4_in b.toInt64 0 8 = b01 (wi b 0 (nI 8)) := m_in b 0 8
  rw [x_isCorner, m_isCorner, ex, em]
  rcases cls0 a 15 (by omega) with e | ⟨c, hc, e⟩
  · simp only [e, b01_f, n00, if_true]
    exact EQf0 hh (fun _ _ => rfl) (fun _ _ => rfl)
  · subst e
    simp only [wi_t hc (by omega), b01_t, n10, if_false]
    rcases cls0 b 8 (by omega) with e | ⟨k, hk, e⟩
    · simp only [e, b01_f, n00, if_true]
      exact EQf0 hh (fun _ _ => rfl) (fun _ _ => rfl)
    · subst e
      simp only [wi_t hk (by omega), b01_t, n10, if_false]
      rcases (show k = 0 ∨ k = 1 ∨ k = 2 ∨ k = 3 ∨ k = 4 ∨ k = 5 ∨ k = 6 ∨ k = 7 ∨ k = 8 by omega) with z | z | z | z | z | z | z | z | z <;> subst z
      · simp only [ne_0_5, ne_0_6, ne_0_7, ne_0_8, if_true, if_false]
        rw [bd (x_part hX (by omega) (by omega)), bd (m_part hM (by omega) (by omega))]
        exact EQs hh _
      · simp only [ne_1_5, ne_1_6, ne_1_7, ne_1_8, if_true, if_false]
        rw [bd (x_part hX (by omega) (by omega)), bd (m_part hM (by omega) (by omega))]
        exact EQs hh _
      · simp only [ne_2_5, ne_2_6, ne_2_7, ne_2_8, if_true, if_false]
        rw [bd (x_part hX (by omega) (by omega)), bd (m_part hM (by omega) (by omega))]
        exact EQs hh _
      · simp only [ne_3_5, ne_3_6, ne_3_7, ne_3_8, if_true, if_false]
        rw [bd (x_part hX (by omega) (by omega)), bd (m_part hM (by omega) (by omega))]
        exact EQs hh _
      · simp only [ne_4_5, ne_4_6, ne_4_7, ne_4_8, if_true, if_false]
        rw [bd (x_part hX (by omega) (by omega)), bd (m_part hM (by omega) (by omega))]
        exact EQs hh _
      · simp only [eq_5_5, ne_5_6, ne_5_7, ne_5_8, if_true, if_false]
        rw [bd (x_steep hX hI (by omega)), bd (m_steep hM hI (by omega))]
        exact EQs hh _
      · simp only [ne_6_5, eq_6_6, ne_6_7, ne_6_8, if_true, if_false]
        rw [bd (x_loud hX hI (by omega)), bd (m_loud hM hI (by omega))]
        exact EQs hh _
      · simp only [ne_7_5, ne_7_6, eq_7_7, ne_7_8, if_true, if_false]
        rw [bd (x_heard hX hI (by omega)), bd (m_heard hM hI (by omega))]
        rw [b01_0, b01_0]
        cases sHeard τ c
        · exact EQs hh _
        · exact EQs hh _
      · simp only [ne_8_5, ne_8_6, ne_8_7, eq_8_8, if_true, if_false]
        rw [bd (x_rent hX hI (by omega)), bd (m_rent hM hI (by omega))]
        exact EQs hh _
-- a stored part
def mostT (k : Nat) : Nat := if k = 1 then 15 else if k = 2 then 9 else 99
theorem IT_upt {τ : Nat → Nat} (hI : IT τ) {c k v : Nat} (hc : c < 16) (hk : k < 5) (hv : v ≤ mostT k) : IT (upN τ (5 + 5 * c + k) v) := by
  unfold mostT at hv
  refine ⟨?_, ?_, ?_, fun d hd => ?_, fun w hw => ?_⟩
  · rw [upN_ne _ _ (by omega)]; exact hI.1
  · rw [upN_ne _ _ (by omega)]; exact hI.2.1
  · rw [upN_ne _ _ (by omega)]; exact hI.2.2.1
  · have h1 := it_t hI hd
    unfold tr upN at *
    refine ⟨?_, ?_, ?_, ?_, ?_⟩ <;> split <;> first | omega | (split at hv <;> first | omega | (split at hv <;> omega))
  · have h1 := it_w hI hw
    unfold qu at *
    rw [upN_ne _ _ (by omega), upN_ne _ _ (by omega), upN_ne _ _ (by omega)]
    exact h1
theorem IT_upq {τ : Nat → Nat} (hI : IT τ) {w k v : Nat} (hw : w < 8) (hk : k < 3) (hv : v ≤ (if k = 0 then 6 else if k = 1 then 15 else 999)) : IT (upN τ (85 + 3 * w + k) v) := by
  refine ⟨?_, ?_, ?_, fun d hd => ?_, fun j hj => ?_⟩
  · rw [upN_ne _ _ (by omega)]; exact hI.1
  · rw [upN_ne _ _ (by omega)]; exact hI.2.1
  · rw [upN_ne _ _ (by omega)]; exact hI.2.2.1
  · have h1 := it_t hI hd
    rw [tr_up (by omega) hd (by omega), tr_up (by omega) hd (by omega), tr_up (by omega) hd (by omega), tr_up (by omega) hd (by omega), tr_up (by omega) hd (by omega)]
    exact h1
  · have h1 := it_w hI hj
    unfold qu upN at *
    refine ⟨?_, ?_, ?_⟩ <;> split <;> first | omega | (split at hv <;> first | omega | (split at hv <;> omega))
theorem IT_up {τ : Nat → Nat} (hI : IT τ) {k v : Nat} (hv : k = 0 ∨ k = 1 ∧ v ≤ 8 ∨ k = 2 ∧ v ≤ 1 ∨ k = 3 ∧ v ≤ 65535) : IT (upN τ k v) := by
  obtain ⟨a, b, c, d, e⟩ := hI
  unfold tr qu at *
  refine ⟨?_, ?_, ?_, fun j hj => ?_, fun w hw => ?_⟩
  · unfold upN; split <;> omega
  · unfold upN; split <;> omega
  · unfold upN; split <;> omega
  · have := d j hj
    unfold tr
    rw [upN_ne _ _ (by omega), upN_ne _ _ (by omega), upN_ne _ _ (by omega), upN_ne _ _ (by omega), upN_ne _ _ (by omega)]
    exact this
  · have := e w hw
    unfold qu
    rw [upN_ne _ _ (by omega), upN_ne _ _ (by omega), upN_ne _ _ (by omega)]
    exact this
-- both towns behind a store
theorem TW_upt {x : St} {t : Nat} {s : Nat → Int32} {τ : Nat → Nat} (h : TW x t s τ) {c k v : Nat} (hc : c < 16) (hk : k < 5) (hv : v ≤ mostT k) : TW (up x (2 + 4 * t) (5 * c + k) (nI v)) t (upd s (5 + 5 * c + k) (nI v)) (upN τ (5 + 5 * c + k) v) := by
  obtain ⟨hI, hM, hX, ⟨h0, h1, h2⟩, hz, hs⟩ := h
  refine ⟨IT_upt hI hc hk hv, ?_, TX_upt hX v hc hk, ⟨?_, ?_, ?_⟩, ?_, fun i hi => ?_⟩
  · have := TM_up (m := fun _ => s) hM (5 + 5 * c + k) v
    rw [show up (fun _ => s) 26 (5 + 5 * c + k) (nI v) 26 = upd s (5 + 5 * c + k) (nI v) from uR_eq _ _ _] at this
    exact this
  · rw [upN_ne _ _ (by omega)]; exact h0
  · rw [upN_ne _ _ (by omega)]
    unfold upd
    rw [if_neg (by omega), h1]
  · rw [up_ne1 _ _ _ _ (by omega), upN_ne _ _ (by omega)]; exact h2
  · rw [up_ne1 _ _ _ _ (by omega), hz]
    unfold upd
    rw [if_neg (by omega)]
  · rw [up_ne1 _ _ _ _ (by omega)]
    unfold upd
    rw [if_neg (by omega)]
    exact hs i hi
theorem TW_upq {x : St} {t : Nat} {s : Nat → Int32} {τ : Nat → Nat} (h : TW x t s τ) {w k v : Nat} (hw : w < 8) (hk : k < 3) (hv : v ≤ (if k = 0 then 6 else if k = 1 then 15 else 999)) : TW (up x (3 + 4 * t) (3 * w + k) (nI v)) t (upd s (85 + 3 * w + k) (nI v)) (upN τ (85 + 3 * w + k) v) := by
  obtain ⟨hI, hM, hX, ⟨h0, h1, h2⟩, hz, hs⟩ := h
  refine ⟨IT_upq hI hw hk hv, ?_, TX_upq hX v hw hk, ⟨?_, ?_, ?_⟩, ?_, fun i hi => ?_⟩
  · have := TM_up (m := fun _ => s) hM (85 + 3 * w + k) v
    rw [show up (fun _ => s) 26 (85 + 3 * w + k) (nI v) 26 = upd s (85 + 3 * w + k) (nI v) from uR_eq _ _ _] at this
    exact this
  · rw [upN_ne _ _ (by omega)]; exact h0
  · rw [upN_ne _ _ (by omega)]
    unfold upd
    rw [if_neg (by omega), h1]
  · rw [up_ne1 _ _ _ _ (by omega), upN_ne _ _ (by omega)]; exact h2
  · rw [up_ne1 _ _ _ _ (by omega), hz]
    unfold upd
    rw [if_neg (by omega)]
  · rw [up_ne1 _ _ _ _ (by omega)]
    unfold upd
    rw [if_neg (by omega)]
    exact hs i hi
theorem XR_up {x : St} {k i : Nat} {v : Int32} (h : k = 1 ∨ k = 2 ∨ k = 3 ∨ k = 4) : XR x (up x k i v) := fun a b _ => up_cell _ _ _ (by omega)
theorem MR_up {m : St} {i : Nat} {v : Int32} : MR m (up m 26 i v) := ⟨fun k _ b _ _ _ => up_cell _ _ _ b, up_ne1 _ _ _ _ (by decide), up_ne1 _ _ _ _ (by decide)⟩
theorem up26 (m : St) (i : Nat) (v : Int32) : up m 26 i v 26 = upd (m 26) i v := uR_eq _ _ _
theorem EQ_mk {α : Type} {x m x' m' : St} {τ : Nat → Nat} {v : α} (hR : RST x m) (hW : TW x' 0 (m' 26) τ) (hx : XR x x') (hm : MR m m') : EQ (some (v, x')) (some (v, m')) := ⟨v, x', m', rfl, rfl, REL_mk hR hW hx hm⟩
-- build
theorem m_becomes {m : St} {k : Nat} (hk : k < 119) (v : Int32) : f4_becomes (nI k) v m = some (m 26 k, up m 26 k v) := by
  unfold f4_becomes
  rw [if_neg (nI_in hk (by omega)), if_neg (nI_in hk (by omega)), nI_clamp (by omega)]
theorem mostOf_eq : ∀ k, k < 5 → f4_mostOf (nI k) = nI (mostT k) := by decide
theorem tv0_eq : ∀ k, k < 5 → tv 0 (nI k) = nI (mostT k) := by decide
theorem mostT_le (k : Nat) : mostT k ≤ 99 := by unfold mostT; split; omega; split <;> omega
theorem x_isTrait (x : St) (a : Int32) {k : Nat} (hk : k < 5) : f3_isTrait (nI k) a x = some (b01 (wi a 0 (nI (mostT k)))) := by
  unfold f3_isTrait
  rw [if_neg (by rw [nl0]; exact nI_nlt (by omega) (by omega)), if_neg (by rw [nl5]; exact nI_ge hk (by omega)), if_neg (nI_in hk (by omega)), tv0_eq k hk, x_within, b01_0]
  cases wi a 0 (nI (mostT k)) <;> rfl
theorem x_isTraitF (x : St) (a v : Int32) (h : wi a 0 (nI 4) = false) : f3_isTrait a v x = some 0 := by
  unfold f3_isTrait
  by_cases h1 : a < 0
  · rw [if_pos h1]
  · rw [if_neg h1]
    by_cases h2 : (5 : Int32) ≤ a
    · rw [if_pos h2]
    · exfalso
      obtain ⟨j, hj, e, _⟩ := pk_mu (x := a) (L := 5) h1 h2 (by omega)
      rw [e, wi_t (by omega) (by omega)] at h
      exact absurd h (by decide)
theorem R_build {x m : St} (h : REL x m) (a b v : Int32) : EQ (f3_build a b v x) (f4_build a b v m) := by
  have hh := h
  obtain ⟨⟨τ, hI, hM, hX, ⟨h9, h0, h6⟩, hz, hs⟩, hR⟩ := h
  unfold f3_build f4_build f3_build_b15 f4_build_b37
  have em : f4_in b.toInt64 0 4 = b01 (wi b 0 (nI 4)) := m_in b 0 4
  rw [x_isCorner, m_isCorner, em]
  have hF : EQ ((f3_finding (-1000001 : Int32) x).bind fun q => match q with
  | (v5, z4) =>
    some (v5, z4)) (f4_build_b38 a b v 0 m) := by
    unfold f4_build_b38
    rw [if_pos rfl]
    exact EQf0 hh (fun _ _ => rfl) (fun _ _ => rfl)
  rcases cls0 a 15 (by omega) with e | ⟨c, hc, e⟩
  · simp only [e, b01_f, n00, if_true]
    exact hF
  · rw [e, wi_t hc (by omega)]
    simp only [b01_t, n10, if_false]
    rw [← e]
    rcases cls0 b 4 (by omega) with g | ⟨k, hk, g⟩
    · rw [x_isTraitF x b v g, Option.bind_some, g]
      simp only [b01_f, n00, if_true]
      exact hF
    · have e3 : f4_in v.toInt64 0 (f4_mostOf b).toInt64 = b01 (wi v 0 (nI (mostT k))) := by
        rw [g, mostOf_eq k (by omega)]
        exact m_in v 0 _
      rw [e3, g, x_isTrait x v (by omega : k < 5), Option.bind_some, wi_t hk (by omega)]
      simp only [b01_t, n10, if_false]
      rw [← g]
      rcases cls0 v (mostT k) (by have := mostT_le k; omega) with f | ⟨n, hn, f⟩
      · simp only [f, b01_f, n00, if_true]
        exact hF
      · have h5 : k < 5 := by omega
        have hW : TW x 0 (m 26) τ := ⟨hI, hM, hX, ⟨h9, h0, h6⟩, hz, hs⟩
        rw [f, wi_t hn (by have := mostT_le k; omega)]
        simp only [b01_t, n10, if_false]
        rw [e, g, bd (x_part hX (by omega) h5)]
        unfold f4_build_b38
        have e5 : ((5 : Int32) + 5 * nI c) + nI k = nI (5 + 5 * c + k) := by rw [nl5, pk_mul, nI_add, nI_add]
        have hset : f2_setTrait 0 (nI c) (nI k) (nI n) x = some (up x (2 + 4 * 0) (5 * c + k) (nI n)) := by
          match k, h5 with
          | 0, _ => exact x_setT0 (by omega)
          | 1, _ => exact x_setT1 (by omega)
          | 2, _ => exact x_setT2 (by omega)
          | 3, _ => exact x_setT3 (by omega)
          | 4, _ => exact x_setT4 (by omega)
        simp only [n10, if_false]
        rw [e5, bd (m_becomes (by omega) _), bd hset, hM _ (by omega) (by omega) (by omega)]
        refine EQ_mk (τ := upN τ (5 + 5 * c + k) n) hR ?_ (XR_up (by omega)) MR_up
        show TW _ 0 (up m 26 (5 + 5 * c + k) (nI n) 26) _
        rw [up26]
        exact TW_upt hW (by omega) h5 hn
theorem R_of {x m : St} (h : REL x m) (a b : Int32) : EQ (f3_of a b x) (f4_of a b m) := by
  have hh := h
  obtain ⟨⟨τ, hI, hM, hX, ⟨h9, h0, h6⟩, hz, hs⟩, hR⟩ := h
  unfold f3_of f4_of f3_of_b20 f4_of_b20
  have ex : f3_isWithin b 0 4 = b01 (wi b 0 (nI 4)) := x_within b 0 4
  have em : f4_in b.toInt64 0 4 = b01 (wi b 0 (nI 4)) := m_in b 0 4
  rw [x_hasW hX, bd (m_isW hM hI a), ex, em]
  have h8 := hI.1
  rcases clsW hI a with e | ⟨w, hw, e⟩
  · simp only [e, b01_f, n00, if_true]
    exact EQf0 hh (fun _ _ => rfl) (fun _ _ => rfl)
  · subst e
    simp only [isW_t hI hw, b01_t, n10, if_false]
    rcases cls0 b 4 (by omega) with e | ⟨k, hk, e⟩
    · simp only [e, b01_f, n00, if_true]
      exact EQf0 hh (fun _ _ => rfl) (fun _ _ => rfl)
    · subst e
      simp only [wi_t hk (by omega), b01_t, n10, if_false]
      rcases (show k = 0 ∨ k = 1 ∨ k = 2 ∨ k = 3 ∨ k = 4 by omega) with z | z | z | z | z <;> subst z
      · simp only [ne_0_3, ne_0_4, if_true, if_false]
        rw [bd (x_its hX (by omega) (by omega)), if_neg (by decide : ¬ (3 : Int32) ≤ nI 0), bd (m_its hM (by omega) (by omega))]
        exact EQs hh _
      · simp only [ne_1_3, ne_1_4, if_true, if_false]
        rw [bd (x_its hX (by omega) (by omega)), if_neg (by decide : ¬ (3 : Int32) ≤ nI 1), bd (m_its hM (by omega) (by omega))]
        exact EQs hh _
      · simp only [ne_2_3, ne_2_4, if_true, if_false]
        rw [bd (x_its hX (by omega) (by omega)), if_neg (by decide : ¬ (3 : Int32) ≤ nI 2), bd (m_its hM (by omega) (by omega))]
        exact EQs hh _
      · simp only [eq_3_3, ne_3_4, if_true, if_false]
        rw [bd (x_speed hX hI (by omega)), if_pos (by decide : (3 : Int32) ≤ nI 3), bd (m_speed hM hI (by omega))]
        exact EQs hh _
      · simp only [ne_4_3, eq_4_4, if_true, if_false]
        rw [bd (x_gath hX hI (by omega)), if_pos (by decide : (3 : Int32) ≤ nI 4), bd (m_gath hM hI (by omega))]
        exact EQs hh _
-- change
def qLo (k : Nat) : Nat := if k = 2 then 1 else 0
def qHi (k : Nat) : Nat := if k = 0 then 6 else if k = 1 then 15 else 999
theorem tv12 : ∀ k, k < 3 → tv 1 (nI k) = nI (qLo k) ∧ tv 2 (nI k) = nI (qHi k) := by decide
theorem x_isQual (x : St) (a : Int32) {k : Nat} (hk : k < 3) : f3_isQuality (nI k) a x = some (b01 (wi a (nI (qLo k)) (nI (qHi k)))) := by
  unfold f3_isQuality
  rw [if_neg (by rw [nl0]; exact nI_nlt (by omega) (by omega)), if_neg (by rw [nl3]; exact nI_ge hk (by omega)), if_neg (by rw [nl3]; exact nI_ge hk (by omega)), if_neg (nI_in hk (by omega)), if_neg (nI_in hk (by omega)), (tv12 k hk).1, (tv12 k hk).2, x_within, b01_0]
  cases wi a (nI (qLo k)) (nI (qHi k)) <;> rfl
theorem x_isQualF (x : St) (a v : Int32) (h : wi a 0 (nI 2) = false) : f3_isQuality a v x = some 0 := by
  unfold f3_isQuality
  by_cases h1 : a < 0
  · rw [if_pos h1]
  · rw [if_neg h1]
    by_cases h2 : (3 : Int32) ≤ a
    · rw [if_pos h2]
    · exfalso
      obtain ⟨j, hj, e, _⟩ := pk_mu (x := a) (L := 3) h1 h2 (by omega)
      rw [e, wi_t (by omega) (by omega)] at h
      exact absurd h (by decide)
theorem m_mayBe (v : Int32) {k : Nat} (hk : k < 3) : f4_mayBe (nI k) v = b01 (wi v (nI (qLo k)) (nI (qHi k))) := by
  match k, hk with
  | 0, _ => exact m_isKind v
  | 1, _ => exact m_isCorner v
  | 2, _ =>
    unfold f4_mayBe
    have e : f4_in v.toInt64 1 999 = b01 (wi v (nI 1) (nI 999)) := m_in v 1 999
    rw [if_neg (by decide), if_neg (by decide), if_pos (by decide), e, b01_0]
    show (if wi v (nI 1) (nI 999) = true then (1 : Int32) else 0) = b01 (wi v (nI 1) (nI 999))
    cases wi v (nI 1) (nI 999) <;> rfl
theorem m_mayBeF (a v : Int32) (h : wi a 0 (nI 2) = false) : f4_mayBe a v = 0 := by
  have q : ∀ j, j ≤ 2 → ¬ a = nI j := by
    intro j hj e
    rw [e, wi_t hj (by omega)] at h
    exact absurd h (by decide)
  unfold f4_mayBe
  rw [if_neg (show ¬ a = 0 from q 0 (by omega)), if_neg (show ¬ a = 1 from q 1 (by omega)), if_neg (show ¬ a = 2 from q 2 (by omega))]
theorem cls (a : Int32) (L N : Nat) (hL : L < 2147483648) (hN : N < 2147483647) : wi a (nI L) (nI N) = false ∨ ∃ n, L ≤ n ∧ n ≤ N ∧ a = nI n := by
  by_cases h : wi a (nI L) (nI N) = true
  · right
    obtain ⟨h1, h2⟩ := wi_iff.mp h
    · have h0 : wi a 0 (nI N) = true := wi_iff.mpr ⟨Int32.le_trans (by rw [nl0]; exact nI_le (by omega) hL) h1, h2⟩
      rcases cls0 a N hN with g | ⟨n, hn, e⟩
      · rw [h0] at g; exact absurd g (by decide)
      · refine ⟨n, ?_, hn, e⟩
        rw [e] at h1
        exact Nat.le_of_not_lt (fun z => nI_ge z (by omega) h1)
  · left
    simpa using h
