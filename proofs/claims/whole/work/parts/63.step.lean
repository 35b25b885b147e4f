theorem m_gath {m : St} {τ : Nat → Nat} (hT : TM (m 26) τ) (hI : IT τ) {w : Nat} (hw : w < 8) : f4_gathers (nI w) m = some (nI (sGath τ w)) := by
  have h1 := it_w hI hw
  have h3 := sSteep_le hI (c := qu τ w 1) (by omega)
  unfold f4_gathers
  rw [bd (m_its0 hT hw)]
  unfold sGath
  rcases (show qu τ w 0 = 0 ∨ qu τ w 0 = 1 ∨ qu τ w 0 = 2 ∨ qu τ w 0 = 3 ∨ qu τ w 0 = 4 ∨ qu τ w 0 = 5 ∨ qu τ w 0 = 6 by omega) with k | k | k | k | k | k | k
  all_goals rw [k]
  all_goals try rw [m_its1 hT hw, Option.bind_some, m_steep hT hI (c := qu τ w 1) (by omega), Option.bind_some]
  all_goals simp (disch := omega) only [nl0, nl1, nl2, nl3, nl4, nl5, nl6, ↓i_eq_t, ↓i_eq_f, pk_div, nI_add, if_true]
  all_goals simp
theorem x_gath {x : St} {t : Nat} {τ : Nat → Nat} (hT : TX x t τ) (hI : IT τ) {w : Nat} (hw : w < 8) : f2_gathersOf t (nI w) x = some (nI (sGath τ w)) := by
  have h1 := it_w hI hw
  have h3 := sSteep_le hI (c := qu τ w 1) (by omega)
  unfold f2_gathersOf
  rw [bd (x_its0 hT hw)]
  unfold sGath
  rcases (show qu τ w 0 = 0 ∨ qu τ w 0 = 1 ∨ qu τ w 0 = 2 ∨ qu τ w 0 = 3 ∨ qu τ w 0 = 4 ∨ qu τ w 0 = 5 ∨ qu τ w 0 = 6 by omega) with k | k | k | k | k | k | k
  all_goals rw [k]
  all_goals try rw [x_its1 hT hw, Option.bind_some, x_steep hT hI (c := qu τ w 1) (by omega), Option.bind_some]
  all_goals simp (disch := omega) only [nl0, nl1, nl2, nl3, nl4, nl5, nl6, ↓i_eq_t, ↓i_eq_f, pk_div, nI_add, if_true]
  all_goals simp
theorem m_sets0 {m : St} {w : Nat} {v : Int32} (hw : w < 8) : f4_sets (nI w) (0 : Int32) v m = some (up m 26 (85 + 3 * w + 0) v) := by
  unfold f4_sets
  simp (disch := omega) only [nl0, nl1, nl2, nl3, nl4, nl5, nl6, nl7, nl8, nl9, nl10, nl15, nl16, nl24, nl50, nl80, nl85, nl100, nl101, nl109, nl999, nl99999, c_ix, i_le_t, i_le_f, i_lt_t, i_lt_f, i_eq_t, i_eq_f, nI_clamp, pk_mul, nI_add, Option.bind_some, if_true, if_false]
theorem x_setQ0 {x : St} {t w : Nat} {v : Int32} (hw : w < 8) : f2_setQuality t (nI w) (0 : Int32) v x = some (up x (3 + 4 * t) (3 * w + 0) v) := by
  unfold f2_setQuality f3_put
  simp (disch := omega) only [nl0, nl1, nl2, nl3, nl4, nl5, nl6, nl7, nl8, nl9, nl10, nl15, nl16, nl24, nl50, nl80, nl85, nl100, nl101, nl109, nl999, nl99999, c_ix, i_le_t, i_le_f, i_lt_t, i_lt_f, i_eq_t, i_eq_f, nI_clamp, pk_mul, nI_add, Option.bind_some, if_true, if_false, show Int32.ofNat 24 = nI 24 from rfl]
theorem m_sets1 {m : St} {w : Nat} {v : Int32} (hw : w < 8) : f4_sets (nI w) (1 : Int32) v m = some (up m 26 (85 + 3 * w + 1) v) := by
  unfold f4_sets
  simp (disch := omega) only [nl0, nl1, nl2, nl3, nl4, nl5, nl6, nl7, nl8, nl9, nl10, nl15, nl16, nl24, nl50, nl80, nl85, nl100, nl101, nl109, nl999, nl99999, c_ix, i_le_t, i_le_f, i_lt_t, i_lt_f, i_eq_t, i_eq_f, nI_clamp, pk_mul, nI_add, Option.bind_some, if_true, if_false]
theorem x_setQ1 {x : St} {t w : Nat} {v : Int32} (hw : w < 8) : f2_setQuality t (nI w) (1 : Int32) v x = some (up x (3 + 4 * t) (3 * w + 1) v) := by
  unfold f2_setQuality f3_put
  simp (disch := omega) only [nl0, nl1, nl2, nl3, nl4, nl5, nl6, nl7, nl8, nl9, nl10, nl15, nl16, nl24, nl50, nl80, nl85, nl100, nl101, nl109, nl999, nl99999, c_ix, i_le_t, i_le_f, i_lt_t, i_lt_f, i_eq_t, i_eq_f, nI_clamp, pk_mul, nI_add, Option.bind_some, if_true, if_false, show Int32.ofNat 24 = nI 24 from rfl]
theorem m_sets2 {m : St} {w : Nat} {v : Int32} (hw : w < 8) : f4_sets (nI w) (2 : Int32) v m = some (up m 26 (85 + 3 * w + 2) v) := by
  unfold f4_sets
  simp (disch := omega) only [nl0, nl1, nl2, nl3, nl4, nl5, nl6, nl7, nl8, nl9, nl10, nl15, nl16, nl24, nl50, nl80, nl85, nl100, nl101, nl109, nl999, nl99999, c_ix, i_le_t, i_le_f, i_lt_t, i_lt_f, i_eq_t, i_eq_f, nI_clamp, pk_mul, nI_add, Option.bind_some, if_true, if_false]
theorem x_setQ2 {x : St} {t w : Nat} {v : Int32} (hw : w < 8) : f2_setQuality t (nI w) (2 : Int32) v x = some (up x (3 + 4 * t) (3 * w + 2) v) := by
  unfold f2_setQuality f3_put
  simp (disch := omega) only [nl0, nl1, nl2, nl3, nl4, nl5, nl6, nl7, nl8, nl9, nl10, nl15, nl16, nl24, nl50, nl80, nl85, nl100, nl101, nl109, nl999, nl99999, c_ix, i_le_t, i_le_f, i_lt_t, i_lt_f, i_eq_t, i_eq_f, nI_clamp, pk_mul, nI_add, Option.bind_some, if_true, if_false, show Int32.ofNat 24 = nI 24 from rfl]
theorem m_builds0 {m : St} {c : Nat} {v : Int32} (hc : c < 16) : f4_builds (nI c) (0 : Int32) v m = some (up m 26 (5 + 5 * c + 0) v) := by
  unfold f4_builds
  simp (disch := omega) only [nl0, nl1, nl2, nl3, nl4, nl5, nl6, nl7, nl8, nl9, nl10, nl15, nl16, nl24, nl50, nl80, nl85, nl100, nl101, nl109, nl999, nl99999, c_ix, i_le_t, i_le_f, i_lt_t, i_lt_f, i_eq_t, i_eq_f, nI_clamp, pk_mul, nI_add, Option.bind_some, if_true, if_false]
theorem x_setT0 {x : St} {t c : Nat} {v : Int32} (hc : c < 16) : f2_setTrait t (nI c) (0 : Int32) v x = some (up x (2 + 4 * t) (5 * c + 0) v) := by
  unfold f2_setTrait f3_put
  simp (disch := omega) only [nl0, nl1, nl2, nl3, nl4, nl5, nl6, nl7, nl8, nl9, nl10, nl15, nl16, nl24, nl50, nl80, nl85, nl100, nl101, nl109, nl999, nl99999, c_ix, i_le_t, i_le_f, i_lt_t, i_lt_f, i_eq_t, i_eq_f, nI_clamp, pk_mul, nI_add, Option.bind_some, if_true, if_false, show Int32.ofNat 80 = nI 80 from rfl]
theorem m_builds1 {m : St} {c : Nat} {v : Int32} (hc : c < 16) : f4_builds (nI c) (1 : Int32) v m = some (up m 26 (5 + 5 * c + 1) v) := by
  unfold f4_builds
  simp (disch := omega) only [nl0, nl1, nl2, nl3, nl4, nl5, nl6, nl7, nl8, nl9, nl10, nl15, nl16, nl24, nl50, nl80, nl85, nl100, nl101, nl109, nl999, nl99999, c_ix, i_le_t, i_le_f, i_lt_t, i_lt_f, i_eq_t, i_eq_f, nI_clamp, pk_mul, nI_add, Option.bind_some, if_true, if_false]
theorem x_setT1 {x : St} {t c : Nat} {v : Int32} (hc : c < 16) : f2_setTrait t (nI c) (1 : Int32) v x = some (up x (2 + 4 * t) (5 * c + 1) v) := by
  unfold f2_setTrait f3_put
  simp (disch := omega) only [nl0, nl1, nl2, nl3, nl4, nl5, nl6, nl7, nl8, nl9, nl10, nl15, nl16, nl24, nl50, nl80, nl85, nl100, nl101, nl109, nl999, nl99999, c_ix, i_le_t, i_le_f, i_lt_t, i_lt_f, i_eq_t, i_eq_f, nI_clamp, pk_mul, nI_add, Option.bind_some, if_true, if_false, show Int32.ofNat 80 = nI 80 from rfl]
theorem m_builds2 {m : St} {c : Nat} {v : Int32} (hc : c < 16) : f4_builds (nI c) (2 : Int32) v m = some (up m 26 (5 + 5 * c + 2) v) := by
  unfold f4_builds
  simp (disch := omega) only [nl0, nl1, nl2, nl3, nl4, nl5, nl6, nl7, nl8, nl9, nl10, nl15, nl16, nl24, nl50, nl80, nl85, nl100, nl101, nl109, nl999, nl99999, c_ix, i_le_t, i_le_f, i_lt_t, i_lt_f, i_eq_t, i_eq_f, nI_clamp, pk_mul, nI_add, Option.bind_some, if_true, if_false]
theorem x_setT2 {x : St} {t c : Nat} {v : Int32} (hc : c < 16) : f2_setTrait t (nI c) (2 : Int32) v x = some (up x (2 + 4 * t) (5 * c + 2) v) := by
  unfold f2_setTrait f3_put
  simp (disch := omega) only [nl0, nl1, nl2, nl3, nl4, nl5, nl6, nl7, nl8, nl9, nl10, nl15, nl16, nl24, nl50, nl80, nl85, nl100, nl101, nl109, nl999, nl99999, c_ix, i_le_t, i_le_f, i_lt_t, i_lt_f, i_eq_t, i_eq_f, nI_clamp, pk_mul, nI_add, Option.bind_some, if_true, if_false, show Int32.ofNat 80 = nI 80 from rfl]
theorem m_builds3 {m : St} {c : Nat} {v : Int32} (hc : c < 16) : f4_builds (nI c) (3 : Int32) v m = some (up m 26 (5 + 5 * c + 3) v) := by
  unfold f4_builds
  simp (disch := omega) only [nl0, nl1, nl2, nl3, nl4, nl5, nl6, nl7, nl8, nl9, nl10, nl15, nl16, nl24, nl50, nl80, nl85, nl100, nl101, nl109, nl999, nl99999, c_ix, i_le_t, i_le_f, i_lt_t, i_lt_f, i_eq_t, i_eq_f, nI_clamp, pk_mul, nI_add, Option.bind_some, if_true, if_false]
theorem x_setT3 {x : St} {t c : Nat} {v : Int32} (hc : c < 16) : f2_setTrait t (nI c) (3 : Int32) v x = some (up x (2 + 4 * t) (5 * c + 3) v) := by
  unfold f2_setTrait f3_put
  simp (disch := omega) only [nl0, nl1, nl2, nl3, nl4, nl5, nl6, nl7, nl8, nl9, nl10, nl15, nl16, nl24, nl50, nl80, nl85, nl100, nl101, nl109, nl999, nl99999, c_ix, i_le_t, i_le_f, i_lt_t, i_lt_f, i_eq_t, i_eq_f, nI_clamp, pk_mul, nI_add, Option.bind_some, if_true, if_false, show Int32.ofNat 80 = nI 80 from rfl]
theorem m_builds4 {m : St} {c : Nat} {v : Int32} (hc : c < 16) : f4_builds (nI c) (4 : Int32) v m = some (up m 26 (5 + 5 * c + 4) v) := by
  unfold f4_builds
  simp (disch := omega) only [nl0, nl1, nl2, nl3, nl4, nl5, nl6, nl7, nl8, nl9, nl10, nl15, nl16, nl24, nl50, nl80, nl85, nl100, nl101, nl109, nl999, nl99999, c_ix, i_le_t, i_le_f, i_lt_t, i_lt_f, i_eq_t, i_eq_f, nI_clamp, pk_mul, nI_add, Option.bind_some, if_true, if_false]
theorem x_setT4 {x : St} {t c : Nat} {v : Int32} (hc : c < 16) : f2_setTrait t (nI c) (4 : Int32) v x = some (up x (2 + 4 * t) (5 * c + 4) v) := by
  unfold f2_setTrait f3_put
  simp (disch := omega) only [nl0, nl1, nl2, nl3, nl4, nl5, nl6, nl7, nl8, nl9, nl10, nl15, nl16, nl24, nl50, nl80, nl85, nl100, nl101, nl109, nl999, nl99999, c_ix, i_le_t, i_le_f, i_lt_t, i_lt_f, i_eq_t, i_eq_f, nI_clamp, pk_mul, nI_add, Option.bind_some, if_true, if_false, show Int32.ofNat 80 = nI 80 from rfl]
theorem upN_eq (τ : Nat → Nat) (i v : Nat) : upN τ i v i = v := by simp [upN]
theorem upN_ne (τ : Nat → Nat) {i j : Nat} (v : Nat) (h : j ≠ i) : upN τ i v j = τ j := by simp [upN, h]
theorem tr_up {τ : Nat → Nat} {i v c k : Nat} (h : 85 ≤ i) (hc : c < 16) (hk : k < 5) : tr (upN τ i v) c k = tr τ c k := upN_ne _ _ (by omega)
theorem qu_up {τ : Nat → Nat} {w k v j i : Nat} (h : 3 * w + k ≠ 3 * j + i) : qu (upN τ (85 + 3 * w + k) v) j i = qu τ j i := upN_ne _ _ (by omega)
theorem qu_upe {τ : Nat → Nat} {w k v : Nat} : qu (upN τ (85 + 3 * w + k) v) w k = v := upN_eq _ _ _
theorem TM_up {m : St} {τ : Nat → Nat} (h : TM (m 26) τ) (i v : Nat) : TM (up m 26 i (nI v) 26) (upN τ i v) := by
  intro j h1 h2 h3
  by_cases e : j = i
  · rw [e, up_eq, upN_eq]
  · rw [up_ne2 _ _ e, upN_ne _ _ e, h j h1 h2 h3]
theorem TX_upq {x : St} {t : Nat} {τ : Nat → Nat} (h : TX x t τ) {w k : Nat} (v : Nat) (hw : w < 8) (hk : k < 3) : TX (up x (3 + 4 * t) (3 * w + k) (nI v)) t (upN τ (85 + 3 * w + k) v) := by
  refine ⟨fun i hi => ?_, fun i hi => ?_, ?_, ?_, ?_⟩
  · rw [up_ne1 _ _ _ _ (by omega), upN_ne _ _ (by omega)]; exact h.1 i hi
  · by_cases e : i = 3 * w + k
    · rw [e, up_eq, show 85 + (3 * w + k) = 85 + 3 * w + k by omega, upN_eq]
    · rw [up_ne2 _ _ e, upN_ne _ _ (by omega)]; exact h.2.1 i hi
  · rw [up_ne1 _ _ _ _ (by omega), upN_ne _ _ (by omega)]; exact h.2.2.1
  · rw [up_ne1 _ _ _ _ (by omega), upN_ne _ _ (by omega)]; exact h.2.2.2.1
  · rw [up_ne1 _ _ _ _ (by omega), upN_ne _ _ (by omega)]; exact h.2.2.2.2
theorem TX_upt {x : St} {t : Nat} {τ : Nat → Nat} (h : TX x t τ) {c k : Nat} (v : Nat) (hc : c < 16) (hk : k < 5) : TX (up x (2 + 4 * t) (5 * c + k) (nI v)) t (upN τ (5 + 5 * c + k) v) := by
  refine ⟨fun i hi => ?_, fun i hi => ?_, ?_, ?_, ?_⟩
  · by_cases e : i = 5 * c + k
    · rw [e, up_eq, show 5 + (5 * c + k) = 5 + 5 * c + k by omega, upN_eq]
    · rw [up_ne2 _ _ e, upN_ne _ _ (by omega)]; exact h.1 i hi
  · rw [up_ne1 _ _ _ _ (by omega), upN_ne _ _ (by omega)]; exact h.2.1 i hi
  · rw [up_ne1 _ _ _ _ (by omega), upN_ne _ _ (by omega)]; exact h.2.2.1
  · rw [up_ne1 _ _ _ _ (by omega), upN_ne _ _ (by omega)]; exact h.2.2.2.1
  · rw [up_ne1 _ _ _ _ (by omega), upN_ne _ _ (by omega)]; exact h.2.2.2.2
theorem TX_fr {x x' : St} {t : Nat} {τ : Nat → Nat} (h : TX x t τ) (e1 : x' (1 + 4 * t) = x (1 + 4 * t)) (e2 : x' (2 + 4 * t) = x (2 + 4 * t)) (e3 : x' (3 + 4 * t) = x (3 + 4 * t)) : TX x' t τ := by
  unfold TX
  rw [e1, e2, e3]
  exact h
-- a whisper goes a gutter
def nxt (τ : Nat → Nat) (w : Nat) : Nat := tr τ (qu τ w 1) 1
def stepR (w : Nat) (τ : Nat → Nat) : Nat → Nat := upN (upN τ (85 + 3 * w + 2) (min (qu τ w 2 + sGath τ w) 999)) (85 + 3 * w + 1) (nxt τ w)
def noA (τ : Nat → Nat) (c : Nat) : Bool := decide (((nI (τ 3) >>> (nI c &&& 31)) &&& (1 : Int32)) = 0)
def rollN (w : Nat) : Nat → (Nat → Nat) → (Nat → Nat)
  | 0, τ => τ
  | n + 1, τ => if sSteep τ (qu τ w 1) = 0 then τ else if noA τ (nxt τ w) then rollN w n (stepR w τ) else stepR w τ
def wayN (w : Nat) : Nat → (Nat → Nat) → Nat
  | 0, _ => 0
  | n + 1, τ => if sSteep τ (qu τ w 1) = 0 then 0 else 2 ^ nxt τ w ||| (if noA τ (nxt τ w) then wayN w n (stepR w τ) else 0)
theorem nxt_lt {τ : Nat → Nat} (hI : IT τ) {w : Nat} (hw : w < 8) : nxt τ w < 16 := by
  have h1 := it_w hI hw
  have h2 := it_t hI (c := qu τ w 1) (by omega)
  unfold nxt
  omega
theorem st_lo {τ : Nat → Nat} {w i : Nat} (h : i < 85) : stepR w τ i = τ i := by
  unfold stepR
  rw [upN_ne _ _ (by omega), upN_ne _ _ (by omega)]
theorem st_tr {τ : Nat → Nat} {w c k : Nat} (hc : c < 16) (hk : k < 5) : tr (stepR w τ) c k = tr τ c k := st_lo (by omega)
theorem st_q0 {τ : Nat → Nat} {w : Nat} : qu (stepR w τ) w 0 = qu τ w 0 := by
  unfold stepR
  rw [qu_up (by omega), qu_up (by omega)]
theorem st_q1 {τ : Nat → Nat} {w : Nat} : qu (stepR w τ) w 1 = nxt τ w := qu_upe
theorem st_q2 {τ : Nat → Nat} {w : Nat} : qu (stepR w τ) w 2 = min (qu τ w 2 + sGath τ w) 999 := by
  unfold stepR
  rw [qu_up (by omega), qu_upe]
theorem st_ne {τ : Nat → Nat} {w i : Nat} (h : i < 85 + 3 * w + 1 ∨ 85 + 3 * w + 3 ≤ i) : stepR w τ i = τ i := by
  unfold stepR
  rw [upN_ne _ _ (by omega), upN_ne _ _ (by omega)]
theorem st_it {τ : Nat → Nat} (hI : IT τ) {w : Nat} (hw : w < 8) : IT (stepR w τ) := by
  have hn := nxt_lt hI hw
  refine ⟨?_, ?_, ?_, fun c hc => ?_, fun j hj => ?_⟩
  · rw [st_lo (by omega)]; exact hI.1
  · rw [st_lo (by omega)]; exact hI.2.1
  · rw [st_lo (by omega)]; exact hI.2.2.1
  · have := it_t hI hc
    rw [st_tr hc (by omega), st_tr hc (by omega), st_tr hc (by omega), st_tr hc (by omega), st_tr hc (by omega)]
    exact this
  · by_cases e : j = w
    · subst e
      rw [st_q0, st_q1, st_q2]
      have := it_w hI hj
      omega
    · have h2 := it_w hI hj
      have e0 : qu (stepR w τ) j 0 = qu τ j 0 := st_ne (by omega)
      have e1 : qu (stepR w τ) j 1 = qu τ j 1 := st_ne (by omega)
      have e2 : qu (stepR w τ) j 2 = qu τ j 2 := st_ne (by omega)
      rw [e0, e1, e2]
      exact h2
theorem ro_it {w : Nat} (hw : w < 8) : ∀ (n : Nat) {τ : Nat → Nat}, IT τ → IT (rollN w n τ)
  | 0, _, h => h
  | n + 1, τ, h => by
    unfold rollN
    split
    · exact h
    · split
      · exact ro_it hw n (st_it h hw)
      · exact st_it h hw
theorem ro_ne {w i : Nat} (hi : i < 85 + 3 * w + 1 ∨ 85 + 3 * w + 3 ≤ i) : ∀ (n : Nat) (τ : Nat → Nat), rollN w n τ i = τ i
  | 0, _ => rfl
  | n + 1, τ => by
    unfold rollN
    split
    · rfl
    · split
      · rw [ro_ne hi n, st_ne hi]
      · exact st_ne hi
theorem wy_lt {w : Nat} (hw : w < 8) : ∀ (n : Nat) {τ : Nat → Nat}, IT τ → wayN w n τ < 2 ^ 16
  | 0, _, _ => by unfold wayN; omega
  | n + 1, τ, h => by
    have h2 : 2 ^ nxt τ w < 2 ^ 16 := Nat.pow_lt_pow_right (by omega) (nxt_lt h hw)
    unfold wayN
    split
    · omega
    · split
      · exact Nat.or_lt_two_pow h2 (wy_lt hw n (st_it h hw))
      · exact Nat.or_lt_two_pow h2 (by omega)
theorem i_or (a b : Nat) : nI a ||| nI b = nI (a ||| b) := by
  apply Int32.toBitVec_inj.1
  show BitVec.ofNat 32 a ||| BitVec.ofNat 32 b = BitVec.ofNat 32 (a ||| b)
  apply BitVec.eq_of_getLsbD_eq
  intro i hi
  simp [hi]
theorem i_shl : ∀ c, c < 16 → (1 : Int32) <<< (nI c &&& 31) = nI (2 ^ c) := by decide
theorem i_or0 (a : Int32) : a ||| 0 = a := by
  apply Int32.toBitVec_inj.1
  show a.toBitVec ||| 0#32 = a.toBitVec
  simp
theorem i_orA (a b c : Int32) : a ||| b ||| c = a ||| (b ||| c) := by
  apply Int32.toBitVec_inj.1
  show a.toBitVec ||| b.toBitVec ||| c.toBitVec = a.toBitVec ||| (b.toBitVec ||| c.toBitVec)
  exact BitVec.or_assoc ..
theorem i_mn {a b : Nat} {inst : Decidable (nI 999 < nI a)} (ha : a < 2147483648) : (@ite Int32 (nI 999 < nI a) inst (nI 999) (nI a)) = nI (min a 999) := by
  rcases Nat.lt_or_ge 999 a with h | h
  · rw [i_lt_t h (by omega), Nat.min_eq_right (by omega)]
  · rw [i_lt_f h (by omega), Nat.min_eq_left h]
