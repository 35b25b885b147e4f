/-! the town in natural numbers: 1 whispers, 2 frost, 3 aunts, 5.. corners by five, 85.. whispers by three -/
def tr (τ : Nat → Nat) (c k : Nat) : Nat := τ (5 + 5 * c + k)
def qu (τ : Nat → Nat) (w k : Nat) : Nat := τ (85 + 3 * w + k)
def upN (τ : Nat → Nat) (i v : Nat) : Nat → Nat := fun j => if j = i then v else τ j
def IT (τ : Nat → Nat) : Prop := τ 1 ≤ 8 ∧ τ 2 ≤ 1 ∧ τ 3 ≤ 65535 ∧ (∀ c, c < 16 → tr τ c 0 ≤ 99 ∧ tr τ c 1 ≤ 15 ∧ tr τ c 2 ≤ 9 ∧ tr τ c 3 ≤ 99 ∧ tr τ c 4 ≤ 99) ∧ ∀ w, w < 8 → qu τ w 0 ≤ 6 ∧ qu τ w 1 ≤ 15 ∧ qu τ w 2 ≤ 999
def TM (s : Nat → Int32) (τ : Nat → Nat) : Prop := ∀ i, 1 ≤ i → i < 109 → i ≠ 4 → s i = nI (τ i)
def TX (x : St) (t : Nat) (τ : Nat → Nat) : Prop := (∀ i, i < 80 → x (2 + 4 * t) i = nI (τ (5 + i))) ∧ (∀ i, i < 24 → x (3 + 4 * t) i = nI (τ (85 + i))) ∧ x (1 + 4 * t) 3 = nI (τ 1) ∧ x (1 + 4 * t) 4 = nI (τ 3) ∧ x (1 + 4 * t) 5 = nI (τ 2)
def sSteep (τ : Nat → Nat) (c : Nat) : Nat := tr τ c 0 - tr τ (tr τ c 1) 0
def sPlain (τ : Nat → Nat) (c : Nat) : Nat := min (sSteep τ c / 10) 3 + 1
def sSpeed0 (τ : Nat → Nat) (w : Nat) : Nat :=
  if qu τ w 0 = 1 then sPlain τ (qu τ w 1) + 1 else
  if qu τ w 0 = 2 then sPlain τ (qu τ w 1) - tr τ (qu τ w 1) 2 else
  if qu τ w 0 = 3 then sPlain τ (qu τ w 1) - tr τ (qu τ w 1) 2 + qu τ w 2 / 100 else
  if qu τ w 0 = 4 then sPlain τ (qu τ w 1) - tr τ (qu τ w 1) 2 + qu τ w 2 / 100 + 2 else
  if qu τ w 0 = 5 then (if tr τ (qu τ w 1) 2 = 0 then sPlain τ (qu τ w 1) else 0) else
  if qu τ w 0 = 6 then 2 * (sPlain τ (qu τ w 1) + 1) else sPlain τ (qu τ w 1)
def sSpeed (τ : Nat → Nat) (w : Nat) : Nat := if τ 2 = 1 then 2 * sSpeed0 τ w else sSpeed0 τ w
def sGath (τ : Nat → Nat) (w : Nat) : Nat :=
  if qu τ w 0 = 0 then 1 else if qu τ w 0 = 1 then 0 else if qu τ w 0 = 2 then 2 else if qu τ w 0 = 3 then 4 else
  if qu τ w 0 = 4 then 4 + sSteep τ (qu τ w 1) / 5 else 0
theorem it_t {τ : Nat → Nat} (h : IT τ) {c : Nat} (hc : c < 16) : tr τ c 0 ≤ 99 ∧ tr τ c 1 ≤ 15 ∧ tr τ c 2 ≤ 9 ∧ tr τ c 3 ≤ 99 ∧ tr τ c 4 ≤ 99 := h.2.2.2.1 c hc
theorem it_w {τ : Nat → Nat} (h : IT τ) {w : Nat} (hw : w < 8) : qu τ w 0 ≤ 6 ∧ qu τ w 1 ≤ 15 ∧ qu τ w 2 ≤ 999 := h.2.2.2.2 w hw
theorem sSteep_le {τ : Nat → Nat} (h : IT τ) {c : Nat} (hc : c < 16) : sSteep τ c ≤ 99 := by
  have := (it_t h hc).1
  unfold sSteep
  omega
theorem sPlain_le (τ : Nat → Nat) (c : Nat) : sPlain τ c ≤ 4 := by
  unfold sPlain
  omega
theorem sGath_le {τ : Nat → Nat} (h : IT τ) {w : Nat} (hw : w < 8) : sGath τ w ≤ 23 := by
  have h1 := it_w h hw
  have h2 := sSteep_le h (c := qu τ w 1) (by omega)
  unfold sGath
  repeat' split
  all_goals omega
theorem sSpeed_le {τ : Nat → Nat} (h : IT τ) {w : Nat} (hw : w < 8) : sSpeed τ w ≤ 40 := by
  have h1 := it_w h hw
  have h2 := sPlain_le τ (qu τ w 1)
  unfold sSpeed sSpeed0
  repeat' split
  all_goals omega
theorem m_part0 {m : St} {τ : Nat → Nat} (hT : TM (m 26) τ) {c : Nat} (hc : c < 16) : f4_part (nI c) (0 : Int32) m = some (nI (tr τ c 0)) := by
  unfold f4_part
  simp (disch := omega) only [nl0, nl1, nl2, nl3, nl4, nl5, nl6, nl7, nl8, nl9, nl10, nl15, nl16, nl24, nl50, nl80, nl85, nl100, nl101, nl109, nl999, nl99999, c_ix, i_le_t, i_le_f, i_lt_t, i_lt_f, i_eq_t, i_eq_f, nI_clamp, pk_mul, nI_add, Option.bind_some, if_true, if_false]
  rw [hT _ (by omega) (by omega) (by omega)]
  rfl
theorem m_part1 {m : St} {τ : Nat → Nat} (hT : TM (m 26) τ) {c : Nat} (hc : c < 16) : f4_part (nI c) (1 : Int32) m = some (nI (tr τ c 1)) := by
  unfold f4_part
  simp (disch := omega) only [nl0, nl1, nl2, nl3, nl4, nl5, nl6, nl7, nl8, nl9, nl10, nl15, nl16, nl24, nl50, nl80, nl85, nl100, nl101, nl109, nl999, nl99999, c_ix, i_le_t, i_le_f, i_lt_t, i_lt_f, i_eq_t, i_eq_f, nI_clamp, pk_mul, nI_add, Option.bind_some, if_true, if_false]
  rw [hT _ (by omega) (by omega) (by omega)]
  rfl
theorem m_part2 {m : St} {τ : Nat → Nat} (hT : TM (m 26) τ) {c : Nat} (hc : c < 16) : f4_part (nI c) (2 : Int32) m = some (nI (tr τ c 2)) := by
  unfold f4_part
  simp (disch := omega) only [nl0, nl1, nl2, nl3, nl4, nl5, nl6, nl7, nl8, nl9, nl10, nl15, nl16, nl24, nl50, nl80, nl85, nl100, nl101, nl109, nl999, nl99999, c_ix, i_le_t, i_le_f, i_lt_t, i_lt_f, i_eq_t, i_eq_f, nI_clamp, pk_mul, nI_add, Option.bind_some, if_true, if_false]
  rw [hT _ (by omega) (by omega) (by omega)]
  rfl
theorem m_part3 {m : St} {τ : Nat → Nat} (hT : TM (m 26) τ) {c : Nat} (hc : c < 16) : f4_part (nI c) (3 : Int32) m = some (nI (tr τ c 3)) := by
  unfold f4_part
  simp (disch := omega) only [nl0, nl1, nl2, nl3, nl4, nl5, nl6, nl7, nl8, nl9, nl10, nl15, nl16, nl24, nl50, nl80, nl85, nl100, nl101, nl109, nl999, nl99999, c_ix, i_le_t, i_le_f, i_lt_t, i_lt_f, i_eq_t, i_eq_f, nI_clamp, pk_mul, nI_add, Option.bind_some, if_true, if_false]
  rw [hT _ (by omega) (by omega) (by omega)]
  rfl
theorem m_part4 {m : St} {τ : Nat → Nat} (hT : TM (m 26) τ) {c : Nat} (hc : c < 16) : f4_part (nI c) (4 : Int32) m = some (nI (tr τ c 4)) := by
  unfold f4_part
  simp (disch := omega) only [nl0, nl1, nl2, nl3, nl4, nl5, nl6, nl7, nl8, nl9, nl10, nl15, nl16, nl24, nl50, nl80, nl85, nl100, nl101, nl109, nl999, nl99999, c_ix, i_le_t, i_le_f, i_lt_t, i_lt_f, i_eq_t, i_eq_f, nI_clamp, pk_mul, nI_add, Option.bind_some, if_true, if_false]
  rw [hT _ (by omega) (by omega) (by omega)]
  rfl
theorem m_its0 {m : St} {τ : Nat → Nat} (hT : TM (m 26) τ) {w : Nat} (hw : w < 8) : f4_its (nI w) (0 : Int32) m = some (nI (qu τ w 0)) := by
  unfold f4_its
  simp (disch := omega) only [nl0, nl1, nl2, nl3, nl4, nl5, nl6, nl7, nl8, nl9, nl10, nl15, nl16, nl24, nl50, nl80, nl85, nl100, nl101, nl109, nl999, nl99999, c_ix, i_le_t, i_le_f, i_lt_t, i_lt_f, i_eq_t, i_eq_f, nI_clamp, pk_mul, nI_add, Option.bind_some, if_true, if_false]
  rw [hT _ (by omega) (by omega) (by omega)]
  rfl
theorem m_its1 {m : St} {τ : Nat → Nat} (hT : TM (m 26) τ) {w : Nat} (hw : w < 8) : f4_its (nI w) (1 : Int32) m = some (nI (qu τ w 1)) := by
  unfold f4_its
  simp (disch := omega) only [nl0, nl1, nl2, nl3, nl4, nl5, nl6, nl7, nl8, nl9, nl10, nl15, nl16, nl24, nl50, nl80, nl85, nl100, nl101, nl109, nl999, nl99999, c_ix, i_le_t, i_le_f, i_lt_t, i_lt_f, i_eq_t, i_eq_f, nI_clamp, pk_mul, nI_add, Option.bind_some, if_true, if_false]
  rw [hT _ (by omega) (by omega) (by omega)]
  rfl
theorem m_its2 {m : St} {τ : Nat → Nat} (hT : TM (m 26) τ) {w : Nat} (hw : w < 8) : f4_its (nI w) (2 : Int32) m = some (nI (qu τ w 2)) := by
  unfold f4_its
  simp (disch := omega) only [nl0, nl1, nl2, nl3, nl4, nl5, nl6, nl7, nl8, nl9, nl10, nl15, nl16, nl24, nl50, nl80, nl85, nl100, nl101, nl109, nl999, nl99999, c_ix, i_le_t, i_le_f, i_lt_t, i_lt_f, i_eq_t, i_eq_f, nI_clamp, pk_mul, nI_add, Option.bind_some, if_true, if_false]
  rw [hT _ (by omega) (by omega) (by omega)]
  rfl
theorem m_steep {m : St} {τ : Nat → Nat} (hT : TM (m 26) τ) (hI : IT τ) {c : Nat} (hc : c < 16) : f4_steep (nI c) m = some (nI (sSteep τ c)) := by
  have h1 := it_t hI hc
  have h2 := it_t hI (c := tr τ c 1) (by omega)
  unfold f4_steep
  rw [bd (m_part0 hT hc), bd (m_part1 hT hc), bd (m_part0 hT (c := tr τ c 1) (by omega)), i_mx0 (by omega) (by omega)]
  rfl
set_option maxHeartbeats 2000000 in
theorem m_speed {m : St} {τ : Nat → Nat} (hT : TM (m 26) τ) (hI : IT τ) {w : Nat} (hw : w < 8) : f4_speed (nI w) m = some (nI (sSpeed τ w)) := by
  have h1 := it_w hI hw
  have h2 := it_t hI (c := qu τ w 1) (by omega)
  have h3 := sSteep_le hI (c := qu τ w 1) (by omega)
  have h4 := sPlain_le τ (qu τ w 1)
  have h5 := hI.2.1
  have h9 : ∀ v : Nat, v < 1000 → f4_speed_b159 (nI v) m = some (nI (if τ 2 = 1 then 2 * v else v)) := by
    intro v hv
    unfold f4_speed_b159
    simp (disch := omega) only [nl0, nl1, nl2, c_ix, nI_clamp, pk_mul, if_false]
    rw [hT 2 (by omega) (by omega) (by omega)]
    by_cases h : τ 2 = 1
    · rw [i_eq_t h, if_pos h]
    · rw [i_eq_f h (by omega) (by omega), if_neg h]
  have h8 : ∀ v : Nat, v < 1000 → f4_speed_b141 (nI v) m = some (nI (if τ 2 = 1 then 2 * v else v)) := h9
  have hp : nI (min (sSteep τ (qu τ w 1) / 10) 3) + nI 1 = nI (sPlain τ (qu τ w 1)) := by
    rw [nI_add]
    rfl
  unfold f4_speed
  rw [bd (m_its1 hT hw), bd (m_steep hT hI (c := qu τ w 1) (by omega)), bd (m_part2 hT (c := qu τ w 1) (by omega)), bd (m_its2 hT hw), bd (m_its0 hT hw)]
  unfold sSpeed sSpeed0
  have e8 : tr τ (qu τ w 1) 2 = 0 ∨ ¬ (tr τ (qu τ w 1) 2 = 0) := by omega
  rcases (show qu τ w 0 = 0 ∨ qu τ w 0 = 1 ∨ qu τ w 0 = 2 ∨ qu τ w 0 = 3 ∨ qu τ w 0 = 4 ∨ qu τ w 0 = 5 ∨ qu τ w 0 = 6 by omega) with k | k | k | k | k | k | k
  all_goals rw [k]
  all_goals rcases e8 with k0 | k0
  all_goals simp (disch := omega) only [nl0, nl1, nl2, nl3, nl4, nl5, nl6, nl10, nl100, ↓i_eq_t, ↓i_eq_f, Option.bind_some, pk_div, i_min, hp, i_mx, nI_add, pk_mul, h9, if_true]
  all_goals try simp (disch := omega) only [← nl2, m_part2 hT, Option.bind_some, i_le_t, i_le_f, h8, k0]
  all_goals try simp (disch := omega) only [i_le_t, i_le_f, h8, k0]
  all_goals simp

theorem x_part0 {x : St} {t : Nat} {τ : Nat → Nat} (hT : TX x t τ) {c : Nat} (hc : c < 16) : f2_trait t (nI c) (0 : Int32) x = some (nI (tr τ c 0)) := by
  unfold f2_trait
  simp (disch := omega) only [nl0, nl1, nl2, nl3, nl4, nl5, nl6, nl7, nl8, nl9, nl10, nl15, nl16, nl24, nl50, nl80, nl85, nl100, nl101, nl109, nl999, nl99999, c_ix, i_le_t, i_le_f, i_lt_t, i_lt_f, i_eq_t, i_eq_f, nI_clamp, pk_mul, nI_add, Option.bind_some, if_true, if_false]
  rw [hT.1 _ (by omega)]
  unfold tr
  congr 3
theorem x_part1 {x : St} {t : Nat} {τ : Nat → Nat} (hT : TX x t τ) {c : Nat} (hc : c < 16) : f2_trait t (nI c) (1 : Int32) x = some (nI (tr τ c 1)) := by
  unfold f2_trait
  simp (disch := omega) only [nl0, nl1, nl2, nl3, nl4, nl5, nl6, nl7, nl8, nl9, nl10, nl15, nl16, nl24, nl50, nl80, nl85, nl100, nl101, nl109, nl999, nl99999, c_ix, i_le_t, i_le_f, i_lt_t, i_lt_f, i_eq_t, i_eq_f, nI_clamp, pk_mul, nI_add, Option.bind_some, if_true, if_false]
  rw [hT.1 _ (by omega)]
  unfold tr
  congr 3
theorem x_part2 {x : St} {t : Nat} {τ : Nat → Nat} (hT : TX x t τ) {c : Nat} (hc : c < 16) : f2_trait t (nI c) (2 : Int32) x = some (nI (tr τ c 2)) := by
  unfold f2_trait
  simp (disch := omega) only [nl0, nl1, nl2, nl3, nl4, nl5, nl6, nl7, nl8, nl9, nl10, nl15, nl16, nl24, nl50, nl80, nl85, nl100, nl101, nl109, nl999, nl99999, c_ix, i_le_t, i_le_f, i_lt_t, i_lt_f, i_eq_t, i_eq_f, nI_clamp, pk_mul, nI_add, Option.bind_some, if_true, if_false]
  rw [hT.1 _ (by omega)]
  unfold tr
  congr 3
theorem x_part3 {x : St} {t : Nat} {τ : Nat → Nat} (hT : TX x t τ) {c : Nat} (hc : c < 16) : f2_trait t (nI c) (3 : Int32) x = some (nI (tr τ c 3)) := by
  unfold f2_trait
  simp (disch := omega) only [nl0, nl1, nl2, nl3, nl4, nl5, nl6, nl7, nl8, nl9, nl10, nl15, nl16, nl24, nl50, nl80, nl85, nl100, nl101, nl109, nl999, nl99999, c_ix, i_le_t, i_le_f, i_lt_t, i_lt_f, i_eq_t, i_eq_f, nI_clamp, pk_mul, nI_add, Option.bind_some, if_true, if_false]
  rw [hT.1 _ (by omega)]
  unfold tr
  congr 3
theorem x_part4 {x : St} {t : Nat} {τ : Nat → Nat} (hT : TX x t τ) {c : Nat} (hc : c < 16) : f2_trait t (nI c) (4 : Int32) x = some (nI (tr τ c 4)) := by
  unfold f2_trait
  simp (disch := omega) only [nl0, nl1, nl2, nl3, nl4, nl5, nl6, nl7, nl8, nl9, nl10, nl15, nl16, nl24, nl50, nl80, nl85, nl100, nl101, nl109, nl999, nl99999, c_ix, i_le_t, i_le_f, i_lt_t, i_lt_f, i_eq_t, i_eq_f, nI_clamp, pk_mul, nI_add, Option.bind_some, if_true, if_false]
  rw [hT.1 _ (by omega)]
  unfold tr
  congr 3
theorem x_its0 {x : St} {t : Nat} {τ : Nat → Nat} (hT : TX x t τ) {w : Nat} (hw : w < 8) : f2_quality t (nI w) (0 : Int32) x = some (nI (qu τ w 0)) := by
  unfold f2_quality
  simp (disch := omega) only [nl0, nl1, nl2, nl3, nl4, nl5, nl6, nl7, nl8, nl9, nl10, nl15, nl16, nl24, nl50, nl80, nl85, nl100, nl101, nl109, nl999, nl99999, c_ix, i_le_t, i_le_f, i_lt_t, i_lt_f, i_eq_t, i_eq_f, nI_clamp, pk_mul, nI_add, Option.bind_some, if_true, if_false]
  rw [hT.2.1 _ (by omega)]
  unfold qu
  congr 3
theorem x_its1 {x : St} {t : Nat} {τ : Nat → Nat} (hT : TX x t τ) {w : Nat} (hw : w < 8) : f2_quality t (nI w) (1 : Int32) x = some (nI (qu τ w 1)) := by
  unfold f2_quality
  simp (disch := omega) only [nl0, nl1, nl2, nl3, nl4, nl5, nl6, nl7, nl8, nl9, nl10, nl15, nl16, nl24, nl50, nl80, nl85, nl100, nl101, nl109, nl999, nl99999, c_ix, i_le_t, i_le_f, i_lt_t, i_lt_f, i_eq_t, i_eq_f, nI_clamp, pk_mul, nI_add, Option.bind_some, if_true, if_false]
  rw [hT.2.1 _ (by omega)]
  unfold qu
  congr 3
theorem x_its2 {x : St} {t : Nat} {τ : Nat → Nat} (hT : TX x t τ) {w : Nat} (hw : w < 8) : f2_quality t (nI w) (2 : Int32) x = some (nI (qu τ w 2)) := by
  unfold f2_quality
  simp (disch := omega) only [nl0, nl1, nl2, nl3, nl4, nl5, nl6, nl7, nl8, nl9, nl10, nl15, nl16, nl24, nl50, nl80, nl85, nl100, nl101, nl109, nl999, nl99999, c_ix, i_le_t, i_le_f, i_lt_t, i_lt_f, i_eq_t, i_eq_f, nI_clamp, pk_mul, nI_add, Option.bind_some, if_true, if_false]
  rw [hT.2.1 _ (by omega)]
  unfold qu
  congr 3
theorem x_steep {x : St} {t : Nat} {τ : Nat → Nat} (hT : TX x t τ) (hI : IT τ) {c : Nat} (hc : c < 16) : f2_steepAt t (nI c) x = some (nI (sSteep τ c)) := by
  have h1 := it_t hI hc
  have h2 := it_t hI (c := tr τ c 1) (by omega)
  unfold f2_steepAt
  rw [bd (x_part0 hT hc), bd (x_part1 hT hc), bd (x_part0 hT (c := tr τ c 1) (by omega)), i_mx0 (by omega) (by omega)]
  rfl
set_option maxHeartbeats 2000000 in
theorem x_speed {x : St} {t : Nat} {τ : Nat → Nat} (hT : TX x t τ) (hI : IT τ) {w : Nat} (hw : w < 8) : f2_speedOf t (nI w) x = some (nI (sSpeed τ w)) := by
  have h1 := it_w hI hw
  have h2 := it_t hI (c := qu τ w 1) (by omega)
  have h3 := sSteep_le hI (c := qu τ w 1) (by omega)
  have h4 := sPlain_le τ (qu τ w 1)
  have h5 := hI.2.1
  have h9 : ∀ v : Nat, v < 1000 → f2_speedOf_b164 t (nI v) x = some (nI (if τ 2 = 1 then 2 * v else v)) := by
    intro v hv
    unfold f2_speedOf_b164
    simp (disch := omega) only [nl0, nl1, nl2, c_ix, nI_clamp, pk_mul, if_false]
    rw [hT.2.2.2.2]
    by_cases h : τ 2 = 1
    · rw [i_eq_t h, if_pos h]
    · rw [i_eq_f h (by omega) (by omega), if_neg h]
  have h8 : ∀ v : Nat, v < 1000 → f2_speedOf_b144 t (nI v) x = some (nI (if τ 2 = 1 then 2 * v else v)) := h9
  have hp : nI (min (sSteep τ (qu τ w 1) / 10) 3) + nI 1 = nI (sPlain τ (qu τ w 1)) := by
    rw [nI_add]
    rfl
  unfold f2_speedOf
  rw [bd (x_its1 hT hw), bd (x_part2 hT (c := qu τ w 1) (by omega)), bd (x_steep hT hI (c := qu τ w 1) (by omega)), bd (x_its2 hT hw), bd (x_its0 hT hw)]
  unfold sSpeed sSpeed0
  have e8 : tr τ (qu τ w 1) 2 = 0 ∨ ¬ (tr τ (qu τ w 1) 2 = 0) := by omega
  rcases (show qu τ w 0 = 0 ∨ qu τ w 0 = 1 ∨ qu τ w 0 = 2 ∨ qu τ w 0 = 3 ∨ qu τ w 0 = 4 ∨ qu τ w 0 = 5 ∨ qu τ w 0 = 6 by omega) with k | k | k | k | k | k | k
  all_goals rw [k]
  all_goals rcases e8 with k0 | k0
  all_goals simp (disch := omega) only [nl0, nl1, nl2, nl3, nl4, nl5, nl6, nl10, nl100, ↓i_eq_t, ↓i_eq_f, Option.bind_some, pk_div, i_min, hp, i_mx, nI_add, pk_mul, h9, if_true]
  all_goals try simp (disch := omega) only [← nl2, x_part2 hT, Option.bind_some, i_le_t, i_le_f, h8, k0]
  all_goals try simp (disch := omega) only [i_le_t, i_le_f, h8, k0]
  all_goals simp

