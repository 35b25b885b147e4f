def sumN (f : Nat → Nat) : Nat → Nat
  | 0 => 0
  | k + 1 => sumN f k + f k
theorem sum_le {f : Nat → Nat} {B : Nat} : ∀ {k : Nat}, (∀ i, i < k → f i ≤ B) → sumN f k ≤ k * B
  | 0, _ => by unfold sumN; omega
  | k + 1, h => by
    have h1 := sum_le (k := k) (fun i hi => h i (by omega))
    have h2 := h k (by omega)
    unfold sumN
    rw [Nat.succ_mul]
    omega
theorem sum_mono {f : Nat → Nat} {a : Nat} : ∀ {b : Nat}, a ≤ b → sumN f a ≤ sumN f b
  | 0, h => by rw [Nat.le_zero.mp h]; exact Nat.le_refl _
  | b + 1, h => by
    rcases Nat.lt_or_ge b a with g | g
    · rw [show a = b + 1 by omega]; exact Nat.le_refl _
    · have := sum_mono (f := f) g
      show sumN f a ≤ sumN f b + f b
      omega
theorem sum_congr {f g : Nat → Nat} : ∀ {k : Nat}, (∀ i, i < k → f i = g i) → sumN f k = sumN g k
  | 0, _ => rfl
  | k + 1, h => by
    show sumN f k + f k = sumN g k + g k
    rw [sum_congr (k := k) (fun i hi => h i (by omega)), h k (by omega)]
def wLoud (τ : Nat → Nat) (c w : Nat) : Nat := if qu τ w 1 = c then qu τ w 2 else 0
def sLoud (τ : Nat → Nat) (c : Nat) : Nat := sumN (wLoud τ c) (τ 1)
theorem wl_le {τ : Nat → Nat} (hI : IT τ) (c : Nat) {w : Nat} (hw : w < 8) : wLoud τ c w ≤ 999 := by
  have := it_w hI hw
  unfold wLoud
  split
  all_goals omega
theorem sl_le' {τ : Nat → Nat} (hI : IT τ) (c : Nat) {k : Nat} (hk : k ≤ 8) : sumN (wLoud τ c) k ≤ 7992 := by
  have := sum_le (f := wLoud τ c) (B := 999) (k := k) (fun i hi => wl_le hI c (by omega))
  omega
theorem sl_le {τ : Nat → Nat} (hI : IT τ) (c : Nat) : sLoud τ c ≤ 7992 := sl_le' hI c hI.1
theorem x_wAt {x : St} {t w c : Nat} {τ : Nat → Nat} (hT : TX x t τ) (hI : IT τ) (hw : w < 8) (hc : c < 16) : f2_weightAt t (nI w) (nI c) x = some (nI (wLoud τ c w)) := by
  have h1 := it_w hI hw
  unfold f2_weightAt wLoud
  rw [bd (x_its1 hT hw)]
  by_cases e : qu τ w 1 = c
  · rw [i_eq_t e, if_pos e, bd (x_its2 hT hw)]
  · rw [i_eq_f e (by omega) (by omega), if_neg e]
    rfl
theorem x_loud_L {x : St} {t c : Nat} {τ : Nat → Nat} (hT : TX x t τ) (hI : IT τ) (hc : c < 16) : ∀ (d b F : Nat), d + 1 ≤ F → b + d = τ 1 → f2_loudAt_L4 t F (nI c) (nI (sumN (wLoud τ c) b)) (nI b) x = some (nI (sLoud τ c))
  | d, b, 0, hF, hb => by omega
  | 0, b, F + 1, hF, hb => by
    have h1 := hI.1
    have hb' : b = τ 1 := hb
    rw [f2_loudAt_L4_s, hT.2.2.1, i_le_t (by omega) (by omega), hb']
    rfl
  | d + 1, b, F + 1, hF, hb => by
    have h1 := hI.1
    rw [f2_loudAt_L4_s, hT.2.2.1, i_le_f (by omega) (by omega), bd (x_wAt hT hI (by omega) hc), nI_add, nl1, nI_add]
    exact x_loud_L hT hI hc d (b + 1) F (by omega) (by omega)
theorem x_loud {x : St} {t c : Nat} {τ : Nat → Nat} (hT : TX x t τ) (hI : IT τ) (hc : c < 16) : f2_loudAt t (nI c) x = some (nI (sLoud τ c)) := by
  have h1 := hI.1
  exact x_loud_L hT hI hc (τ 1) 0 fu (by rw [fu_eq]; omega) (by omega)
theorem m_many {m : St} {τ : Nat → Nat} (hT : TM (m 26) τ) : m 26 (1 : Int32).toNatClampNeg = nI (τ 1) := hT 1 (by omega) (by omega) (by omega)
theorem m_loud_L {m : St} {c : Nat} {τ : Nat → Nat} (hT : TM (m 26) τ) (hI : IT τ) (hc : c < 16) : ∀ (d b F : Nat), d + 1 ≤ F → b + d = τ 1 → f4_loudAt_L4 F (nI c) (nI (sumN (wLoud τ c) b)) (nI b) m = some (nI (sLoud τ c))
  | d, b, 0, hF, hb => by omega
  | 0, b, F + 1, hF, hb => by
    have h1 := hI.1
    have hb' : b = τ 1 := hb
    rw [f4_loudAt_L4_s, if_neg (by decide), m_many hT, i_le_t (by omega) (by omega), hb']
    rfl
  | d + 1, b, F + 1, hF, hb => by
    have h1 := hI.1
    have h2 := it_w hI (w := b) (by omega)
    have ih := m_loud_L hT hI hc d (b + 1) F (by omega) (by omega)
    have e1 : nI (sumN (wLoud τ c) (b + 1)) = nI (sumN (wLoud τ c) b + wLoud τ c b) := rfl
    rw [e1] at ih
    rw [f4_loudAt_L4_s, if_neg (by decide), m_many hT, i_le_f (by omega) (by omega), bd (m_its1 hT (by omega))]
    unfold f4_loudAt_b35
    by_cases e : qu τ b 1 = c
    · rw [i_eq_t e, bd (m_its2 hT (by omega)), nI_add, nl1, nI_add, ← ih]
      unfold wLoud
      rw [if_pos e]
    · rw [i_eq_f e (by omega) (by omega), Int32.add_zero, nl1, nI_add, ← ih]
      unfold wLoud
      rw [if_neg e]
      rfl
theorem m_loud {m : St} {c : Nat} {τ : Nat → Nat} (hT : TM (m 26) τ) (hI : IT τ) (hc : c < 16) : f4_loudAt (nI c) m = some (nI (sLoud τ c)) := by
  have h1 := hI.1
  exact m_loud_L hT hI hc (τ 1) 0 fu (by rw [fu_eq]; omega) (by omega)
def sHeard (τ : Nat → Nat) (c : Nat) : Bool := decide (tr τ c 4 ≤ sLoud τ c)
def b01 (b : Bool) : Int32 := if b then 1 else 0
theorem b01_0 {α : Type} {b : Bool} {u v : α} : (if b01 b = 0 then u else v) = if b then v else u := by cases b <;> rfl
theorem x_heard {x : St} {t c : Nat} {τ : Nat → Nat} (hT : TX x t τ) (hI : IT τ) (hc : c < 16) : f2_isHeardAt t (nI c) x = some (b01 (sHeard τ c)) := by
  have h1 := it_t hI hc
  have h2 := sl_le hI c
  unfold f2_isHeardAt sHeard b01
  rw [bd (x_loud hT hI hc), bd (x_part4 hT hc)]
  by_cases e : tr τ c 4 ≤ sLoud τ c
  · rw [i_lt_f e (by omega), if_pos (by simp [e])]
  · rw [i_lt_t (by omega) (by omega), if_neg (by simp [e])]
theorem m_heard {m : St} {c : Nat} {τ : Nat → Nat} (hT : TM (m 26) τ) (hI : IT τ) (hc : c < 16) : f4_isHeard (nI c) m = some (b01 (sHeard τ c)) := by
  have h1 := it_t hI hc
  have h2 := sl_le hI c
  unfold f4_isHeard sHeard b01
  rw [bd (m_loud hT hI hc), bd (m_part4 hT hc)]
  by_cases e : tr τ c 4 ≤ sLoud τ c
  · rw [i_lt_f e (by omega), if_pos (by simp [e])]
  · rw [i_lt_t (by omega) (by omega), if_neg (by simp [e])]
def sRent (τ : Nat → Nat) (c : Nat) : Nat := tr τ c 0 + (50 - sLoud τ c)
theorem x_rent {x : St} {t c : Nat} {τ : Nat → Nat} (hT : TX x t τ) (hI : IT τ) (hc : c < 16) : f2_rentOf t (nI c) x = some (nI (sRent τ c)) := by
  have h1 := it_t hI hc
  have h2 := sl_le hI c
  unfold f2_rentOf
  rw [bd (x_part0 hT hc), bd (x_loud hT hI hc), nl50, i_mx0 (by omega) (by omega), nI_add]
  rfl
theorem m_rent {m : St} {c : Nat} {τ : Nat → Nat} (hT : TM (m 26) τ) (hI : IT τ) (hc : c < 16) : f4_rent (nI c) m = some (nI (sRent τ c)) := by
  have h1 := it_t hI hc
  have h2 := sl_le hI c
  unfold f4_rent
  rw [bd (m_part0 hT hc), bd (m_loud hT hI hc), nl50, i_mx0 (by omega) (by omega), nI_add]
  rfl
theorem x_height {x : St} {t w : Nat} {τ : Nat → Nat} (hT : TX x t τ) (hI : IT τ) (hw : w < 8) : f2_heightOf t (nI w) x = some (nI (tr τ (qu τ w 1) 0)) := by
  have h1 := it_w hI hw
  unfold f2_heightOf
  rw [bd (x_its1 hT hw), bd (x_part0 hT (c := qu τ w 1) (by omega))]
theorem m_height {m : St} {w : Nat} {τ : Nat → Nat} (hT : TM (m 26) τ) (hI : IT τ) (hw : w < 8) : f4_heightOf (nI w) m = some (nI (tr τ (qu τ w 1) 0)) := by
  have h1 := it_w hI hw
  unfold f4_heightOf
  rw [bd (m_its1 hT hw), bd (m_part0 hT (c := qu τ w 1) (by omega))]
-- all weights, all sand, the count at a corner
def sAllW (τ : Nat → Nat) : Nat := sumN (fun w => qu τ w 2) (τ 1)
theorem x_allW_L {x : St} {t : Nat} {τ : Nat → Nat} (hT : TX x t τ) (hI : IT τ) : ∀ (d b F : Nat), d + 1 ≤ F → b + d = τ 1 → f2_weightOfAll_L4 t F (nI (sumN (fun w => qu τ w 2) b)) (nI b) x = some (nI (sAllW τ))
  | d, b, 0, hF, hb => by omega
  | 0, b, F + 1, hF, hb => by
    have h1 := hI.1
    have hb' : b = τ 1 := hb
    rw [f2_weightOfAll_L4_s, hT.2.2.1, i_le_t (by omega) (by omega), hb']
    rfl
  | d + 1, b, F + 1, hF, hb => by
    have h1 := hI.1
    rw [f2_weightOfAll_L4_s, hT.2.2.1, i_le_f (by omega) (by omega), bd (x_its2 hT (by omega)), nI_add, nl1, nI_add]
    exact x_allW_L hT hI d (b + 1) F (by omega) (by omega)
theorem x_allW {x : St} {t : Nat} {τ : Nat → Nat} (hT : TX x t τ) (hI : IT τ) : f2_weightOfAll t x = some (nI (sAllW τ)) := by
  have h1 := hI.1
  exact x_allW_L hT hI (τ 1) 0 fu (by rw [fu_eq]; omega) (by omega)
theorem m_allW_L {m : St} {τ : Nat → Nat} (hT : TM (m 26) τ) (hI : IT τ) : ∀ (d b F : Nat), d + 1 ≤ F → b + d = τ 1 → f4_allWeight_L4 F (nI (sumN (fun w => qu τ w 2) b)) (nI b) m = some (nI (sAllW τ))
  | d, b, 0, hF, hb => by omega
  | 0, b, F + 1, hF, hb => by
    have h1 := hI.1
    have hb' : b = τ 1 := hb
    rw [f4_allWeight_L4_s, if_neg (by decide), m_many hT, i_le_t (by omega) (by omega), hb']
    rfl
  | d + 1, b, F + 1, hF, hb => by
    have h1 := hI.1
    rw [f4_allWeight_L4_s, if_neg (by decide), m_many hT, i_le_f (by omega) (by omega), bd (m_its2 hT (by omega)), nI_add, nl1, nI_add]
    exact m_allW_L hT hI d (b + 1) F (by omega) (by omega)
theorem m_allW {m : St} {τ : Nat → Nat} (hT : TM (m 26) τ) (hI : IT τ) : f4_allWeight m = some (nI (sAllW τ)) := by
  have h1 := hI.1
  exact m_allW_L hT hI (τ 1) 0 fu (by rw [fu_eq]; omega) (by omega)
def sAllS (τ : Nat → Nat) : Nat := sumN (fun c => tr τ c 2) 16
theorem x_allS_L {x : St} {t : Nat} {τ : Nat → Nat} (hT : TX x t τ) : ∀ (d b F : Nat), d + 1 ≤ F → b + d = 16 → f2_sandOfAll_L4 t F (nI (sumN (fun c => tr τ c 2) b)) (nI b) x = some (nI (sAllS τ))
  | d, b, 0, hF, hb => by omega
  | 0, b, F + 1, hF, hb => by
    have hb' : b = 16 := hb
    rw [f2_sandOfAll_L4_s, nl16, i_le_t (by omega) (by omega), hb']
    rfl
  | d + 1, b, F + 1, hF, hb => by
    rw [f2_sandOfAll_L4_s, nl16, i_le_f (by omega) (by omega), bd (x_part2 hT (by omega)), nI_add, nl1, nI_add]
    exact x_allS_L hT d (b + 1) F (by omega) (by omega)
theorem x_allS {x : St} {t : Nat} {τ : Nat → Nat} (hT : TX x t τ) : f2_sandOfAll t x = some (nI (sAllS τ)) := x_allS_L hT 16 0 fu (by rw [fu_eq]; omega) (by omega)
theorem m_allS_L {m : St} {τ : Nat → Nat} (hT : TM (m 26) τ) : ∀ (d b F : Nat), d + 1 ≤ F → b + d = 16 → f4_allSand_L4 F (nI (sumN (fun c => tr τ c 2) b)) (nI b) m = some (nI (sAllS τ))
  | d, b, 0, hF, hb => by omega
  | 0, b, F + 1, hF, hb => by
    have hb' : b = 16 := hb
    rw [f4_allSand_L4_s, nl16, i_le_t (by omega) (by omega), hb']
    rfl
  | d + 1, b, F + 1, hF, hb => by
    rw [f4_allSand_L4_s, nl16, i_le_f (by omega) (by omega), bd (m_part2 hT (by omega)), nI_add, nl1, nI_add]
    exact m_allS_L hT d (b + 1) F (by omega) (by omega)
theorem m_allS {m : St} {τ : Nat → Nat} (hT : TM (m 26) τ) : f4_allSand m = some (nI (sAllS τ)) := m_allS_L hT 16 0 fu (by rw [fu_eq]; omega) (by omega)
-- sets of corners
def setN (P : Nat → Bool) : Nat → Nat
  | 0 => 0
  | k + 1 => setN P k ||| (if P k then 2 ^ k else 0)
theorem set_lt (P : Nat → Bool) : ∀ (k : Nat), setN P k < 2 ^ k
  | 0 => by unfold setN; omega
  | k + 1 => by
    have h1 := set_lt P k
    have h2 : 2 ^ k < 2 ^ (k + 1) := Nat.pow_lt_pow_right (by omega) (by omega)
    unfold setN
    apply Nat.or_lt_two_pow (by omega)
    split
    · exact h2
    · omega
def sHears (τ : Nat → Nat) : Nat := setN (sHeard τ) 16
def sRuns (τ : Nat → Nat) : Nat := setN (fun c => decide (0 < sSteep τ c)) 16
theorem x_hears_L {x : St} {t : Nat} {τ : Nat → Nat} (hT : TX x t τ) (hI : IT τ) : ∀ (d b F : Nat), d + 1 ≤ F → b + d = 16 → f2_heardCorners_L4 t F (nI (setN (sHeard τ) b)) (nI b) x = some (nI (sHears τ))
  | d, b, 0, hF, hb => by omega
  | 0, b, F + 1, hF, hb => by
    have hb' : b = 16 := hb
    rw [f2_heardCorners_L4_s, nl16, i_le_t (by omega) (by omega), hb']
    rfl
  | d + 1, b, F + 1, hF, hb => by
    have ih := x_hears_L hT hI d (b + 1) F (by omega) (by omega)
    unfold setN at ih
    rw [f2_heardCorners_L4_s, nl16, i_le_f (by omega) (by omega), bd (x_heard hT hI (by omega)), b01_0]
    unfold f2_heardCorners_b24
    by_cases e : sHeard τ b = true
    · rw [if_pos e] at ih ⊢
      rw [i_shl _ (by omega), i_or, nl1, nI_add]
      exact ih
    · rw [if_neg e] at ih ⊢
      rw [nl1, nI_add]
      rw [Nat.or_zero] at ih
      exact ih
theorem x_hears {x : St} {t : Nat} {τ : Nat → Nat} (hT : TX x t τ) (hI : IT τ) : f2_heardCorners t x = some (nI (sHears τ)) := x_hears_L hT hI 16 0 fu (by rw [fu_eq]; omega) (by omega)
theorem x_runs_L {x : St} {t : Nat} {τ : Nat → Nat} (hT : TX x t τ) (hI : IT τ) : ∀ (d b F : Nat), d + 1 ≤ F → b + d = 16 → f2_runningCorners_L4 t F (nI (setN (fun c => decide (0 < sSteep τ c)) b)) (nI b) x = some (nI (sRuns τ))
  | d, b, 0, hF, hb => by omega
  | 0, b, F + 1, hF, hb => by
    have hb' : b = 16 := hb
    rw [f2_runningCorners_L4_s, nl16, i_le_t (by omega) (by omega), hb']
    rfl
  | d + 1, b, F + 1, hF, hb => by
    have h2 := sSteep_le hI (c := b) (by omega)
    have ih := x_runs_L hT hI d (b + 1) F (by omega) (by omega)
    unfold setN at ih
    rw [f2_runningCorners_L4_s, nl16, i_le_f (by omega) (by omega), bd (x_steep hT hI (by omega))]
    unfold f2_runningCorners_b24
    by_cases e : 0 < sSteep τ b
    · rw [if_neg (by rw [nl0]; exact nI_ge e (by omega)), i_shl _ (by omega), i_or, nl1, nI_add]
      rw [if_pos (by simp [e])] at ih
      exact ih
    · rw [if_pos (by rw [nl0]; exact nI_le (by omega) (by omega)), nl1, nI_add]
      rw [if_neg (by simp [e]), Nat.or_zero] at ih
      exact ih
theorem x_runs {x : St} {t : Nat} {τ : Nat → Nat} (hT : TX x t τ) (hI : IT τ) : f2_runningCorners t x = some (nI (sRuns τ)) := x_runs_L hT hI 16 0 fu (by rw [fu_eq]; omega) (by omega)
theorem m_hears_L {m : St} {τ : Nat → Nat} (hT : TM (m 26) τ) (hI : IT τ) : ∀ (d b F : Nat), d + 1 ≤ F → b + d = 16 → f4_cornersThat_L4 F 1 (nI (setN (sHeard τ) b)) (nI b) m = some (nI (sHears τ))
  | d, b, 0, hF, hb => by omega
  | 0, b, F + 1, hF, hb => by
    have hb' : b = 16 := hb
    rw [f4_cornersThat_L4_s, nl16, i_le_t (by omega) (by omega), hb']
    rfl
  | d + 1, b, F + 1, hF, hb => by
    have ih := m_hears_L hT hI d (b + 1) F (by omega) (by omega)
    unfold setN at ih
    rw [f4_cornersThat_L4_s, nl16, i_le_f (by omega) (by omega), if_neg (by decide), bd (m_heard hT hI (by omega)), b01_0]
    unfold f4_cornersThat_b40 f4_cornersThat_b34 f4_cornersThat_b41
    by_cases e : sHeard τ b = true
    · rw [if_pos e] at ih ⊢
      rw [i_shl _ (by omega), i_or, nl1, nI_add]
      exact ih
    · rw [if_neg e] at ih ⊢
      rw [i_or0, nl1, nI_add]
      rw [Nat.or_zero] at ih
      exact ih
theorem m_hears {m : St} {τ : Nat → Nat} (hT : TM (m 26) τ) (hI : IT τ) : f4_cornersThat 1 m = some (nI (sHears τ)) := m_hears_L hT hI 16 0 fu (by rw [fu_eq]; omega) (by omega)
theorem m_runs_L {m : St} {τ : Nat → Nat} (hT : TM (m 26) τ) (hI : IT τ) : ∀ (d b F : Nat), d + 1 ≤ F → b + d = 16 → f4_cornersThat_L4 F 0 (nI (setN (fun c => decide (0 < sSteep τ c)) b)) (nI b) m = some (nI (sRuns τ))
  | d, b, 0, hF, hb => by omega
  | 0, b, F + 1, hF, hb => by
    have hb' : b = 16 := hb
    rw [f4_cornersThat_L4_s, nl16, i_le_t (by omega) (by omega), hb']
    rfl
  | d + 1, b, F + 1, hF, hb => by
    have h2 := sSteep_le hI (c := b) (by omega)
    have ih := m_runs_L hT hI d (b + 1) F (by omega) (by omega)
    unfold setN at ih
    rw [f4_cornersThat_L4_s, nl16, i_le_f (by omega) (by omega), if_pos (by decide), bd (m_steep hT hI (by omega))]
    unfold f4_cornersThat_b40 f4_cornersThat_b34 f4_cornersThat_b41
    by_cases e : 0 < sSteep τ b
    · rw [if_neg (by rw [nl0]; exact nI_ge e (by omega)), i_shl _ (by omega), i_or, nl1, nI_add]
      rw [if_pos (by simp [e])] at ih
      exact ih
    · rw [if_pos (by rw [nl0]; exact nI_le (by omega) (by omega)), i_or0, nl1, nI_add]
      rw [if_neg (by simp [e]), Nat.or_zero] at ih
      exact ih
theorem m_runs {m : St} {τ : Nat → Nat} (hT : TM (m 26) τ) (hI : IT τ) : f4_cornersThat 0 m = some (nI (sRuns τ)) := m_runs_L hT hI 16 0 fu (by rw [fu_eq]; omega) (by omega)
