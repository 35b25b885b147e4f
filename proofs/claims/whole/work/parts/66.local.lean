theorem fu_eq : fu = 1100 := rfl
def sRoll (w : Nat) (τ : Nat → Nat) : Nat → Nat := rollN w (sSpeed τ w) τ
def sWay (w : Nat) (τ : Nat → Nat) : Nat := wayN w (sSpeed τ w) τ
theorem sr_it {w : Nat} (hw : w < 8) {τ : Nat → Nat} (h : IT τ) : IT (sRoll w τ) := ro_it hw _ h
theorem sr_ne {w i : Nat} (hi : i < 85 + 3 * w + 1 ∨ 85 + 3 * w + 3 ≤ i) (τ : Nat → Nat) : sRoll w τ i = τ i := ro_ne hi _ τ
theorem wy_lo {w : Nat} (hw : w < 8) {τ : Nat → Nat} (h : IT τ) : sWay w τ < 65536 := wy_lt hw _ h
theorem wy0 {w : Nat} : ∀ (n : Nat) {τ : Nat → Nat}, wayN w n τ = 0 → rollN w n τ = τ
  | 0, _, _ => rfl
  | n + 1, τ, h => by
    unfold wayN at h
    unfold rollN
    by_cases h0 : sSteep τ (qu τ w 1) = 0
    · rw [if_pos h0]
    · rw [if_neg h0] at h
      exact absurd (Nat.or_eq_zero_iff.mp h).1 (Nat.pos_iff_ne_zero.mp (Nat.two_pow_pos _))
theorem wy_n0 {w : Nat} {n : Nat} {τ : Nat → Nat} : wayN w (n + 1) τ = 0 ↔ sSteep τ (qu τ w 1) = 0 := by
  unfold wayN
  by_cases h0 : sSteep τ (qu τ w 1) = 0
  · rw [if_pos h0]; simp [h0]
  · rw [if_neg h0]
    constructor
    · intro h
      exact absurd (Nat.or_eq_zero_iff.mp h).1 (Nat.pos_iff_ne_zero.mp (Nat.two_pow_pos _))
    · intro h; exact absurd h h0
theorem x_roll {x : St} {t w : Nat} {τ : Nat → Nat} (hT : TX x t τ) (hI : IT τ) (hw : w < 8) : ∃ x', f2_roll t (nI w) x = some (nI (sWay w τ), x') ∧ TX x' t (sRoll w τ) ∧ ∀ k, k ≠ 3 + 4 * t → x' k = x k := by
  have hs := sSpeed_le hI hw
  unfold f2_roll
  rw [bd (x_speed hT hI hw)]
  obtain ⟨x', q1, q2, q3⟩ := x_roll_L (t := t) hw (sSpeed τ w) τ x fu 0 0 (by rw [fu_eq]; omega) hT hI (by omega)
  refine ⟨x', ?_, q2, q3⟩
  rw [Nat.zero_or] at q1
  rw [Nat.zero_add] at q1
  exact q1
theorem m_roll {m : St} {w : Nat} {τ : Nat → Nat} (hT : TM (m 26) τ) (hI : IT τ) (hw : w < 8) : ∃ m', f4_rolls (nI w) m = some m' ∧ TM (m' 26) (sRoll w τ) ∧ RM m m' ∧ m' 25 5 = (if nI w = m 25 6 then m 25 5 ||| nI (sWay w τ) else m 25 5) := by
  have hs := sSpeed_le hI hw
  unfold f4_rolls
  rw [bd (m_speed hT hI hw)]
  exact m_roll_L hw (sSpeed τ w) τ m fu (by rw [fu_eq]; omega) hT hI (by omega)
-- what a whisper does hangs on itself alone
def SW (w : Nat) (τ σ : Nat → Nat) : Prop := (∀ i, 2 ≤ i → i < 85 → i ≠ 4 → τ i = σ i) ∧ ∀ k, k < 3 → qu τ w k = qu σ w k
theorem SW_refl (w : Nat) (τ : Nat → Nat) : SW w τ τ := ⟨fun _ _ _ _ => rfl, fun _ _ => rfl⟩
theorem SW_symm {w : Nat} {τ σ : Nat → Nat} (h : SW w τ σ) : SW w σ τ := ⟨fun i a b c => (h.1 i a b c).symm, fun k hk => (h.2 k hk).symm⟩
theorem SW_trans {w : Nat} {τ σ ρ : Nat → Nat} (h : SW w τ σ) (g : SW w σ ρ) : SW w τ ρ := ⟨fun i a b c => (h.1 i a b c).trans (g.1 i a b c), fun k hk => (h.2 k hk).trans (g.2 k hk)⟩
theorem SW_tr {w : Nat} {τ σ : Nat → Nat} (h : SW w τ σ) {c k : Nat} (hc : c < 16) (hk : k < 5) : tr τ c k = tr σ c k := h.1 _ (by omega) (by omega) (by omega)
theorem SW_steep {w : Nat} {τ σ : Nat → Nat} (h : SW w τ σ) (hI : IT τ) {c : Nat} (hc : c < 16) : sSteep τ c = sSteep σ c := by
  have h2 := it_t hI hc
  unfold sSteep
  rw [← SW_tr h hc (by omega : 1 < 5), SW_tr h hc (by omega : 0 < 5), SW_tr h (by omega : tr τ c 1 < 16) (by omega : 0 < 5)]
theorem SW_speed {w : Nat} {τ σ : Nat → Nat} (h : SW w τ σ) (hI : IT τ) (hw : w < 8) : sSpeed τ w = sSpeed σ w := by
  have h1 := it_w hI hw
  unfold sSpeed sSpeed0 sPlain
  rw [← h.1 2 (by omega) (by omega) (by omega), ← h.2 0 (by omega), ← h.2 1 (by omega), ← h.2 2 (by omega), ← SW_tr h (by omega : qu τ w 1 < 16) (by omega : 2 < 5), ← SW_steep h hI (by omega : qu τ w 1 < 16)]
theorem SW_gath {w : Nat} {τ σ : Nat → Nat} (h : SW w τ σ) (hI : IT τ) (hw : w < 8) : sGath τ w = sGath σ w := by
  have h1 := it_w hI hw
  unfold sGath
  rw [← h.2 0 (by omega), ← h.2 1 (by omega), ← SW_steep h hI (by omega : qu τ w 1 < 16)]
theorem SW_nxt {w : Nat} {τ σ : Nat → Nat} (h : SW w τ σ) (hI : IT τ) (hw : w < 8) : nxt τ w = nxt σ w := by
  have h1 := it_w hI hw
  unfold nxt
  rw [← h.2 1 (by omega), ← SW_tr h (by omega : qu τ w 1 < 16) (by omega : 1 < 5)]
theorem SW_noA {w : Nat} {τ σ : Nat → Nat} (h : SW w τ σ) (c : Nat) : noA τ c = noA σ c := by
  unfold noA
  rw [h.1 3 (by omega) (by omega) (by omega)]
theorem SW_step {w : Nat} {τ σ : Nat → Nat} (h : SW w τ σ) (hI : IT τ) (hw : w < 8) : SW w (stepR w τ) (stepR w σ) := by
  refine ⟨fun i a b c => ?_, fun k hk => ?_⟩
  · rw [st_lo b, st_lo b]; exact h.1 i a b c
  · rcases (show k = 0 ∨ k = 1 ∨ k = 2 by omega) with e | e | e <;> subst e
    · rw [st_q0, st_q0]; exact h.2 0 hk
    · rw [st_q1, st_q1]; exact SW_nxt h hI hw
    · rw [st_q2, st_q2, h.2 2 hk, SW_gath h hI hw]
theorem SW_it {w : Nat} {τ : Nat → Nat} (hI : IT τ) (hw : w < 8) : qu τ w 1 < 16 := by
  have := it_w hI hw
  omega
theorem SW_roll {w : Nat} (hw : w < 8) : ∀ (n : Nat) {τ σ : Nat → Nat}, SW w τ σ → IT τ → SW w (rollN w n τ) (rollN w n σ) ∧ wayN w n τ = wayN w n σ
  | 0, _, _, h, _ => ⟨h, rfl⟩
  | n + 1, τ, σ, h, hI => by
    unfold rollN wayN
    rw [← h.2 1 (by omega), ← SW_steep h hI (SW_it hI hw), ← SW_nxt h hI hw, ← SW_noA h]
    by_cases h0 : sSteep τ (qu τ w 1) = 0
    · rw [if_pos h0, if_pos h0, if_pos h0, if_pos h0]
      exact ⟨h, rfl⟩
    · rw [if_neg h0, if_neg h0, if_neg h0, if_neg h0]
      have ih := SW_roll hw n (SW_step h hI hw) (st_it hI hw)
      by_cases hA : noA τ (nxt τ w) = true
      · rw [if_pos hA, if_pos hA, if_pos hA, if_pos hA, ih.2]
        exact ⟨ih.1, rfl⟩
      · rw [if_neg hA, if_neg hA, if_neg hA, if_neg hA]
        exact ⟨SW_step h hI hw, rfl⟩
theorem SW_sr {w : Nat} (hw : w < 8) {τ σ : Nat → Nat} (h : SW w τ σ) (hI : IT τ) : SW w (sRoll w τ) (sRoll w σ) := by
  unfold sRoll
  rw [← SW_speed h hI hw]
  exact (SW_roll hw _ h hI).1
theorem SW_sw {w : Nat} (hw : w < 8) {τ σ : Nat → Nat} (h : SW w τ σ) (hI : IT τ) : sWay w τ = sWay w σ := by
  unfold sWay
  rw [← SW_speed h hI hw]
  exact (SW_roll hw _ h hI).2
theorem SW_other {w j : Nat} (h : w ≠ j) (τ : Nat → Nat) : SW w (sRoll j τ) τ := ⟨fun i _ b _ => sr_ne (by omega) τ, fun k hk => sr_ne (by omega) τ⟩
-- a minute
def minW : Nat → (Nat → Nat) → (Nat → Nat)
  | 0, τ => τ
  | k + 1, τ => sRoll k (minW k τ)
def movW : Nat → (Nat → Nat) → Nat
  | 0, _ => 0
  | k + 1, τ => movW k τ ||| sWay k (minW k τ)
def sMin (τ : Nat → Nat) : Nat → Nat := minW (τ 1) τ
def sMov (τ : Nat → Nat) : Nat := movW (τ 1) τ
theorem mi_it : ∀ (k : Nat) {τ : Nat → Nat}, k ≤ 8 → IT τ → IT (minW k τ)
  | 0, _, _, h => h
  | k + 1, _, hk, h => sr_it (by omega) (mi_it k (by omega) h)
theorem mi_lo : ∀ (k : Nat) (τ : Nat → Nat) {i : Nat}, (i < 85 ∨ 85 + 3 * k ≤ i) → minW k τ i = τ i
  | 0, _, _, _ => rfl
  | k + 1, τ, i, hi => by
    unfold minW
    rw [sr_ne (by omega), mi_lo k τ (by omega)]
theorem mi_sw {w : Nat} (hw : w < 8) : ∀ (k : Nat) {τ : Nat → Nat}, k ≤ 8 → IT τ → SW w (minW k τ) (if w < k then sRoll w τ else τ)
  | 0, τ, _, _ => by rw [if_neg (by omega)]; exact SW_refl w τ
  | k + 1, τ, hk, hI => by
    have ih := mi_sw hw k (τ := τ) (by omega) hI
    unfold minW
    by_cases e : w = k
    · subst e
      rw [if_neg (by omega)] at ih
      rw [if_pos (by omega)]
      exact SW_sr hw ih (mi_it w (by omega) hI)
    · refine SW_trans (SW_other e _) ?_
      by_cases h2 : w < k
      · rw [if_pos h2] at ih
        rw [if_pos (by omega)]
        exact ih
      · rw [if_neg h2] at ih
        rw [if_neg (by omega)]
        exact ih
theorem mi_mov : ∀ (k : Nat) {τ : Nat → Nat}, movW k τ = 0 → minW k τ = τ
  | 0, _, _ => rfl
  | k + 1, τ, h => by
    unfold movW at h
    have h1 := mi_mov k (Nat.or_eq_zero_iff.mp h).1
    have h2 := (Nat.or_eq_zero_iff.mp h).2
    unfold minW
    rw [h1] at h2 ⊢
    exact wy0 _ h2
theorem mv_lt : ∀ (k : Nat) {τ : Nat → Nat}, k ≤ 8 → IT τ → movW k τ < 2 ^ 16
  | 0, _, _, _ => by unfold movW; omega
  | k + 1, τ, hk, hI => Nat.or_lt_two_pow (mv_lt k (by omega) hI) (wy_lo (by omega) (mi_it k (by omega) hI))
theorem sm_it {τ : Nat → Nat} (h : IT τ) : IT (sMin τ) := mi_it _ h.1 h
theorem sm_lo (τ : Nat → Nat) {i : Nat} (hi : i < 85) : sMin τ i = τ i := mi_lo _ _ (Or.inl hi)
theorem sm_sw {w : Nat} {τ : Nat → Nat} (h : IT τ) (hw : w < τ 1) : SW w (sMin τ) (sRoll w τ) := by
  have := mi_sw (w := w) (Nat.lt_of_lt_of_le hw h.1) (τ 1) h.1 h
  rw [if_pos hw] at this
  exact this
def mins : Nat → (Nat → Nat) → (Nat → Nat)
  | 0, τ => τ
  | n + 1, τ => mins n (sMin τ)
def stillN : Nat → (Nat → Nat) → Nat
  | 0, _ => 0
  | n + 1, τ => if sMov τ = 0 then 0 else 1 + stillN n (sMin τ)
theorem ms_it : ∀ (n : Nat) {τ : Nat → Nat}, IT τ → IT (mins n τ)
  | 0, _, h => h
  | n + 1, _, h => ms_it n (sm_it h)
theorem ms_lo : ∀ (n : Nat) (τ : Nat → Nat) {i : Nat}, i < 85 → mins n τ i = τ i
  | 0, _, _, _ => rfl
  | n + 1, τ, i, hi => by
    unfold mins
    rw [ms_lo n _ hi, sm_lo τ hi]
theorem ms_fix : ∀ (n : Nat) {τ : Nat → Nat}, sMov τ = 0 → mins n τ = τ
  | 0, _, _ => rfl
  | n + 1, τ, h => by
    have e : sMin τ = τ := mi_mov _ h
    unfold mins
    rw [e]
    exact ms_fix n h
theorem ms_succ : ∀ (n : Nat) (τ : Nat → Nat), mins (n + 1) τ = sMin (mins n τ)
  | 0, _ => rfl
  | n + 1, τ => by
    show mins (n + 1) (sMin τ) = sMin (mins n (sMin τ))
    exact ms_succ n (sMin τ)
-- one whisper alone
def solo (w : Nat) : Nat → (Nat → Nat) → (Nat → Nat)
  | 0, τ => τ
  | n + 1, τ => solo w n (sRoll w τ)
def wayS (w : Nat) : Nat → (Nat → Nat) → Nat
  | 0, _ => 0
  | n + 1, τ => sWay w τ ||| wayS w n (sRoll w τ)
theorem so_it {w : Nat} (hw : w < 8) : ∀ (n : Nat) {τ : Nat → Nat}, IT τ → IT (solo w n τ)
  | 0, _, h => h
  | n + 1, _, h => so_it hw n (sr_it hw h)
theorem so_sw {w : Nat} (hw : w < 8) : ∀ (n : Nat) {τ σ : Nat → Nat}, SW w τ σ → IT τ → IT σ → w < τ 1 → SW w (mins n τ) (solo w n σ)
  | 0, _, _, h, _, _, _ => h
  | n + 1, τ, σ, h, hI, hJ, hk => by
    refine so_sw hw n (SW_trans (sm_sw hI hk) (SW_sr hw h hI)) (sm_it hI) (sr_it hw hJ) ?_
    rw [sm_lo τ (by omega)]
    exact hk
theorem so_fix {w : Nat} : ∀ (n : Nat) {τ : Nat → Nat}, sWay w τ = 0 → solo w n τ = τ ∧ wayS w n τ = 0
  | 0, _, _ => ⟨rfl, rfl⟩
  | n + 1, τ, h => by
    have e : sRoll w τ = τ := wy0 _ h
    unfold solo wayS
    rw [e, h]
    have ih := so_fix n h
    exact ⟨ih.1, by rw [ih.2]; rfl⟩
theorem ws_lt {w : Nat} (hw : w < 8) : ∀ (n : Nat) {τ : Nat → Nat}, IT τ → wayS w n τ < 2 ^ 16
  | 0, _, _ => by unfold wayS; omega
  | n + 1, τ, h => Nat.or_lt_two_pow (wy_lo hw h) (ws_lt hw n (sr_it hw h))
theorem ws_sw {w : Nat} (hw : w < 8) : ∀ (n : Nat) {τ σ : Nat → Nat}, SW w τ σ → IT τ → IT σ → wayS w n τ = wayS w n σ
  | 0, _, _, _, _, _ => rfl
  | n + 1, τ, σ, h, hI, hJ => by
    unfold wayS
    rw [SW_sw hw h hI, ws_sw hw n (SW_sr hw h hI) (sr_it hw hI) (sr_it hw hJ)]
