-- sand for least
def bN (s c : Nat) : Nat := s / 2 ^ c % 2
theorem bN_01 (s c : Nat) : bN s c = 0 ∨ bN s c = 1 := by unfold bN; omega
theorem bN_hi {s c : Nat} (hs : s < 256) (hc : 8 ≤ c) : bN s c = 0 := by
  unfold bN
  have : 2 ^ 8 ≤ 2 ^ c := Nat.pow_le_pow_right (by omega) hc
  rw [Nat.div_eq_of_lt (by omega)]
def cW (τ : Nat → Nat) (s c : Nat) : Nat := bN s c * tr τ c 3
def cost8 (τ : Nat → Nat) (s : Nat) : Nat := sumN (cW τ s) 8
theorem cW_le {τ : Nat → Nat} (hI : IT τ) (s : Nat) {c : Nat} (hc : c < 16) : cW τ s c ≤ 99 := by
  have := it_t hI hc
  unfold cW
  rcases bN_01 s c with e | e <;> rw [e] <;> omega
theorem cost_le {τ : Nat → Nat} (hI : IT τ) (s : Nat) : cost8 τ s ≤ 792 := by
  have := sum_le (f := cW τ s) (B := 99) (k := 8) (fun i hi => cW_le hI s (by omega))
  unfold cost8
  omega
theorem cost_16 {τ : Nat → Nat} {s : Nat} (hs : s < 256) : sumN (cW τ s) 16 = cost8 τ s := by
  have e : ∀ c, 8 ≤ c → cW τ s c = 0 := fun c hc => by unfold cW; rw [bN_hi hs hc, Nat.zero_mul]
  unfold cost8
  show sumN (cW τ s) 8 + cW τ s 8 + cW τ s 9 + cW τ s 10 + cW τ s 11 + cW τ s 12 + cW τ s 13 + cW τ s 14 + cW τ s 15 = _
  rw [e 8 (by omega), e 9 (by omega), e 10 (by omega), e 11 (by omega), e 12 (by omega), e 13 (by omega), e 14 (by omega), e 15 (by omega)]
  rfl
theorem isIn_b {s c : Nat} (hs : s < 256) (hc : c < 16) : f3_isIn (nI s) (nI c) = nI (bN s c) := by
  rw [isIn_eq (by omega) hc]
  unfold b01 bN
  rcases (show s / 2 ^ c % 2 = 0 ∨ s / 2 ^ c % 2 = 1 by omega) with e | e <;> rw [e] <;> rfl
theorem x_cost_L {x : St} {t s : Nat} {τ : Nat → Nat} (hX : TX x t τ) (hs : s < 256) : ∀ (d b F : Nat), d + 1 ≤ F → b + d = 16 → f2_costOf_L4 t F (nI s) (nI (sumN (cW τ s) b)) (nI b) x = some (nI (cost8 τ s))
  | d, b, 0, hF, hb => by omega
  | 0, b, F + 1, hF, hb => by
    have hb' : b = 16 := hb
    rw [f2_costOf_L4_s, nl16, i_le_t (by omega) (by omega), hb', cost_16 hs]
  | d + 1, b, F + 1, hF, hb => by
    have ih := x_cost_L hX hs d (b + 1) F (by omega) (by omega)
    have e1 : nI (sumN (cW τ s) (b + 1)) = nI (sumN (cW τ s) b + cW τ s b) := rfl
    rw [e1] at ih
    rw [f2_costOf_L4_s, nl16, i_le_f (by omega) (by omega), isIn_b hs (by omega)]
    unfold f2_costOf_b27
    rw [show nI b + 1 = nI (b + 1) by rw [nl1, nI_add]]
    unfold cW at ih ⊢
    rcases bN_01 s b with e | e
    · rw [e, if_pos (by decide : nI 0 = 0)]
      rw [e, Nat.zero_mul, Nat.add_zero] at ih
      exact ih
    · rw [e, if_neg (by decide : ¬ nI 1 = 0), bd (x_part3 hX (by omega)), nI_add]
      rw [e, Nat.one_mul] at ih
      exact ih
theorem x_cost {x : St} {t s : Nat} {τ : Nat → Nat} (hX : TX x t τ) (hs : s < 256) : f2_costOf t (nI s) x = some (nI (cost8 τ s)) := x_cost_L hX hs 16 0 fu (by rw [fu_eq]; omega) (by omega)
theorem m_cost_L {m : St} {s : Nat} {τ : Nat → Nat} (hM : TM (m 26) τ) (hs : s < 256) : ∀ (d b F : Nat), d + 1 ≤ F → b + d = 8 → f4_costOf_L4 F (nI s) (nI (sumN (cW τ s) b)) (nI b) m = some (nI (cost8 τ s))
  | d, b, 0, hF, hb => by omega
  | 0, b, F + 1, hF, hb => by
    have hb' : b = 8 := hb
    rw [f4_costOf_L4_s, nl8, i_le_t (by omega) (by omega), hb']
    rfl
  | d + 1, b, F + 1, hF, hb => by
    have ih := m_cost_L hM hs d (b + 1) F (by omega) (by omega)
    rw [f4_costOf_L4_s, nl8, i_le_f (by omega) (by omega), bd (m_part3 hM (by omega)), i_bit (by omega) (by omega), pk_mul, nI_add, nl1, nI_add]
    exact ih
theorem m_cost {m : St} {s : Nat} {τ : Nat → Nat} (hM : TM (m 26) τ) (hs : s < 256) : f4_costOf (nI s) m = some (nI (cost8 τ s)) := m_cost_L hM hs 8 0 fu (by rw [fu_eq]; omega) (by omega)
-- the sanded town
def sdN (s : Nat) : Nat → (Nat → Nat) → (Nat → Nat)
  | 0, τ => τ
  | k + 1, τ => if bN s k = 0 then sdN s k τ else upN (sdN s k τ) (5 + 5 * k + 2) 9
theorem sd_s (s k : Nat) (τ : Nat → Nat) : sdN s (k + 1) τ = if bN s k = 0 then sdN s k τ else upN (sdN s k τ) (5 + 5 * k + 2) 9 := rfl
theorem sd_it {s : Nat} {τ : Nat → Nat} (hI : IT τ) : ∀ k, k ≤ 16 → IT (sdN s k τ)
  | 0, _ => hI
  | k + 1, hk => by
    rw [sd_s]
    split
    · exact sd_it hI k (by omega)
    · exact IT_upt (sd_it hI k (by omega)) (by omega) (by omega) (by unfold mostT; simp)
theorem sd_16 {s : Nat} {τ : Nat → Nat} (hs : s < 256) : sdN s 16 τ = sdN s 8 τ := by
  have e : ∀ k, 8 ≤ k → sdN s (k + 1) τ = sdN s k τ := fun k hk => by rw [sd_s, if_pos (bN_hi hs hk)]
  rw [e 15 (by omega), e 14 (by omega), e 13 (by omega), e 12 (by omega), e 11 (by omega), e 10 (by omega), e 9 (by omega), e 8 (by omega)]
theorem x_sand_L {t s : Nat} {τ : Nat → Nat} (hs : s < 256) : ∀ (d b F : Nat) (x : St), d + 1 ≤ F → b + d = 16 → TX x t (sdN s b τ) → ∃ x', f2_sandAll_L2 t F (nI s) (nI b) x = some x' ∧ TX x' t (sdN s 8 τ) ∧ ∀ k, k ≠ 2 + 4 * t → x' k = x k
  | d, b, 0, x, hF, hb, hX => by omega
  | 0, b, F + 1, x, hF, hb, hX => by
    have hb' : b = 16 := hb
    rw [f2_sandAll_L2_s, nl16, i_le_t (by omega) (by omega)]
    rw [hb', sd_16 hs] at hX
    exact ⟨x, rfl, hX, fun _ _ => rfl⟩
  | d + 1, b, F + 1, x, hF, hb, hX => by
    rw [f2_sandAll_L2_s, nl16, i_le_f (by omega) (by omega), isIn_b hs (by omega)]
    unfold f2_sandAll_b24
    rw [show nI b + 1 = nI (b + 1) by rw [nl1, nI_add]]
    rcases bN_01 s b with e | e
    · rw [e, if_pos (by decide : nI 0 = 0)]
      exact x_sand_L hs d (b + 1) F x (by omega) (by omega) (by rw [sd_s, if_pos e]; exact hX)
    · rw [e, if_neg (by decide : ¬ nI 1 = 0), bd (x_setT2 (by omega)), nl9]
      obtain ⟨x', q1, q2, q3⟩ := x_sand_L hs d (b + 1) F (up x (2 + 4 * t) (5 * b + 2) (nI 9)) (by omega) (by omega) (by rw [sd_s, if_neg (by omega)]; exact TX_upt hX 9 (by omega) (by omega))
      exact ⟨x', q1, q2, fun k hk => (q3 k hk).trans (up_cell _ _ _ hk)⟩
theorem x_sand {x : St} {t s : Nat} {τ : Nat → Nat} (hs : s < 256) (hX : TX x t τ) : ∃ x', f2_sandAll t (nI s) x = some x' ∧ TX x' t (sdN s 8 τ) ∧ ∀ k, k ≠ 2 + 4 * t → x' k = x k := x_sand_L hs 16 0 fu x (by rw [fu_eq]; omega) (by omega) hX
-- the model's trial with sand
theorem m_part2R {m : St} {c : Nat} (hc : c < 16) : f4_part (nI c) (2 : Int32) m = some (m 26 (5 + 5 * c + 2)) := by
  unfold f4_part
  simp (disch := omega) only [nl0, nl1, nl2, nl3, nl4, nl5, nl6, nl7, nl8, nl9, nl10, nl15, nl16, nl24, nl50, nl80, nl85, nl100, nl101, nl109, nl999, nl99999, c_ix, i_le_t, i_le_f, i_lt_t, i_lt_f, i_eq_t, i_eq_f, nI_clamp, pk_mul, nI_add, Option.bind_some, if_true, if_false]
def SD (k : Nat) (m0 m : St) : Prop := (∀ i, i < 119 → (∀ c, c < k → i ≠ 5 + 5 * c + 2) → m 26 i = m0 26 i) ∧ (∀ c, c < k → m 30 c = m0 26 (5 + 5 * c + 2)) ∧ (∀ a, a ≠ 25 → a ≠ 26 → a ≠ 28 → a ≠ 30 → m a = m0 a) ∧ ∀ i, i ≠ 5 → i ≠ 6 → m 25 i = m0 25 i
def SE (k : Nat) (m0 m : St) : Prop := (∀ i, i < 119 → (∀ c, k ≤ c → c < 8 → i ≠ 5 + 5 * c + 2) → m 26 i = m0 26 i) ∧ (∀ c, c < 8 → m 30 c = m0 26 (5 + 5 * c + 2)) ∧ (∀ a, a ≠ 25 → a ≠ 26 → a ≠ 28 → a ≠ 30 → m a = m0 a) ∧ ∀ i, i ≠ 5 → i ≠ 6 → m 25 i = m0 25 i
theorem m_back_L {m0 : St} (v : Int32) : ∀ (d k F : Nat) (m : St), d + 1 ≤ F → k + d = 8 → SE k m0 m → ∃ m', f4_loudWith_L72 F v (nI k) m = some (v, m') ∧ SE 8 m0 m'
  | d, k, 0, m, hF, hk, hm => by omega
  | 0, k, F + 1, m, hF, hk, hm => by
    have hk' : k = 8 := hk
    rw [f4_loudWith_L72_s, nl8, i_le_t (by omega) (by omega)]
    rw [hk'] at hm
    exact ⟨m, rfl, hm⟩
  | d + 1, k, F + 1, m, hF, hk, hm => by
    obtain ⟨a, b, c, e⟩ := hm
    rw [f4_loudWith_L72_s, nl8, i_le_f (by omega) (by omega), if_neg (nI_in (by omega) (by omega)), nI_clamp (by omega), bd (m_builds2 (by omega)), nl1, nI_add]
    refine m_back_L v d (k + 1) F _ (by omega) (by omega) ⟨fun i hi h => ?_, fun j hj => ?_, fun j h1 h2 h3 h4 => ?_, fun i h1 h2 => ?_⟩
    · by_cases g : i = 5 + 5 * k + 2
      · rw [g, up_eq, b k (by omega)]
      · rw [up_ne2 _ _ g]
        refine a i hi (fun j h1 h2 => ?_)
        by_cases g2 : j = k
        · rw [g2]; exact g
        · exact h j (by omega) h2
    · rw [up_cell _ _ _ (by decide)]; exact b j hj
    · rw [up_cell _ _ _ h2]; exact c j h1 h2 h3 h4
    · rw [up_cell _ _ _ (by decide)]; exact e i h1 h2
theorem m_sand_L {m0 : St} {s c n : Nat} {τ : Nat → Nat} (hs : s < 256) (hc : c < 16) (hn : n ≤ 40) (hI : IT τ) : ∀ (d k F : Nat) (m : St), d + 1 ≤ F → k + d = 8 → SD k m0 m → TM (m 26) (sdN s k τ) → ∃ m', f4_loudWith_L9 F (nI s) (nI c) (nI n) (nI k) m = some (nI (sLoud (mins n (sdN s 8 τ)) c), m') ∧ SE 8 m0 m'
  | d, k, 0, m, hF, hk, hm, hM => by omega
  | 0, k, F + 1, m, hF, hk, hm, hM => by
    have hk' : k = 8 := hk
    rw [hk'] at hM hm
    obtain ⟨m1, p1, p2⟩ := m_loudBy (c := c) (n := n) hM (sd_it hI 8 (by omega)) hc (by omega)
    obtain ⟨a, b, g, e⟩ := hm
    rw [f4_loudWith_L9_s, nl8, i_le_t (by omega) (by omega), bd p1]
    refine m_back_L _ 8 0 fu m1 (by rw [fu_eq]; omega) (by omega) ⟨fun i hi h => ?_, fun j hj => ?_, fun j h1 h2 h3 h4 => ?_, fun i h1 h2 => ?_⟩
    · rw [p2.1 i hi]; exact a i hi (fun j hj => h j (by omega) hj)
    · rw [p2.2.1 30 (by omega) (by omega) (by omega)]; exact b j hj
    · rw [p2.2.1 j h1 h2 h3]; exact g j h1 h2 h3 h4
    · rw [p2.2.2 i h1 h2]; exact e i h1 h2
  | d + 1, k, F + 1, m, hF, hk, hm, hM => by
    obtain ⟨a, b, g, e⟩ := hm
    have hv : m 26 (5 + 5 * k + 2) = m0 26 (5 + 5 * k + 2) := a _ (by omega) (fun j hj => by omega)
    have hb := i_bit (s := s) (c := k) (by omega) (by omega)
    have hsd : ∀ w : Int32, SD (k + 1) m0 (up (up m 30 k (m 26 (5 + 5 * k + 2))) 26 (5 + 5 * k + 2) w) := by
      intro w
      refine ⟨fun i hi h => ?_, fun j hj => ?_, fun j h1 h2 h3 h4 => ?_, fun i h1 h2 => ?_⟩
      · rw [up_ne2 _ _ (h k (by omega)), up_cell _ _ _ (by decide)]
        exact a i hi (fun j hj => h j (by omega))
      · rw [up_cell _ _ _ (by decide)]
        by_cases z : j = k
        · rw [z, up_eq, hv]
        · rw [up_ne2 _ _ z]; exact b j (by omega)
      · rw [up_cell _ _ _ h2, up_cell _ _ _ h4]; exact g j h1 h2 h3 h4
      · rw [up_cell _ _ _ (by decide), up_cell _ _ _ (by decide)]; exact e i h1 h2
    rw [f4_loudWith_L9_s, nl8, i_le_f (by omega) (by omega), bd (m_part2R (by omega)), if_neg (nI_in (by omega) (by omega)), if_neg (nI_in (by omega) (by omega)), nI_clamp (by omega), hb]
    unfold f4_loudWith_b52
    rw [show nI k + 1 = nI (k + 1) by rw [nl1, nI_add], up_eq]
    have hM1 : TM (up m 30 k (m 26 (5 + 5 * k + 2)) 26) (sdN s k τ) := by rw [up_cell _ _ _ (by decide)]; exact hM
    rcases bN_01 s k with z | z
    · have z' : s / 2 ^ k % 2 = 0 := z
      rw [z', if_neg (by decide : ¬ nI 0 = 1), bd (m_builds2 (by omega))]
      refine m_sand_L hs hc hn hI d (k + 1) F _ (by omega) (by omega) (hsd _) ?_
      rw [sd_s, if_pos z]
      intro i h1 h2 h3
      by_cases y : i = 5 + 5 * k + 2
      · rw [y, up_eq, ← y]; exact hM i h1 h2 h3
      · rw [up_ne2 _ _ y]; exact hM1 i h1 h2 h3
    · have z' : s / 2 ^ k % 2 = 1 := z
      rw [z', if_pos (by decide : nI 1 = 1), bd (m_builds2 (by omega))]
      refine m_sand_L hs hc hn hI d (k + 1) F _ (by omega) (by omega) (hsd _) ?_
      rw [sd_s, if_neg (by omega)]
      exact TM_up hM1 _ 9
theorem m_sand {m : St} {s c n : Nat} {τ : Nat → Nat} (hM : TM (m 26) τ) (hs : s < 256) (hc : c < 16) (hn : n ≤ 40) (hI : IT τ) : ∃ m', f4_loudWith (nI s) (nI c) (nI n) m = some (nI (sLoud (mins n (sdN s 8 τ)) c), m') ∧ VI m m' ∧ ∀ i, i ≠ 5 → i ≠ 6 → m' 25 i = m 25 i := by
  obtain ⟨m', q1, a, b, c', e⟩ := m_sand_L (m0 := m) (c := c) (n := n) hs hc hn hI 8 0 fu m (by rw [fu_eq]; omega) (by omega) ⟨fun _ _ _ => rfl, fun j hj => by omega, fun _ _ _ _ _ => rfl, fun _ _ _ => rfl⟩ hM
  exact ⟨m', q1, ⟨⟨fun k h1 h2 h3 h4 _ => c' k h1 h2 h3 h4, e 3 (by omega) (by omega), e 15 (by omega) (by omega)⟩, fun i hi => a i hi (fun j h1 h2 => by omega)⟩, e⟩
-- the cheapest
def SB (τ : Nat → Nat) (bx lx : Int32) (m : St) : Prop := (bx = -1 ∧ lx = nI 1000000 ∧ m 25 9 = -1) ∨ ∃ s, s < 256 ∧ bx = nI s ∧ lx = nI (cost8 τ s) ∧ m 25 9 = nI s ∧ m 25 10 = nI (cost8 τ s)
theorem sand_L {x0 m0 : St} {c v n : Nat} {τ : Nat → Nat} (hX0 : TX x0 0 τ) (hM0 : TM (m0 26) τ) (hI : IT τ) (hc : c < 16) (hv : v < 10000) (hn : n ≤ 40) : ∀ (d s F : Nat) (x m : St) (bx lx : Int32), d + 1 ≤ F → s + d = 256 → SB τ bx lx m → XI x0 x → VI m0 m → ∃ bx' lx' x' m', f3_cheapestSand_L10 F (nI c) (nI v) (nI n) bx lx (nI s) x = some (bx', x') ∧ f4_findSand_L8 F (nI c) (nI v) (nI n) (nI s) m = some m' ∧ SB τ bx' lx' m' ∧ XI x0 x' ∧ VI m0 m'
  | d, s, 0, x, m, bx, lx, hF, hs, hb, hx, hm => by omega
  | 0, s, F + 1, x, m, bx, lx, hF, hs, hb, hx, hm => by
    rw [f3_cheapestSand_L10_s, f4_findSand_L8_s, show (256 : Int32) = nI 256 from rfl, i_le_t (by omega) (by omega), i_le_t (by omega) (by omega)]
    exact ⟨bx, lx, x, m, rfl, rfl, hb, hx, hm⟩
  | d + 1, s, F + 1, x, m, bx, lx, hF, hs, hb, hx, hm => by
    have hs2 : s < 256 := by omega
    have hX : TX x 0 τ := TX_fr hX0 (hx _ (by omega)) (hx _ (by omega)) (hx _ (by omega))
    have hM := VI_tm hm hM0
    have hcl := cost_le hI s
    have hJ := sd_it (s := s) hI 8 (by omega)
    obtain ⟨x1, q1, q2, q3⟩ := x_lends hX
    obtain ⟨x2, r1, r2, r3⟩ := x_sand hs2 q2
    obtain ⟨x3, t1, t2, _, t4, _⟩ := x_pass (n := n) (by omega) r2 hJ
    have hx3 : XI x0 x3 := XI_trans (XI_trans (XI_trans hx q3) (fun a ha => r3 a (by omega))) (XI_pass t4)
    obtain ⟨m1, u1, u2, u3⟩ := m_sand (c := c) (n := n) hM hs2 hc hn hI
    have hm1 := VI_trans hm u2
    have hl := sl_le (ms_it n hJ) c
    have hSB1 : SB τ bx lx m1 := by
      unfold SB
      rw [u3 9 (by omega) (by omega), u3 10 (by omega) (by omega)]
      exact hb
    have hM2 : TM (up m1 25 9 (nI s) 26) τ := by rw [up_cell _ _ _ (by decide)]; exact VI_tm hm1 hM0
    rw [f3_cheapestSand_L10_s, f4_findSand_L8_s, show (256 : Int32) = nI 256 from rfl, i_le_f (by omega) (by omega), i_le_f (by omega) (by omega), bd (x_cost hX hs2), bd (m_cost hM hs2), bd q1, bd r1, bd t1]
    have try' : ∃ bx' lx' x' m', (f2_loudAt 2 (nI c) x3).bind (fun v6 => if nI v < v6 then f3_cheapestSand_b88 (f3_cheapestSand_L10 F) (nI c) (nI v) (nI n) bx lx (nI s) x3 else f3_cheapestSand_b88 (f3_cheapestSand_L10 F) (nI c) (nI v) (nI n) (nI s) (nI (cost8 τ s)) (nI s) x3) = some (bx', x') ∧ f4_findSand_b36 (f4_findSand_L8 F) (nI c) (nI v) (nI n) (nI s) m = some m' ∧ SB τ bx' lx' m' ∧ XI x0 x' ∧ VI m0 m' := by
      unfold f4_findSand_b36
      rw [bd (x_loud t2 (ms_it n hJ) hc), bd u1]
      unfold f3_cheapestSand_b88 f4_findSand_b64
      rw [show nI s + 1 = nI (s + 1) by rw [nl1, nI_add]]
      show ∃ bx' lx' x' m', _ ∧ (if nI v < nI (sLoud (mins n (sdN s 8 τ)) c) then f4_findSand_L8 F (nI c) (nI v) (nI n) (nI (s + 1)) m1 else (f4_costOf (nI s) (up m1 25 9 (nI s))).bind fun v4 => f4_findSand_L8 F (nI c) (nI v) (nI n) (nI (s + 1)) (up (up m1 25 9 (nI s)) 25 10 v4)) = some m' ∧ _
      by_cases e : v < sLoud (mins n (sdN s 8 τ)) c
      · rw [i_lt_t e (by omega), i_lt_t e (by omega)]
        exact sand_L hX0 hM0 hI hc hv hn d (s + 1) F x3 m1 bx lx (by omega) (by omega) hSB1 hx3 hm1
      · rw [i_lt_f (by omega) (by omega), i_lt_f (by omega) (by omega), bd (m_cost hM2 hs2)]
        refine sand_L hX0 hM0 hI hc hv hn d (s + 1) F x3 _ _ _ (by omega) (by omega) (Or.inr ⟨s, hs2, rfl, rfl, ?_, up_eq _ _ _ _⟩) hx3 (VI_trans hm1 (VI_trans (VI_25 (by omega)) (VI_25 (by omega))))
        rw [up_ne2 _ _ (by decide), up_eq]
    rcases hb with ⟨e1, e2, e3⟩ | ⟨j, hj, e1, e2, e3, e4⟩
    · rw [e3, if_pos (by decide : (-1 : Int32) < 0), e2, i_lt_t (by omega) (by omega)]
      rw [e2] at try'
      exact try'
    · have hcj := cost_le hI j
      rw [e3, if_neg (show ¬ nI j < 0 by rw [nl0]; exact nI_nlt (by omega) (by omega)), e4, e2]
      by_cases g : cost8 τ s < cost8 τ j
      · rw [i_lt_t g (by omega), i_le_f g (by omega)]
        rw [e2] at try'
        exact try'
      · rw [i_lt_f (by omega) (by omega), i_le_t (by omega) (by omega)]
        unfold f3_cheapestSand_b88 f4_findSand_b64
        rw [show nI s + 1 = nI (s + 1) by rw [nl1, nI_add]]
        exact sand_L hX0 hM0 hI hc hv hn d (s + 1) F x m _ _ (by omega) (by omega) (Or.inr ⟨j, hj, e1, rfl, e3, e4⟩) hx hm
theorem sand_all {x m : St} {c v n : Nat} {τ : Nat → Nat} (hX : TX x 0 τ) (hM : TM (m 26) τ) (hI : IT τ) (hc : c < 16) (hv : v < 10000) (hn : n ≤ 40) : ∃ bx' lx' x' m', f3_cheapestSand (nI c) (nI v) (nI n) x = some (bx', x') ∧ f4_findSand (nI c) (nI v) (nI n) m = some m' ∧ SB τ bx' lx' m' ∧ XI x x' ∧ VI m m' :=
  sand_L hX hM hI hc hv hn 256 0 fu x _ _ _ (by rw [fu_eq]; omega) (by omega) (Or.inl ⟨rfl, by decide, up_eq _ _ _ _⟩) (XI_refl x) (VI_25 (by omega))
theorem m_quiet (a b n : Int32) : f4_isQuiet a b n = b01 (wi a 0 (nI 15) && wi b 0 (nI 9999) && wi n 0 (nI 40)) := by
  have em : f4_in b.toInt64 0 9999 = b01 (wi b 0 (nI 9999)) := m_in b 0 9999
  unfold f4_isQuiet
  rw [m_isCorner, em, m_isShort, b01_0, b01_0, b01_0]
  cases wi a 0 (nI 15) <;> cases wi b 0 (nI 9999) <;> cases wi n 0 (nI 40) <;> rfl
theorem R_sand {x m : St} (h : REL x m) (a b n : Int32) : EQ (f3_sand a b n x) (f4_sand a b n m) := by
  have hh := h
  obtain ⟨⟨τ, hI, hM, hX, ⟨h9, h0, h6⟩, hz, hs⟩, hR⟩ := h
  unfold f3_sand f4_sand f3_sand_b28
  have ex : f3_isWithin n 0 40 = b01 (wi n 0 (nI 40)) := x_within n 0 40
  have ey : f3_isWithin b 0 9999 = b01 (wi b 0 (nI 9999)) := x_within b 0 9999
  rw [x_isCorner, ex, ey, m_quiet]
  rcases cls0 a 15 (by omega) with e | ⟨c, hc, e⟩
  · simp only [e, b01_f, n00, if_true, Bool.false_and]
    exact EQf0 hh (fun _ _ => rfl) (fun _ _ => rfl)
  · subst e
    simp only [wi_t hc (by omega), b01_t, n10, if_false, Bool.true_and]
    rcases cls0 b 9999 (by omega) with e | ⟨v, hv, e⟩
    · simp only [e, b01_f, n00, if_true, Bool.false_and]
      exact EQf0 hh (fun _ _ => rfl) (fun _ _ => rfl)
    · subst e
      simp only [wi_t hv (by omega), b01_t, n10, if_false, Bool.true_and]
      rcases cls0 n 40 (by omega) with e | ⟨k, hk, e⟩
      · simp only [e, b01_f, n00, if_true]
        exact EQf0 hh (fun _ _ => rfl) (fun _ _ => rfl)
      · subst e
        simp only [wi_t hk (by omega), b01_t, n10, if_false]
        obtain ⟨bx, lx, x', m', q1, q2, q3, q4, q5⟩ := sand_all hX hM hI (by omega : c < 16) (by omega : v < 10000) hk
        have hr := REL_vi hh q4 q5
        have hX' : TX x' 0 τ := TX_fr hX (q4 _ (by omega)) (q4 _ (by omega)) (q4 _ (by omega))
        rw [bd q1, bd q2]
        rcases q3 with ⟨e1, _, e2⟩ | ⟨s, hs, e1, _, e2, e3⟩
        · rw [e1, e2, if_neg (by decide : ¬ (0 : Int32) ≤ -1), if_neg (by decide : ¬ (0 : Int32) ≤ -1)]
          exact EQf3 hr (fun _ _ => rfl) (fun _ _ => rfl)
        · have e0 : (0 : Int32) ≤ nI s := by rw [nl0]; exact nI_le (by omega) (by omega)
          rw [e1, e2, if_pos e0, if_pos e0]
          exact EQs hr _
theorem R_costs {x m : St} (h : REL x m) (a b n : Int32) : EQ (f3_costs a b n x) (f4_costs a b n m) := by
  have hh := h
  obtain ⟨⟨τ, hI, hM, hX, ⟨h9, h0, h6⟩, hz, hs⟩, hR⟩ := h
  unfold f3_costs f4_costs f3_costs_b28
  have ex : f3_isWithin n 0 40 = b01 (wi n 0 (nI 40)) := x_within n 0 40
  have ey : f3_isWithin b 0 9999 = b01 (wi b 0 (nI 9999)) := x_within b 0 9999
  rw [x_isCorner, ex, ey, m_quiet]
  rcases cls0 a 15 (by omega) with e | ⟨c, hc, e⟩
  · simp only [e, b01_f, n00, if_true, Bool.false_and]
    exact EQf0 hh (fun _ _ => rfl) (fun _ _ => rfl)
  · subst e
    simp only [wi_t hc (by omega), b01_t, n10, if_false, Bool.true_and]
    rcases cls0 b 9999 (by omega) with e | ⟨v, hv, e⟩
    · simp only [e, b01_f, n00, if_true, Bool.false_and]
      exact EQf0 hh (fun _ _ => rfl) (fun _ _ => rfl)
    · subst e
      simp only [wi_t hv (by omega), b01_t, n10, if_false, Bool.true_and]
      rcases cls0 n 40 (by omega) with e | ⟨k, hk, e⟩
      · simp only [e, b01_f, n00, if_true]
        exact EQf0 hh (fun _ _ => rfl) (fun _ _ => rfl)
      · subst e
        simp only [wi_t hk (by omega), b01_t, n10, if_false]
        obtain ⟨bx, lx, x', m', q1, q2, q3, q4, q5⟩ := sand_all hX hM hI (by omega : c < 16) (by omega : v < 10000) hk
        have hr := REL_vi hh q4 q5
        have hX' : TX x' 0 τ := TX_fr hX (q4 _ (by omega)) (q4 _ (by omega)) (q4 _ (by omega))
        rw [bd q1, bd q2]
        rcases q3 with ⟨e1, _, e2⟩ | ⟨s, hs, e1, _, e2, e3⟩
        · rw [e1, e2, if_neg (by decide : ¬ (0 : Int32) ≤ -1), if_neg (by decide : ¬ (0 : Int32) ≤ -1)]
          exact EQf3 hr (fun _ _ => rfl) (fun _ _ => rfl)
        · have e0 : (0 : Int32) ≤ nI s := by rw [nl0]; exact nI_le (by omega) (by omega)
          rw [e1, e2, if_pos e0, if_pos e0]
          rw [bd (x_cost hX' hs), e3]
          exact EQs hr _
