-- item by item
theorem m_itemW {m : St} (h : m 25 18 = 1) : ∃ m', f4_item m = some m' ∧ FM m m' ∧ m' 25 = up m 25 18 1 25 := by
  have kh : f4_kindHere m = some (-1) := by
    unfold f4_kindHere f4_kindHere_b43 f4_kindHere_b87
    rw [m_wordW 0 h, m_wordW 1 h, m_wordW 2 h, m_wordW 3 h, m_wordW 4 h, m_wordW 5 h, m_wordW 6 h]
    rfl
  unfold f4_item
  rw [bd kh, if_pos (by decide : (-1 : Int32) < 0), bd (m_takesW 9 h)]
  show ∃ m', ((f4_takes 14 m).bind _) = some m' ∧ _
  rw [bd (m_takesW 14 h)]
  show ∃ m', ((f4_takes 15 m).bind _) = some m' ∧ _
  rw [bd (m_takesW 15 h)]
  show ∃ m', ((f4_isWord 16 m).bind _) = some m' ∧ _
  rw [bd (m_wordW 16 h), bd (m_must0 0 (Or.inr h)), if_neg g119_2]
  exact ⟨_, rfl, FM_trans FM_wr FM_26, up_cell _ _ _ (by decide)⟩
theorem P_items {β : Nat → Nat} {n : Nat} : ∀ (d b F G : Nat) (x m : St) (τ : Nat → Nat) (q r : Nat), d + 1 ≤ F → d + 2 ≤ G → n - q < d → PS β n x m τ q r → 1 ≤ b → 2 * (b - 1) ≤ q → ∃ rv x' bv m', f1_readItems_L11 2 F (nI b) x = some (rv, x') ∧ ((f4_item m).bind fun z => f4_text_L24 G (nI b) z) = f4_text_b63 bv m' ∧ FX x x' ∧ FM m m' ∧ ((∃ c τ', 1 ≤ c ∧ c < 1000 ∧ rv = nI c ∧ bv = nI c ∧ m' 25 18 = 0 ∧ TW x' 2 (m' 26) τ') ∨ ∃ q', q' ≤ n ∧ rv = -1 - nI q' ∧ m' 25 16 = nI q' ∧ m' 25 18 = 1)
  | d, b, 0, G, x, m, τ, q, r, hF, hG, hd, h, hb, hq => by omega
  | d, b, F + 1, 0, x, m, τ, q, r, hF, hG, hd, h, hb, hq => by omega
  | 0, b, F + 1, G + 1, x, m, τ, q, r, hF, hG, hd, h, hb, hq => by omega
  | d + 1, b, F + 1, G + 1, x, m, τ, q, r, hF, hG, hd, h, hb, hq => by
    have hn := h.2.1.1.2.1
    have hqn : q ≤ n := Nat.le_trans h.2.2.2.1 h.2.2.2.2.1
    obtain ⟨v, x1, m1, a1, a2, a3, hF1, hG1⟩ := P_item h
    rw [f1_readItems_L11_s, show (120 : Int32) = nI 120 from rfl, i_lt_f (by omega) (by omega), bd a1, bd a2, f4_text_L24_s]
    show ∃ rv x' bv m', (if v = 0 then f1_readItems_b58 2 x1 else if (x1 13 2) = 0 then some (nI b, x1) else if (x1 13 2) = (3 : Int32) then (f1_step x1).bind fun z4 => f1_readItems_L11 2 F (nI b + 1) z4 else f1_readItems_b58 2 x1) = some (rv, x') ∧ _
    unfold f1_readItems_b58
    rcases a3 with ⟨g, τ1, q1, r1, hP, hp⟩ | ⟨g, q1, c1, c2, c3, c4⟩
    · rw [g, if_neg (by decide : ¬ (1 : Int32) = 0)]
      obtain ⟨hT1, hX1, hM1, hE1⟩ := hP
      have hl := sr_le β n q1
      have hq1n : q1 ≤ n := Nat.le_trans hE1.1 hE1.2.1
      rw [hX1.2.1, if_pos hM1.2.2.2, hM1.1.1, hM1.2.1]
      by_cases e0 : sr β n q1 = 0
      · have hnq := sr0.mp e0
        rw [e0, if_pos (by decide : nI 0 = 0), i_le_t hnq (by omega)]
        exact ⟨_, x1, _, m1, rfl, rfl, hF1, hG1, Or.inl ⟨b, τ1, hb, by omega, rfl, rfl, hM1.2.2.2, hT1⟩⟩
      · have hnq : q1 < n := Nat.lt_of_not_le (fun z => e0 (sr0.mpr z))
        rw [if_neg (show ¬ nI (sr β n q1) = 0 from fun z => e0 (n_inj (by omega) (by omega) z)), i_le_f hnq (by omega), bd (m_sign hM1.1 hE1 hM1.2.1 hM1.2.2.1 hM1.2.2.2)]
        by_cases e3 : sr β n q1 = 3
        · obtain ⟨q2, r2, x2, s1, s2, s3, s4, s5, s6⟩ := x_stepP hX1 hE1
          obtain ⟨m2, t1, t2⟩ := m_must_ok hM1.1 s2 s3 hM1.2.2.1 hM1.2.2.2
          have hM2 := PM_nw hM1.1 t2
          have hT2 : TW x2 2 (m2 26) τ1 := TW_13 hT1 s5 (t2.2.2.2.2 26 (by decide))
          have hr1 := hE1.2.2.2.1 (by omega)
          have hq2 := s2.1
          rw [e3, if_pos (by decide : nI 3 = 3), bd s1, nl1, nI_add]
          show ∃ rv x' bv m', _ ∧ ((f4_must 1 m1).bind fun z5 => (f4_item z5).bind fun z6 => f4_text_L24 G (nI (b + 1)) z6) = f4_text_b63 bv m' ∧ _
          rw [bd t1]
          obtain ⟨rv, x', bv, m', u1, u2, u3, u4, u5⟩ := P_items d (b + 1) F G x2 m2 τ1 q2 r2 (by omega) (by omega) (by omega) ⟨hT2, s4, hM2, s3⟩ (by omega) (by omega)
          exact ⟨rv, x', bv, m', u1, u2, FX_trans hF1 (FX_trans (FX_13 s5 s6) u3), FM_trans hG1 (FM_trans (FM_nw t2) u4), u5⟩
        · rw [if_neg (show ¬ nI (sr β n q1) = 3 from fun z => e3 (n_inj (by omega) (by omega) z)), hX1.2.2.1, show decide (sr β n q1 = 3) = false by simp [e3]]
          rw [b01_f, bd (m_must0 0 (Or.inl ⟨hM1.2.2.2, rfl⟩))]
          obtain ⟨m3, w1, w2, w3⟩ := m_itemW (m := up m1 25 18 1) (up_eq _ _ _ _)
          obtain ⟨G', hG'⟩ : ∃ G', G = G' + 1 := ⟨G - 1, by omega⟩
          have w18 : m3 25 18 = 1 := by rw [w3, up_eq]
          have w16 : m3 25 16 = nI q1 := by rw [w3, up_ne2 _ _ (by decide), up_ne2 _ _ (by decide)]; exact hM1.2.1
          rw [bd w1, hG', f4_text_L24_s, w18, if_neg (by decide : ¬ (1 : Int32) = 0)]
          exact ⟨_, x1, _, m3, rfl, rfl, hF1, FM_trans hG1 (FM_trans FM_wr w2), Or.inr ⟨q1, hq1n, rfl, w16, w18⟩⟩
    · rw [g, if_pos rfl, c4, if_neg (by decide : ¬ (1 : Int32) = 0), c2]
      exact ⟨_, x1, _, m1, rfl, rfl, hF1, hG1, Or.inr ⟨q1, c1, rfl, c3, c4⟩⟩
theorem neg_q {q : Nat} (hq : q ≤ 120) : (-1 - nI q : Int32) < 0 := by
  have : ∀ q, q < 121 → (-1 - nI q : Int32) < 0 := by decide
  exact this q (by omega)
theorem R_text {x m : St} (h : REL x m) : EQ (f3_text x) (f4_text m) := by
  have hh := h
  obtain ⟨⟨τ, hW⟩, hR⟩ := h
  have hR' := hR
  obtain ⟨_, _, ⟨n, t1, t2, t3, t4⟩, _⟩ := hR
  obtain ⟨x1, q1, b1, b2, b3, b4, b5⟩ := x_become (t := 2) (u := 0) x (by omega)
  obtain ⟨m1, p1, p2, p3, p4⟩ := m_lends m
  have hW1 : TW x1 2 (m1 26) τ := TW_bec hW b1 b2 b3 b4 (fun i _ => by rw [p3])
  have e13 : x1 13 = x 13 := b5 13 (by omega) (by omega) (by omega) (by omega)
  have e14 : x1 14 = x 14 := b5 14 (by omega) (by omega) (by omega) (by omega)
  have e31 : m1 31 = m 31 := p2.2.1 31 (by omega) (by omega) (by omega)
  have hb : ∀ i, i < 120 → (m 31 i).toNatClampNeg < 256 ∧ x 14 i = nI (m 31 i).toNatClampNeg ∧ m 31 i = nI (m 31 i).toNatClampNeg := by
    intro i hi
    obtain ⟨b, c1, c2, c3⟩ := t4 i hi
    rw [c3, nI_clamp (by omega), c2]
    exact ⟨c1, rfl, rfl⟩
  have hBX : BX (fun i => (m 31 i).toNatClampNeg) n (up x1 13 4 0) := ⟨by rw [up_ne2 _ _ (by decide), e13]; exact t2, t1, fun i hi => ⟨(hb i hi).1, by rw [up_cell _ _ _ (by decide), e14]; exact (hb i hi).2.1⟩⟩
  have hBM : BM (fun i => (m 31 i).toNatClampNeg) n (up (up m1 25 18 0) 25 17 0) := ⟨by rw [up_ne2 _ _ (by decide), up_ne2 _ _ (by decide), p4]; exact t3, t1, fun i hi => ⟨(hb i hi).1, by rw [up_cell _ _ _ (by decide), up_cell _ _ _ (by decide), e31]; exact (hb i hi).2.2⟩⟩
  generalize (fun i => (m 31 i).toNatClampNeg) = β at hBX hBM
  obtain ⟨q, r, x2, c1, c2, c3, s1, s2, s3, s4, s5, s6⟩ := x_step hBX (Nat.zero_le n) (up_eq _ _ _ _)
  obtain ⟨m2, d1, d2⟩ := m_next hBM c2 c3 (up_eq _ _ _ _)
  have hX2 : PX β n x2 q r := ⟨BX_fr hBX s5 (s6 14 (by decide)), s1, s2, s3, s4⟩
  have hM2 : PM β n m2 q r := ⟨BM_fr hBM (d2.2.2.1 15 (by decide) (by decide)) (d2.2.2.2 31 (by decide)), d2.1, d2.2.1, by rw [d2.2.2.1 18 (by decide) (by decide), up_ne2 _ _ (by decide), up_eq]⟩
  have hT2 : TW x2 2 (m2 26) τ := by
    refine TW_fr hW1 ?_ ?_ ?_ ?_ (fun i _ => ?_)
    · rw [s6 _ (by decide), up_cell _ _ _ (by decide)]
    · rw [s6 _ (by decide), up_cell _ _ _ (by decide)]
    · rw [s6 _ (by decide), up_cell _ _ _ (by decide)]
    · rw [s6 _ (by decide), up_cell _ _ _ (by decide)]
    · rw [d2.2.2.2 26 (by decide), up_cell _ _ _ (by decide), up_cell _ _ _ (by decide)]
  have hn := t1
  obtain ⟨rv, x3, bv, m3, u1, u2, u3, u4, u5⟩ := P_items (n + 1) 1 fu fu x2 m2 τ q r (by rw [fu_eq]; omega) (by rw [fu_eq]; omega) (by omega) ⟨hT2, hX2, hM2, c3⟩ (by omega) (by omega)
  have u1' : f1_readItems_L11 2 fu (1 : Int32) x2 = some (rv, x3) := u1
  have u2' : ((f4_item m2).bind fun z => f4_text_L24 fu (1 : Int32) z) = f4_text_b63 bv m3 := u2
  have hri : f1_readItems 2 x1 = some (rv, x3) := by
    unfold f1_readItems
    rw [bd c1]
    exact u1'
  have hmt : f4_text m = f4_text_b63 bv m3 := by
    unfold f4_text
    rw [bd p1, bd d1]
    exact u2'
  have fx : ∀ k, (k < 9 ∨ 13 < k) → x3 k = x k := by
    intro k hk
    rw [u3.1 k hk, s6 k (by omega), up_cell _ _ _ (by omega), b5 k (by omega) (by omega) (by omega) (by omega)]
  have fm : ∀ k, k ≠ 25 → k ≠ 26 → k ≠ 28 → m3 k = m k := by
    intro k h1 h2 h3
    rw [u4.1 k h1 h2, d2.2.2.2 k h1, up_cell _ _ _ h1, up_cell _ _ _ h1, p2.2.1 k h1 h2 h3]
  have fm25 : ∀ i, i ≠ 16 → i ≠ 17 → i ≠ 18 → m3 25 i = m 25 i := by
    intro i h1 h2 h3
    rw [u4.2 i h1 h2 h3, d2.2.2.1 i h1 h2, up_ne2 _ _ h2, up_ne2 _ _ h3, p4]
  have f28 : ∀ i, i < 119 → m3 28 i = m 26 i := by
    intro i hi
    rw [u4.1 28 (by decide) (by decide), d2.2.2.2 28 (by decide), up_cell _ _ _ (by decide), up_cell _ _ _ (by decide)]
    exact p2.1 i hi
  have tp : ∀ (y z : St), y 14 = x3 14 → y 13 1 = 0 → z 25 15 = 0 → z 31 = m3 31 → TP y z := by
    intro y z h1 h2 h3 h4
    refine ⟨0, by omega, h2, h3, fun i hi => ?_⟩
    obtain ⟨b, c1, c2, c3⟩ := t4 i hi
    exact ⟨b, c1, by rw [h1, fx 14 (by omega)]; exact c2, by rw [h4, fm 31 (by decide) (by decide) (by decide)]; exact c3⟩
  unfold f3_text
  rw [bd q1, bd hri, hmt]
  unfold f4_text_b63
  rcases u5 with ⟨c, τ', hc1, hc2, e1, e2, e3, e4⟩ | ⟨q', hq', e1, e2, e3⟩
  · rw [up_ne2 _ _ (by decide), e3, if_pos rfl]
    show EQ (if rv < 0 then some (rv, f1_clear x3) else (f2_become 0 2 (f1_clear x3)).bind fun z4 => some (rv, z4)) _
    rw [e1, e2, if_neg (show ¬ nI c < 0 by rw [nl0]; exact nI_nlt (by omega) (by omega))]
    obtain ⟨x4, g1, g2, g3, g4, g5, g6⟩ := x_become (t := 0) (u := 2) (f1_clear x3) (by omega)
    rw [bd g1]
    have hcl : ∀ k, k ≠ 13 → f1_clear x3 k = x3 k := fun k hk => up_cell _ _ _ hk
    have hT3 : TW (f1_clear x3) 2 (up m3 25 15 0 26) τ' := TW_13 e4 (fun k hk => hcl k hk) (up_cell _ _ _ (by decide))
    have hT4 : TW x4 0 (up m3 25 15 0 26) τ' := TW_bec hT3 g2 g3 g4 g5 (fun _ _ => rfl)
    have g6' : ∀ k, 5 ≤ k → k ≠ 13 → x4 k = x3 k := fun k h1 h2 => by rw [g6 k (by omega) (by omega) (by omega) (by omega), hcl k h2]
    have g60 : x4 0 = x3 0 := by rw [g6 0 (by omega) (by omega) (by omega) (by omega), hcl 0 (by omega)]
    have em : ∀ a, a ≠ 25 → up m3 25 15 0 a = m3 a := fun a ha => up_cell _ _ _ ha
    obtain ⟨⟨k1, k2⟩, f1, _, s1⟩ := hR'
    refine ⟨_, x4, up m3 25 15 0, rfl, rfl, ⟨τ', hT4⟩, ⟨?_, ?_⟩, ?_, ?_, ?_⟩
    · rw [g60, fx 0 (by omega), up_ne2 _ _ (by decide), fm25 3 (by decide) (by decide) (by decide), k1]
    · rw [up_ne2 _ _ (by decide), fm25 3 (by decide) (by decide) (by decide), em 27 (by decide), fm 27 (by decide) (by decide) (by decide)]
      rcases k2 with k2 | ⟨k2, τ0, k3⟩
      · exact Or.inl k2
      · refine Or.inr ⟨k2, τ0, TW_fr k3 ?_ ?_ ?_ ?_ (fun _ _ => rfl)⟩
        · rw [g6' _ (by omega) (by omega), fx _ (by omega)]
        · rw [g6' _ (by omega) (by omega), fx _ (by omega)]
        · rw [g6' _ (by omega) (by omega), fx _ (by omega)]
        · rw [g6' _ (by omega) (by omega), fx _ (by omega)]
    · intro i hi
      rw [g6' 24 (by omega) (by omega), fx 24 (by omega), em 29 (by decide), fm 29 (by decide) (by decide) (by decide), f1 i hi]
    · refine tp _ _ (g6' 14 (by omega) (by omega)) ?_ (up_eq _ _ _ _) (em 31 (by decide))
      rw [g6 13 (by omega) (by omega) (by omega) (by omega)]
      exact up_eq _ _ _ _
    · intro j hj
      rw [g6' (16 + 2 * j) (by omega) (by omega), g6' (17 + 2 * j) (by omega) (by omega), fx (16 + 2 * j) (by omega), fx (17 + 2 * j) (by omega), em 32 (by decide), em 33 (by decide), em 34 (by decide), fm 32 (by decide) (by decide) (by decide), fm 33 (by decide) (by decide) (by decide), fm 34 (by decide) (by decide) (by decide)]
      exact s1 j hj
  · have h28 : ∀ i, i < 119 → up m3 25 15 0 28 i = m 26 i := fun i hi => by rw [up_cell _ _ _ (by decide)]; exact f28 i hi
    obtain ⟨m4, w1, w2, w3⟩ := m_become (a := 28) (b := 26) (by omega) (up m3 25 15 0)
    have hlb : f4_laysBack (up m3 25 15 0) = some m4 := by
      unfold f4_laysBack
      rw [bd w1]
    have em : ∀ a, a ≠ 25 → a ≠ 26 → m4 a = m3 a := fun a h1 h2 => by rw [w3 a h2, up_cell _ _ _ h1]
    have em25 : ∀ i, i ≠ 15 → m4 25 i = m3 25 i := fun i hi => by rw [w3 25 (by decide), up_ne2 _ _ hi]
    rw [up_ne2 _ _ (by decide), e3, if_neg (by decide : ¬ (1 : Int32) = 0), bd hlb, em25 16 (by decide), e2]
    show EQ (if rv < 0 then some (rv, f1_clear x3) else (f2_become 0 2 (f1_clear x3)).bind fun z4 => some (rv, z4)) _
    rw [e1, if_pos (neg_q (by omega))]
    have hcl : ∀ k, k ≠ 13 → f1_clear x3 k = x3 k := fun k hk => up_cell _ _ _ hk
    obtain ⟨⟨k1, k2⟩, f1, _, s1⟩ := hR'
    refine ⟨_, f1_clear x3, m4, rfl, rfl, ⟨τ, TW_fr hW ?_ ?_ ?_ ?_ (fun i hi => (w2 i hi).trans (h28 i hi))⟩, ⟨?_, ?_⟩, ?_, ?_, ?_⟩
    · rw [hcl _ (by decide), fx _ (by omega)]
    · rw [hcl _ (by decide), fx _ (by omega)]
    · rw [hcl _ (by decide), fx _ (by omega)]
    · rw [hcl _ (by decide), fx _ (by omega)]
    · rw [hcl 0 (by decide), fx 0 (by omega), em25 3 (by decide), fm25 3 (by decide) (by decide) (by decide), k1]
    · rw [em25 3 (by decide), fm25 3 (by decide) (by decide) (by decide), em 27 (by decide) (by decide), fm 27 (by decide) (by decide) (by decide)]
      rcases k2 with k2 | ⟨k2, τ0, k3⟩
      · exact Or.inl k2
      · refine Or.inr ⟨k2, τ0, TW_fr k3 ?_ ?_ ?_ ?_ (fun _ _ => rfl)⟩
        · rw [hcl _ (by decide), fx _ (by omega)]
        · rw [hcl _ (by decide), fx _ (by omega)]
        · rw [hcl _ (by decide), fx _ (by omega)]
        · rw [hcl _ (by decide), fx _ (by omega)]
    · intro i hi
      rw [hcl 24 (by decide), fx 24 (by omega), em 29 (by decide) (by decide), fm 29 (by decide) (by decide) (by decide), f1 i hi]
    · refine tp _ _ (hcl 14 (by decide)) (up_eq _ _ _ _) ?_ (em 31 (by decide) (by decide))
      rw [w3 25 (by decide), up_eq]
    · intro j hj
      rw [hcl (16 + 2 * j) (by omega), hcl (17 + 2 * j) (by omega), fx (16 + 2 * j) (by omega), fx (17 + 2 * j) (by omega), em 32 (by decide) (by decide), em 33 (by decide) (by decide), em 34 (by decide) (by decide), fm 32 (by decide) (by decide) (by decide), fm 33 (by decide) (by decide) (by decide), fm 34 (by decide) (by decide) (by decide)]
      exact s1 j hj
