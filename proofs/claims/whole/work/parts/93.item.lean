def kOf (β : Nat → Nat) (n q r : Nat) : Nat := if wdB β n 0 q r then 0 else if wdB β n 1 q r then 1 else if wdB β n 2 q r then 2 else if wdB β n 3 q r then 3 else if wdB β n 4 q r then 4 else if wdB β n 5 q r then 5 else if wdB β n 6 q r then 6 else 7
theorem kName : ∀ b, b < 7 → f1_kindName (nI b) = b := by decide
def rest9 (u : Nat) (x : St) : Option (Int32 × St) := f1_readItem_L2 u 1 (nI 7) x
theorem x_k_end {F : Nat} {x : St} : f1_readItem_L2 2 (F + 1) (nI 7) x = rest9 2 x := by
  unfold rest9
  rw [f1_readItem_L2_s, f1_readItem_L2_s, if_pos (by decide : (7 : Int32) ≤ nI 7), if_pos (by decide : (7 : Int32) ≤ nI 7)]
theorem x_k_skip {β : Nat → Nat} {n q r b F : Nat} {x : St} (h : PX β n x q r) (hE : ED β n q r) (hb : b < 7) (hw : wdB β n b q r = false) : f1_readItem_L2 2 (F + 1) (nI b) x = f1_readItem_L2 2 F (nI (b + 1)) x := by
  rw [f1_readItem_L2_s, nl7, i_le_f hb (by omega), kName b hb, bd (x_word h.1 (by omega) hE h.2.1 h.2.2.1 h.2.2.2.1), hw, if_pos (by decide : b01 false = 0), nl1, nI_add]
theorem x_k_take {β : Nat → Nat} {n q r b F : Nat} {x : St} (h : PX β n x q r) (hE : ED β n q r) (hb : b < 7) (hw : wdB β n b q r = true) : f1_readItem_L2 2 (F + 1) (nI b) x = (f1_readWhisper 2 (nI b) x).bind fun q => match q with | (v11, z10) => if v11 = 0 ∨ v11 = 1 then some (v11, z10) else none := by
  rw [f1_readItem_L2_s, nl7, i_le_f hb (by omega), kName b hb, bd (x_word h.1 (by omega) hE h.2.1 h.2.2.1 h.2.2.2.1), hw, if_neg (by decide : ¬ b01 true = 0)]
theorem x_kinds {β : Nat → Nat} {n q r : Nat} {x : St} (h : PX β n x q r) (hE : ED β n q r) : f1_readItem 2 x = if kOf β n q r = 7 then rest9 2 x else (f1_readWhisper 2 (nI (kOf β n q r)) x).bind fun q => match q with | (v11, z10) => if v11 = 0 ∨ v11 = 1 then some (v11, z10) else none := by
  show f1_readItem_L2 2 (1092 + 1 + 1 + 1 + 1 + 1 + 1 + 1 + 1) (nI 0) x = _
  unfold kOf
  cases w0 : wdB β n 0 q r with
  | true =>
    simp only [w0, if_true, Bool.false_eq_true, if_false]
    rw [x_k_take h hE (by omega) w0, if_neg (by decide : ¬ 0 = 7)]
  | false =>
    cases w1 : wdB β n 1 q r with
    | true =>
      simp only [w1, if_true, Bool.false_eq_true, if_false]
      rw [x_k_skip h hE (by omega) w0, x_k_take h hE (by omega) w1, if_neg (by decide : ¬ 1 = 7)]
    | false =>
      cases w2 : wdB β n 2 q r with
      | true =>
        simp only [w2, if_true, Bool.false_eq_true, if_false]
        rw [x_k_skip h hE (by omega) w0, x_k_skip h hE (by omega) w1, x_k_take h hE (by omega) w2, if_neg (by decide : ¬ 2 = 7)]
      | false =>
        cases w3 : wdB β n 3 q r with
        | true =>
          simp only [w3, if_true, Bool.false_eq_true, if_false]
          rw [x_k_skip h hE (by omega) w0, x_k_skip h hE (by omega) w1, x_k_skip h hE (by omega) w2, x_k_take h hE (by omega) w3, if_neg (by decide : ¬ 3 = 7)]
        | false =>
          cases w4 : wdB β n 4 q r with
          | true =>
            simp only [w4, if_true, Bool.false_eq_true, if_false]
            rw [x_k_skip h hE (by omega) w0, x_k_skip h hE (by omega) w1, x_k_skip h hE (by omega) w2, x_k_skip h hE (by omega) w3, x_k_take h hE (by omega) w4, if_neg (by decide : ¬ 4 = 7)]
          | false =>
            cases w5 : wdB β n 5 q r with
            | true =>
              simp only [w5, if_true, Bool.false_eq_true, if_false]
              rw [x_k_skip h hE (by omega) w0, x_k_skip h hE (by omega) w1, x_k_skip h hE (by omega) w2, x_k_skip h hE (by omega) w3, x_k_skip h hE (by omega) w4, x_k_take h hE (by omega) w5, if_neg (by decide : ¬ 5 = 7)]
            | false =>
              cases w6 : wdB β n 6 q r with
              | true =>
                simp only [w6, if_true, Bool.false_eq_true, if_false]
                rw [x_k_skip h hE (by omega) w0, x_k_skip h hE (by omega) w1, x_k_skip h hE (by omega) w2, x_k_skip h hE (by omega) w3, x_k_skip h hE (by omega) w4, x_k_skip h hE (by omega) w5, x_k_take h hE (by omega) w6, if_neg (by decide : ¬ 6 = 7)]
              | false =>
                simp only [Bool.false_eq_true, if_false, if_true]
                rw [x_k_skip h hE (by omega) w0, x_k_skip h hE (by omega) w1, x_k_skip h hE (by omega) w2, x_k_skip h hE (by omega) w3, x_k_skip h hE (by omega) w4, x_k_skip h hE (by omega) w5, x_k_skip h hE (by omega) w6,  x_k_end]
theorem m_kinds {β : Nat → Nat} {n q r : Nat} {m : St} (h : PM β n m q r) (hE : ED β n q r) : f4_kindHere m = some (if kOf β n q r = 7 then -1 else nI (kOf β n q r)) := by
  have mw : ∀ i, i < 17 → f4_isWord i m = some (b01 (wdB β n i q r)) := fun i hi => m_word h.1 hi hE h.2.1 h.2.2.1 h.2.2.2
  unfold f4_kindHere f4_kindHere_b43 f4_kindHere_b87
  rw [mw 0 (by omega), mw 1 (by omega), mw 2 (by omega), mw 3 (by omega), mw 4 (by omega), mw 5 (by omega), mw 6 (by omega)]
  unfold kOf
  have t1 : ((-1 : Int32) < 0) = True := by simp
  have f0 : ((0 : Int32) < 0) = False := eq_false (by decide)
  have f1 : ((1 : Int32) < 0) = False := eq_false (by decide)
  have f2 : ((2 : Int32) < 0) = False := eq_false (by decide)
  have f3 : ((3 : Int32) < 0) = False := eq_false (by decide)
  have f4 : ((4 : Int32) < 0) = False := eq_false (by decide)
  have f5 : ((5 : Int32) < 0) = False := eq_false (by decide)
  cases wdB β n 0 q r <;> cases wdB β n 1 q r <;> cases wdB β n 2 q r <;> cases wdB β n 3 q r <;> cases wdB β n 4 q r <;> cases wdB β n 5 q r <;> cases wdB β n 6 q r
  all_goals simp only [Option.bind_some, b01_t, b01_f, n10, n00, t1, f0, f1, f2, f3, f4, f5, if_true, if_false, Bool.false_eq_true]
  all_goals rfl
theorem wd_pos {β : Nat → Nat} {n i q r : Nat} (hi : i < 18) (h : wdB β n i q r = true) : q < r := by
  have hw := wLen_le i hi
  unfold wdB at h
  simp only [Bool.and_eq_true, decide_eq_true_eq] at h
  omega
theorem P_item {β : Nat → Nat} {n q r : Nat} {x m : St} {τ : Nat → Nat} (h : PS β n x m τ q r) : ∃ v x' m', f1_readItem 2 x = some (v, x') ∧ f4_item m = some m' ∧ OUT β n (q + 1) v x m x' m' := by
  obtain ⟨hT, hX, hM, hE⟩ := h
  have h' : PS β n x m τ q r := ⟨hT, hX, hM, hE⟩
  have xw : ∀ i, i < 18 → f1_isWord i x = some (b01 (wdB β n i q r)) := fun i hi => x_word hX.1 hi hE hX.2.1 hX.2.2.1 hX.2.2.2.1
  have mw : ∀ i, i < 17 → f4_isWord i m = some (b01 (wdB β n i q r)) := fun i hi => m_word hM.1 hi hE hM.2.1 hM.2.2.1 hM.2.2.2
  unfold f4_item
  rw [x_kinds hX hE, bd (m_kinds hM hE)]
  by_cases hk : kOf β n q r = 7
  · rw [if_pos hk, if_pos hk, if_pos (by decide : (-1 : Int32) < 0)]
    unfold rest9
    rw [f1_readItem_L2_s, if_pos (by decide : (7 : Int32) ≤ nI 7), bd (xw 9 (by omega)), b01_0]
    cases w9 : wdB β n 9 q r with
    | true =>
      obtain ⟨v, x', m1, w, m2, m', a1, a2, a3, a4, a5, a6⟩ := P_corner h' (wd_pos (by omega) w9) w9
      simp only [if_true]
      rw [bd a1, bd a3]
      show ∃ v' y m'', (if v = 0 ∨ v = 1 then some (v, x') else none) = some (v', y) ∧ ((f4_numberRead (0 : Int32) (15 : Int32) m1).bind fun q => match q with | (v13, z12) => (f4_partTold 10 v13 (0 : Int32) z12).bind fun z14 => (f4_partTold 11 v13 (1 : Int32) z14).bind fun z15 => (f4_partTold 12 v13 (2 : Int32) z15).bind fun z16 => (f4_partTold 13 v13 (4 : Int32) z16).bind fun z17 => some z17) = some m'' ∧ _
      rw [bd a4]
      exact ⟨v, x', m', if_pos a2, a5, a6⟩
    | false =>
      rw [bd (m_takes0 hM.1 (by omega) hE hM.2.1 hM.2.2.1 hM.2.2.2 w9)]
      simp only [Bool.false_eq_true, if_false, if_true]
      rw [bd (xw 14 (by omega)), b01_0]
      cases w14 : wdB β n 14 q r with
      | true =>
        have hq := wd_pos (by omega) w14
        obtain ⟨q1, r1, x1, a1, a2, a3, a4, a5, a6⟩ := x_stepP hX hE
        obtain ⟨m1, b1, b2⟩ := m_takes1 hM.1 (by omega) hE hM.2.1 hM.2.2.1 hM.2.2.2 w14 a2 a3
        have hM1 := PM_nw hM.1 b2
        have hT1 : TW x1 2 (m1 26) τ := TW_13 hT a5 (b2.2.2.2.2 26 (by decide))
        have hF1 := FX_13 a5 a6
        have hG1 := FM_nw b2
        have hpq : q + 1 ≤ q1 := Nat.le_trans hq a2.1
        have hvl : tkV β n q1 r1 ≤ 100000 := by
          unfold tkV
          split
          · exact vx_le _ _ _
          · omega
        have hnum : f1_isNumber (0 : Int32) (65535 : Int32) x1 = b01 (decide (sr β n q1 = 2 ∧ tkV β n q1 r1 ≤ 65535)) := by
          have hl := sr_le β n q1
          have ew : f3_isWithin (nI (tkV β n q1 r1)) 0 65535 = b01 (decide (0 ≤ tkV β n q1 r1 ∧ tkV β n q1 r1 ≤ 65535)) := by
            rw [x_within]
            show b01 (wi (nI (tkV β n q1 r1)) (nI 0) (nI 65535)) = _
            rw [wi_nn (by omega) (by omega) (by omega)]
          unfold f1_isNumber
          rw [a4.2.1, a4.2.2.2.2, ew, b01_0]
          by_cases e : sr β n q1 = 2
          · rw [nl2, i_eq_t e]
            by_cases e2 : tkV β n q1 r1 ≤ 65535
            · rw [if_pos (by simp [e2]), show decide (sr β n q1 = 2 ∧ tkV β n q1 r1 ≤ 65535) = true by simp [e, e2]]; rfl
            · rw [if_neg (by simp [e2]), show decide (sr β n q1 = 2 ∧ tkV β n q1 r1 ≤ 65535) = false by simp [e2]]; rfl
          · rw [nl2, i_eq_f e (by omega) (by omega), show decide (sr β n q1 = 2 ∧ tkV β n q1 r1 ≤ 65535) = false by simp [e]]; rfl
        simp only [if_true]
        rw [bd a1, bd b1, hnum, b01_0]
        by_cases ok : sr β n q1 = 2 ∧ tkV β n q1 r1 ≤ 65535
        · have hX2 : PX β n (up x1 (1 + 4 * 2) 4 (nI (tkV β n q1 r1))) q1 r1 := PX_fr a4 (up_cell _ _ _ (by omega)) (up_cell _ _ _ (by omega))
          obtain ⟨q2, r2, x2, c1, c2, c3, c4, c5, c6⟩ := x_stepP hX2 a3
          obtain ⟨m2, d1, d2⟩ := m_num_ok (lo := 0) (hi := 65535) hM1.1 a3 hM1.2.1 hM1.2.2.1 hM1.2.2.2 (by omega) ⟨ok.1, by omega, ok.2⟩ c2 c3
          have hM2 := PM_nw hM1.1 d2
          have d1' : f4_numberRead (0 : Int32) (65535 : Int32) m1 = some (nI (tkV β n q1 r1), m2) := d1
          have hT2 : TW x2 2 (up m2 26 3 (nI (tkV β n q1 r1)) 26) (upN τ 3 (tkV β n q1 r1)) := by
            rw [up26, d2.2.2.2.2 26 (by decide)]
            exact TW_13 (TW_up3 hT1 ok.2) c5 rfl
          rw [if_pos (by simp [ok]), a4.2.2.2.2, bd c1]
          show ∃ v x' m', _ ∧ ((f4_numberRead (0 : Int32) (65535 : Int32) m1).bind fun q => match q with | (v11, z10) => if (3 : Int32) < 0 ∨ 119 ≤ (3 : Int32).toNatClampNeg then none else some (up z10 26 (3 : Int32).toNatClampNeg v11)) = some m' ∧ _
          rw [bd d1']
          refine ⟨1, x2, _, rfl, if_neg g119_3, ⟨Or.inl ⟨rfl, _, q2, r2, ⟨hT2, c4, PM_fr hM2 (up_cell _ _ _ (by decide)) (up_cell _ _ _ (by decide)), c3⟩, ?_⟩, FX_trans hF1 (FX_trans (FX_up (by omega)) (FX_13 c5 c6)), FM_trans hG1 (FM_trans (FM_nw d2) FM_26)⟩⟩
          exact Nat.le_trans hpq (Nat.le_trans a3.1 c2.1)
        · obtain ⟨w7, d1⟩ := m_num_no (lo := 0) (hi := 65535) hM1.1 a3 hM1.2.1 hM1.2.2.1 hM1.2.2.2 (by omega) (by omega) (fun z => ok ⟨z.1, z.2.2⟩)
          have d1' : f4_numberRead (0 : Int32) (65535 : Int32) m1 = some (w7, up m1 25 18 1) := d1
          rw [if_neg (by simp only [decide_eq_true_eq]; exact ok)]
          show ∃ v x' m', _ ∧ ((f4_numberRead (0 : Int32) (65535 : Int32) m1).bind fun q => match q with | (v11, z10) => if (3 : Int32) < 0 ∨ 119 ≤ (3 : Int32).toNatClampNeg then none else some (up z10 26 (3 : Int32).toNatClampNeg v11)) = some m' ∧ _
          rw [bd d1']
          refine ⟨0, x1, _, rfl, if_neg g119_3, BD_out ⟨q1, a2.2.1, a4.2.2.1, ?_, ?_⟩ hF1 (FM_trans hG1 (FM_trans FM_wr FM_26))⟩
          · rw [up_ne1 _ _ _ _ (by decide), up_ne2 _ _ (by decide)]; exact hM1.2.1
          · rw [up_ne1 _ _ _ _ (by decide), up_eq]
      | false =>
        rw [bd (m_takes0 hM.1 (by omega) hE hM.2.1 hM.2.2.1 hM.2.2.2 w14)]
        simp only [Bool.false_eq_true, if_false, if_true]
        rw [bd (xw 15 (by omega)), b01_0]
        unfold f1_readItem_b104 f1_readItem_b119
        rw [bd (xw 15 (by omega)), b01_0]
        have fr : ∀ f : Nat, f ≤ 1 → q < r → ∃ q1 r1 x1, f1_step (up x (1 + 4 * 2) 5 (nI f)) = some x1 ∧ SK β n r q1 ∧ ED β n q1 r1 ∧ PX β n x1 q1 r1 ∧ TW x1 2 (upd (m 26) 2 (nI f)) (upN τ 2 f) ∧ FX x x1 ∧ q + 1 ≤ q1 := by
          intro f hf hq
          have hX2 : PX β n (up x (1 + 4 * 2) 5 (nI f)) q r := PX_fr hX (up_cell _ _ _ (by omega)) (up_cell _ _ _ (by omega))
          obtain ⟨q2, r2, x2, c1, c2, c3, c4, c5, c6⟩ := x_stepP hX2 hE
          exact ⟨q2, r2, x2, c1, c2, c3, c4, TW_13 (TW_up2 hT hf) c5 rfl, FX_trans (FX_up (by omega)) (FX_13 c5 c6), Nat.le_trans hq c2.1⟩
        cases w15 : wdB β n 15 q r with
        | true =>
          obtain ⟨q1, r1, x1, a1, a2, a3, a4, a5, a6, a7⟩ := fr 1 (by omega) (wd_pos (by omega) w15)
          obtain ⟨m1, b1, b2⟩ := m_takes1 hM.1 (by omega) hE hM.2.1 hM.2.2.1 hM.2.2.2 w15 a2 a3
          have hM1 := PM_nw hM.1 b2
          have a1' : f1_step (up x (1 + 4 * 2) 5 (1 : Int32)) = some x1 := a1
          simp only [if_true]
          rw [bd a1', bd b1]
          refine ⟨1, x1, up m1 26 2 1, rfl, ?_, ⟨Or.inl ⟨rfl, upN τ 2 1, q1, r1, ⟨?_, a4, PM_fr hM1 (up_cell _ _ _ (by decide)) (up_cell _ _ _ (by decide)), a3⟩, a7⟩, a6, FM_trans (FM_nw b2) FM_26⟩⟩
          · show (if (1 : Int32) = 0 then _ else if (2 : Int32) < 0 ∨ 119 ≤ (2 : Int32).toNatClampNeg then none else some (up m1 26 (2 : Int32).toNatClampNeg (1 : Int32))) = _
            rw [if_neg (by decide : ¬ (1 : Int32) = 0), if_neg g119_2]
            rfl
          · rw [up26, b2.2.2.2.2 26 (by decide)]
            exact a5
        | false =>
          rw [bd (m_takes0 hM.1 (by omega) hE hM.2.1 hM.2.2.1 hM.2.2.2 w15)]
          simp only [Bool.false_eq_true, if_false, if_true]
          rw [bd (xw 16 (by omega)), b01_0, bd (mw 16 (by omega))]
          cases w16 : wdB β n 16 q r with
          | true =>
            obtain ⟨q1, r1, x1, a1, a2, a3, a4, a5, a6, a7⟩ := fr 0 (by omega) (wd_pos (by omega) w16)
            obtain ⟨m1, b1, b2⟩ := m_must_ok hM.1 a2 a3 hM.2.2.1 hM.2.2.2
            have hM1 := PM_nw hM.1 b2
            have a1' : f1_step (up x (1 + 4 * 2) 5 (0 : Int32)) = some x1 := a1
            simp only [if_true]
            rw [bd a1', b01_t, bd b1]
            refine ⟨1, x1, up m1 26 2 0, rfl, ?_, ⟨Or.inl ⟨rfl, upN τ 2 0, q1, r1, ⟨?_, a4, PM_fr hM1 (up_cell _ _ _ (by decide)) (up_cell _ _ _ (by decide)), a3⟩, a7⟩, a6, FM_trans (FM_nw b2) FM_26⟩⟩
            · rw [if_neg g119_2]
              rfl
            · rw [up26, b2.2.2.2.2 26 (by decide)]
              exact a5
          | false =>
            rw [b01_f, bd (m_must0 0 (Or.inl ⟨hM.2.2.2, rfl⟩))]
            simp only [Bool.false_eq_true, if_false]
            refine ⟨0, x, _, rfl, if_neg g119_2, BD_out ⟨q, Nat.le_trans hE.1 hE.2.1, hX.2.2.1, ?_, ?_⟩ (FX_refl x) (FM_trans FM_wr FM_26)⟩
            · rw [up_ne1 _ _ _ _ (by decide), up_ne2 _ _ (by decide)]; exact hM.2.1
            · rw [up_ne1 _ _ _ _ (by decide), up_eq]
  · have hk6 : kOf β n q r ≤ 6 ∧ q < r := by
      unfold kOf at hk ⊢
      cases w0 : wdB β n 0 q r with
      | true => simp only [if_true]; exact ⟨by omega, wd_pos (by omega) w0⟩
      | false =>
        cases w1 : wdB β n 1 q r with
        | true => simp only [if_true, Bool.false_eq_true, if_false]; exact ⟨by omega, wd_pos (by omega) w1⟩
        | false =>
          cases w2 : wdB β n 2 q r with
          | true => simp only [if_true, Bool.false_eq_true, if_false]; exact ⟨by omega, wd_pos (by omega) w2⟩
          | false =>
            cases w3 : wdB β n 3 q r with
            | true => simp only [if_true, Bool.false_eq_true, if_false]; exact ⟨by omega, wd_pos (by omega) w3⟩
            | false =>
              cases w4 : wdB β n 4 q r with
              | true => simp only [if_true, Bool.false_eq_true, if_false]; exact ⟨by omega, wd_pos (by omega) w4⟩
              | false =>
                cases w5 : wdB β n 5 q r with
                | true => simp only [if_true, Bool.false_eq_true, if_false]; exact ⟨by omega, wd_pos (by omega) w5⟩
                | false =>
                  cases w6 : wdB β n 6 q r with
                  | true => simp only [if_true, Bool.false_eq_true, if_false]; exact ⟨by omega, wd_pos (by omega) w6⟩
                  | false =>
                    rw [w0, w1, w2, w3, w4, w5, w6] at hk
                    exact absurd rfl hk
    rw [if_neg hk, if_neg hk, if_neg (show ¬ nI (kOf β n q r) < 0 by rw [nl0]; exact nI_nlt (by omega) (by omega))]
    obtain ⟨v, x', m', a1, a2, a3⟩ := P_whisper h' hk6.1 hk6.2
    rw [bd a1, bd a2]
    refine ⟨v, x', m', ?_, rfl, a3⟩
    show (if v = 0 ∨ v = 1 then some (v, x') else none) = _
    rcases a3.1 with ⟨g, _⟩ | ⟨g, _⟩
    · rw [if_pos (Or.inr g)]
    · rw [if_pos (Or.inl g)]
