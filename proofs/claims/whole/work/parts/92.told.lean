-- a whisper told
theorem BD_out {β : Nat → Nat} {n p : Nat} {x0 m0 x m : St} (h : BD n x m) (hx : FX x0 x) (hm : FM m0 m) : OUT β n p 0 x0 m0 x m := ⟨Or.inr ⟨rfl, h⟩, hx, hm⟩
theorem OUT_trans {β : Nat → Nat} {n p p' : Nat} {v : Int32} {x0 m0 x1 m1 x2 m2 : St} (h : OUT β n p v x1 m1 x2 m2) (hx : FX x0 x1) (hm : FM m0 m1) (hp : p' ≤ p) : OUT β n p' v x0 m0 x2 m2 := by
  obtain ⟨h1, h2, h3⟩ := h
  refine ⟨?_, FX_trans hx h2, FM_trans hm h3⟩
  rcases h1 with ⟨a, τ, q, r, b, c⟩ | h1
  · exact Or.inl ⟨a, τ, q, r, b, by omega⟩
  · exact Or.inr h1
theorem b59_mQ (w : Nat) (m : St) : f4_whisperTold_b59 (nI w) m = mQ 8 w 2 (fun z => some z) m := rfl
theorem P_whisper {β : Nat → Nat} {n q r k : Nat} {x m : St} {τ : Nat → Nat} (h : PS β n x m τ q r) (hk : k ≤ 6) (hq : q < r) : ∃ v x' m', f1_readWhisper 2 (nI k) x = some (v, x') ∧ f4_whisperTold (nI k) m = some m' ∧ OUT β n (q + 1) v x m x' m' := by
  obtain ⟨hT, hX, hM, hE⟩ := h
  have hT0 := hT
  obtain ⟨hI, hMM, hXX, _⟩ := hT
  have h8 := hI.1
  unfold f1_readWhisper f4_whisperTold
  rw [if_neg g119_1, m_many hMM, x_full hXX hI, b01_0]
  by_cases e8 : τ 1 = 8
  · rw [if_pos (by simp [e8]), if_pos (show (8 : Int32) ≤ nI (τ 1) by rw [nl8]; exact nI_le (by omega) (by omega))]
    unfold f4_whisperTold_b17
    rw [bd (m_must0 0 (Or.inl ⟨hM.2.2.2, rfl⟩)), up_eq, if_neg (by decide : ¬ (1 : Int32) = 0)]
    exact ⟨0, x, _, rfl, rfl, BD_out ⟨q, Nat.le_trans hE.1 hE.2.1, hX.2.2.1, by rw [up_ne2 _ _ (by decide)]; exact hM.2.1, up_eq _ _ _ _⟩ (FX_refl x) FM_wr⟩
  · rw [if_neg (by simp [e8]), if_neg (show ¬ (8 : Int32) ≤ nI (τ 1) by rw [nl8]; exact nI_ge (by omega) (by omega))]
    obtain ⟨x1, a0, a1, a2, a3⟩ := x_add hXX hI (by omega) k 0 1
    have hX1 : PX β n x1 q r := PX_fr hX (a2 13 (by omega) (by omega)) (a2 14 (by omega) (by omega))
    obtain ⟨q1, r1, x2, c1, c2, c3, c4, c5, c6⟩ := x_stepP hX1 hE
    obtain ⟨m1, b1, b2⟩ := m_must_ok hM.1 c2 c3 hM.2.2.1 hM.2.2.2
    have hm26 : m1 26 = m 26 := b2.2.2.2.2 26 (by decide)
    have hM1 := PM_nw hM.1 b2
    obtain ⟨m2, d0, d1, d2, d3⟩ := m_add (m := m1) (τ := τ) (by rw [hm26]; exact hMM) (by omega) k 0 1
    have hT1 : TW x1 2 (m2 26) (addN τ k 0 1) := by
      have := TW_add (s' := m2 26) hT0 (by omega : τ 1 < 8) hk (by omega : 0 ≤ 15) (by omega : 1 ≤ 999) a1 a2 a3 d1 (fun i h1 h2 => by rw [d3 i h1 h2, hm26])
      exact this
    have hT2 : TW x2 2 (m2 26) (addN τ k 0 1) := TW_13 hT1 c5 rfl
    have hM2 : PM β n m2 q1 r1 := PM_fr hM1 (d2 25 (by decide)) (d2 31 (by decide))
    have hF2 : FX x x2 := FX_trans ⟨fun a ha => a2 a (by omega) (by omega), by rw [a2 13 (by omega) (by omega)]⟩ (FX_13 c5 c6)
    have hG2 : FM m m2 := FM_trans (FM_nw b2) ⟨fun a h1 h2 => d2 a h2, fun i _ _ _ => by rw [d2 25 (by decide)]⟩
    have hw : τ 1 < 8 := by omega
    obtain ⟨v3, x3, m3, e1, e2, e3⟩ := P_qual (i := 7) (w := τ 1) (what := 1) ⟨hT2, c4, hM2, c3⟩ hw (Or.inl rfl) (by omega)
    have hpq : q + 1 ≤ q1 := Nat.le_trans hq c2.1
    have hxa : f2_addWhisper 2 (nI k) (0 : Int32) (1 : Int32) x = some (nI (τ 1), x1) := a0
    have hma : f4_adds (nI k) (0 : Int32) (1 : Int32) m1 = some (nI (τ 1), m2) := d0
    rw [bd hxa]
    unfold f4_whisperTold_b17
    rw [bd b1, if_pos hM1.2.2.2, bd hma]
    show ∃ v x' m', ((f1_step x1).bind fun z3 => (f1_readQuality 2 7 (nI (τ 1)) (1 : Int32) z3).bind fun q => match q with | (v5, z4) => if v5 = 0 then some ((0 : Int32), z4) else (f1_readQuality 2 8 (nI (τ 1)) (2 : Int32) z4).bind fun q => match q with | (v7, z6) => if v7 = 0 then some ((0 : Int32), z6) else some ((1 : Int32), z6)) = some (v, x') ∧ mQ 7 (τ 1) 1 (fun z => f4_whisperTold_b59 (nI (τ 1)) z) m2 = some m' ∧ _
    have e1' : f1_readQuality 2 7 (nI (τ 1)) (1 : Int32) x2 = some (v3, x3) := e1
    rw [bd c1, bd e1', e2]
    show ∃ v x' m', (if v3 = 0 then some ((0 : Int32), x3) else (f1_readQuality 2 8 (nI (τ 1)) (2 : Int32) x3).bind fun q => match q with | (v7, z6) => if v7 = 0 then some ((0 : Int32), z6) else some ((1 : Int32), z6)) = some (v, x') ∧ mQ 8 (τ 1) 2 (fun z => some z) m3 = some m' ∧ _
    obtain ⟨o, hF3, hG3⟩ := e3
    rcases o with ⟨ov, τ3, q3, r3, hP3, hp3⟩ | ⟨ov, hb⟩
    · rw [ov, if_neg (by decide : ¬ (1 : Int32) = 0)]
      obtain ⟨v4, x4, m4, f1, f2, f3⟩ := P_qual (i := 8) (w := τ 1) (what := 2) hP3 hw (Or.inr rfl) (by omega)
      have f1' : f1_readQuality 2 8 (nI (τ 1)) (2 : Int32) x3 = some (v4, x4) := f1
      rw [bd f1', f2]
      have f3' := OUT_trans f3 (FX_trans hF2 hF3) (FM_trans hG2 hG3) (show q + 1 ≤ q3 by omega)
      rcases f3.1 with ⟨g, _⟩ | ⟨g, _⟩
      · rw [g] at f3' ⊢
        exact ⟨1, x4, m4, rfl, rfl, f3'⟩
      · rw [g] at f3' ⊢
        exact ⟨0, x4, m4, rfl, rfl, f3'⟩
    · rw [ov, if_pos rfl, mQ_W hb.choose_spec.2.2.2]
      exact ⟨0, x3, m3, rfl, rfl, BD_out hb (FX_trans hF2 hF3) (FM_trans hG2 hG3)⟩
-- a corner told
theorem BD_wr {n : Nat} {x m : St} (h : BD n x m) : m 25 18 = 1 := h.choose_spec.2.2.2
theorem P_corner {β : Nat → Nat} {n q r : Nat} {x m : St} {τ : Nat → Nat} (h : PS β n x m τ q r) (hq : q < r) (hwd : wdB β n 9 q r = true) : ∃ v x' m1 w m2 m', f1_readCorner 2 x = some (v, x') ∧ (v = 0 ∨ v = 1) ∧ f4_takes 9 m = some (1, m1) ∧ f4_numberRead (0 : Int32) (15 : Int32) m1 = some (w, m2) ∧ ((f4_partTold 10 w (0 : Int32) m2).bind fun z14 => (f4_partTold 11 w (1 : Int32) z14).bind fun z15 => (f4_partTold 12 w (2 : Int32) z15).bind fun z16 => (f4_partTold 13 w (4 : Int32) z16).bind fun z17 => some z17) = some m' ∧ OUT β n (q + 1) v x m x' m' := by
  obtain ⟨hT, hX, hM, hE⟩ := h
  obtain ⟨q1, r1, x1, a1, a2, a3, a4, a5, a6⟩ := x_stepP hX hE
  obtain ⟨m1, b1, b2⟩ := m_takes1 hM.1 (by omega) hE hM.2.1 hM.2.2.1 hM.2.2.2 hwd a2 a3
  have hM1 := PM_nw hM.1 b2
  have hT1 : TW x1 2 (m1 26) τ := TW_13 hT a5 (b2.2.2.2.2 26 (by decide))
  have hF1 := FX_13 a5 a6
  have hG1 := FM_nw b2
  have hpq : q + 1 ≤ q1 := Nat.le_trans hq a2.1
  have hvl : tkV β n q1 r1 ≤ 100000 := by
    unfold tkV
    split
    · exact vx_le _ _ _
    · omega
  have hnum : f1_isNumber (0 : Int32) (15 : Int32) x1 = b01 (decide (sr β n q1 = 2 ∧ tkV β n q1 r1 ≤ 15)) := by
    have hl := sr_le β n q1
    have ew : f3_isWithin (nI (tkV β n q1 r1)) 0 15 = b01 (decide (0 ≤ tkV β n q1 r1 ∧ tkV β n q1 r1 ≤ 15)) := by
      rw [x_within]
      show b01 (wi (nI (tkV β n q1 r1)) (nI 0) (nI 15)) = _
      rw [wi_nn (by omega) (by omega) (by omega)]
    unfold f1_isNumber
    rw [a4.2.1, a4.2.2.2.2, ew, b01_0]
    by_cases e : sr β n q1 = 2
    · rw [nl2, i_eq_t e]
      by_cases e2 : tkV β n q1 r1 ≤ 15
      · rw [if_pos (by simp [e2]), show decide (sr β n q1 = 2 ∧ tkV β n q1 r1 ≤ 15) = true by simp [e, e2]]; rfl
      · rw [if_neg (by simp [e2]), show decide (sr β n q1 = 2 ∧ tkV β n q1 r1 ≤ 15) = false by simp [e2]]; rfl
    · rw [nl2, i_eq_f e (by omega) (by omega), show decide (sr β n q1 = 2 ∧ tkV β n q1 r1 ≤ 15) = false by simp [e]]; rfl
  unfold f1_readCorner
  rw [bd a1, hnum, b01_0, a4.2.2.2.2]
  by_cases ok : sr β n q1 = 2 ∧ tkV β n q1 r1 ≤ 15
  · rw [if_pos (by simp [ok])]
    obtain ⟨q2, r2, x2, c1, c2, c3, c4, c5, c6⟩ := x_stepP a4 a3
    obtain ⟨m2, d1, d2⟩ := m_num_ok (lo := 0) (hi := 15) hM1.1 a3 hM1.2.1 hM1.2.2.1 hM1.2.2.2 (by omega) ⟨ok.1, by omega, ok.2⟩ c2 c3
    have hM2 := PM_nw hM1.1 d2
    have hT2 : TW x2 2 (m2 26) τ := TW_13 hT1 c5 (d2.2.2.2.2 26 (by decide))
    have hc : tkV β n q1 r1 < 16 := by omega
    generalize tkV β n q1 r1 = c at *
    have hF2 : FX x x2 := FX_trans hF1 (FX_13 c5 c6)
    have hG2 : FM m m2 := FM_trans hG1 (FM_nw d2)
    have hq2 : q + 1 ≤ q2 := Nat.le_trans hpq (Nat.le_trans a3.1 c2.1)
    have d1' : f4_numberRead (0 : Int32) (15 : Int32) m1 = some (nI c, m2) := d1
    obtain ⟨v3, x3, m3, t1, t2, t3⟩ := P_trait (i := 10) (what := 0) ⟨hT2, c4, hM2, c3⟩ hc (by omega) (by omega)
    have t1' : f1_readTrait 2 10 (nI c) (0 : Int32) x2 = _ := t1
    have t2' : f4_partTold 10 (nI c) (0 : Int32) m2 = _ := t2
    rw [bd c1, bd t1']
    obtain ⟨o3, f3, g3⟩ := t3
    rcases o3 with ⟨ov, τ3, q3, r3, hP3, hp3⟩ | ⟨ov, hb⟩
    · obtain ⟨v4, x4, m4, u1, u2, u3⟩ := P_trait (i := 11) (what := 1) hP3 hc (by omega) (by omega)
      have u1' : f1_readTrait 2 11 (nI c) (1 : Int32) x3 = _ := u1
      have u2' : f4_partTold 11 (nI c) (1 : Int32) m3 = _ := u2
      obtain ⟨o4, f4, g4⟩ := u3
      rcases o4 with ⟨ow, τ4, q4, r4, hP4, hp4⟩ | ⟨ow, hb⟩
      · obtain ⟨v5, x5, m5, w1, w2, w3⟩ := P_trait (i := 12) (what := 2) hP4 hc (by omega) (by omega)
        have w1' : f1_readTrait 2 12 (nI c) (2 : Int32) x4 = _ := w1
        have w2' : f4_partTold 12 (nI c) (2 : Int32) m4 = _ := w2
        obtain ⟨o5, f5, g5⟩ := w3
        rcases o5 with ⟨oy, τ5, q5, r5, hP5, hp5⟩ | ⟨oy, hb⟩
        · obtain ⟨v6, x6, m6, y1, y2, y3⟩ := P_trait (i := 13) (what := 4) hP5 hc (by omega) (by omega)
          have y1' : f1_readTrait 2 13 (nI c) (4 : Int32) x5 = _ := y1
          have y2' : f4_partTold 13 (nI c) (4 : Int32) m5 = _ := y2
          have y3' := OUT_trans y3 (FX_trans hF2 (FX_trans f3 (FX_trans f4 f5))) (FM_trans hG2 (FM_trans g3 (FM_trans g4 g5))) (show q + 1 ≤ q5 by omega)
          refine ⟨v6, x6, m1, nI c, m2, m6, ?_, ?_, b1, d1', ?_, y3'⟩
          · show (if v3 = 0 then _ else (f1_readTrait 2 11 (nI c) (1 : Int32) x3).bind _) = _
            rw [ov, if_neg (by decide : ¬ (1 : Int32) = 0), bd u1']
            show (if v4 = 0 then _ else (f1_readTrait 2 12 (nI c) (2 : Int32) x4).bind _) = _
            rw [ow, if_neg (by decide : ¬ (1 : Int32) = 0), bd w1']
            show (if v5 = 0 then _ else (f1_readTrait 2 13 (nI c) (4 : Int32) x5).bind _) = _
            rw [oy, if_neg (by decide : ¬ (1 : Int32) = 0), bd y1']
            show (if v6 = 0 then some ((0 : Int32), x6) else some ((1 : Int32), x6)) = _
            rcases y3.1 with ⟨g, _⟩ | ⟨g, _⟩ <;> rw [g] <;> rfl
          · rcases y3.1 with ⟨g, _⟩ | ⟨g, _⟩
            · exact Or.inr g
            · exact Or.inl g
          · rw [bd t2', bd u2', bd w2', bd y2']
        · have hw := BD_wr hb
          refine ⟨0, x5, m1, nI c, m2, m5, ?_, Or.inl rfl, b1, d1', ?_, BD_out hb (FX_trans hF2 (FX_trans f3 (FX_trans f4 f5))) (FM_trans hG2 (FM_trans g3 (FM_trans g4 g5)))⟩
          · show (if v3 = 0 then _ else (f1_readTrait 2 11 (nI c) (1 : Int32) x3).bind _) = _
            rw [ov, if_neg (by decide : ¬ (1 : Int32) = 0), bd u1']
            show (if v4 = 0 then _ else (f1_readTrait 2 12 (nI c) (2 : Int32) x4).bind _) = _
            rw [ow, if_neg (by decide : ¬ (1 : Int32) = 0), bd w1']
            show (if v5 = 0 then some ((0 : Int32), x5) else _) = _
            rw [oy, if_pos rfl]
          · rw [bd t2', bd u2', bd w2', bd (m_partW hw)]
      · have hw := BD_wr hb
        refine ⟨0, x4, m1, nI c, m2, m4, ?_, Or.inl rfl, b1, d1', ?_, BD_out hb (FX_trans hF2 (FX_trans f3 f4)) (FM_trans hG2 (FM_trans g3 g4))⟩
        · show (if v3 = 0 then _ else (f1_readTrait 2 11 (nI c) (1 : Int32) x3).bind _) = _
          rw [ov, if_neg (by decide : ¬ (1 : Int32) = 0), bd u1']
          show (if v4 = 0 then some ((0 : Int32), x4) else _) = _
          rw [ow, if_pos rfl]
        · rw [bd t2', bd u2', bd (m_partW hw), bd (m_partW hw)]
    · have hw := BD_wr hb
      refine ⟨0, x3, m1, nI c, m2, m3, ?_, Or.inl rfl, b1, d1', ?_, BD_out hb (FX_trans hF2 f3) (FM_trans hG2 g3)⟩
      · show (if v3 = 0 then some ((0 : Int32), x3) else _) = _
        rw [ov, if_pos rfl]
      · rw [bd t2', bd (m_partW hw), bd (m_partW hw), bd (m_partW hw)]
  · rw [if_neg (by simp only [decide_eq_true_eq]; exact ok)]
    obtain ⟨w7, d1⟩ := m_num_no (lo := 0) (hi := 15) hM1.1 a3 hM1.2.1 hM1.2.2.1 hM1.2.2.2 (by omega) (by omega) (fun z => ok ⟨z.1, z.2.2⟩)
    have d1' : f4_numberRead (0 : Int32) (15 : Int32) m1 = some (w7, up m1 25 18 1) := d1
    have hw : up m1 25 18 1 25 18 = 1 := up_eq _ _ _ _
    refine ⟨0, x1, m1, w7, _, up m1 25 18 1, rfl, Or.inl rfl, b1, d1', ?_, BD_out ⟨q1, a2.2.1, a4.2.2.1, by rw [up_ne2 _ _ (by decide)]; exact hM1.2.1, hw⟩ hF1 (FM_trans hG1 FM_wr)⟩
    rw [bd (m_partW hw), bd (m_partW hw), bd (m_partW hw), bd (m_partW hw)]
