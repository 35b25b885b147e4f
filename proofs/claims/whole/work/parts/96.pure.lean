theorem law_end {L b : Nat} (hL : L ≤ 3072) (hb : b ≤ 10000) : ((Int32.ofNat L) - (6 : Int32)) < nI b ↔ L < b + 6 := by
  rw [show Int32.ofNat L = nI L from rfl, show (6 : Int32) = nI 6 from rfl, Int32.lt_iff_toInt_lt, pk_sub_toInt (by omega) (by omega), nI_toInt (by omega)]
  omega
theorem key32 {k : St → St → Option Int32} (hk : ∀ x m, REL x m → k x m = some 1) {u v : Option (Int32 × St)} (h : EQ u v) : (u.bind fun q => match q with | (a, z) => v.bind fun q => match q with | (b, y) => if a = b then k z y else some (0 : Int32)) = some 1 := by
  obtain ⟨r, x', m', h1, h2, h3⟩ := h
  rw [bd h1]
  show (v.bind _) = some 1
  rw [bd h2]
  show (if r = r then k x' m' else _) = some 1
  rw [if_pos rfl]
  exact hk _ _ h3
theorem key64 {k : St → St → Option Int32} (hk : ∀ x m, REL x m → k x m = some 1) {u v : Option (Int64 × St)} (h : EQ u v) : (u.bind fun q => match q with | (a, z) => v.bind fun q => match q with | (b, y) => if (lg_cmp a b) = 0 then k z y else some (0 : Int32)) = some 1 := by
  obtain ⟨r, x', m', h1, h2, h3⟩ := h
  rw [bd h1]
  show (v.bind _) = some 1
  rw [bd h2]
  show (if (lg_cmp r r) = 0 then k x' m' else _) = some 1
  rw [if_pos ((lg_cmp_eq r r).mpr rfl)]
  exact hk _ _ h3
theorem ite1 {p : Prop} {inst : Decidable p} {a b : Option Int32} (h1 : p → a = some 1) (h2 : ¬ p → b = some 1) : (@ite _ p inst a b) = some 1 := by
  by_cases h : p
  · rw [if_pos h]; exact h1 h
  · rw [if_neg h]; exact h2 h
set_option maxHeartbeats 4000000 in
theorem pure_loop {L : Nat} (hL : L ≤ 3072) (xs : Nat → Int32) : ∀ (d b : Nat) (x m : St), REL x m → b ≤ 9000 → L < b + 6 * (d + 1) → fL_law_L18 xs L (d + 1) (nI b) x m = some 1
  | 0, b, x, m, h, hb, hd => by
    rw [fL_law_L18_s, if_pos ((law_end hL (by omega)).mpr (by omega))]
  | d + 1, b, x, m, h, hb, hd => by
    by_cases he : L < b + 6
    · rw [fL_law_L18_s, if_pos ((law_end hL (by omega)).mpr he)]
    · have hk : ∀ y z, REL y z → fL_law_b1598 xs L (fL_law_L18 xs L (d + 1)) (nI b) y z = some 1 := by
        intro y z hr
        unfold fL_law_b1598
        rw [show (6 : Int32) = nI 6 from rfl, nI_add]
        exact pure_loop hL xs d (b + 6) y z hr (by omega) (by omega)
      have i1 : (nI b + (1 : Int32) < 0 ∨ L ≤ (nI b + (1 : Int32)).toNatClampNeg) = False := by
        rw [show nI b + (1 : Int32) = nI (b + 1) from nI_add _ _]
        exact eq_false (nI_in (by omega) (by omega))
      have i2 : (nI b + (2 : Int32) < 0 ∨ L ≤ (nI b + (2 : Int32)).toNatClampNeg) = False := by
        rw [show nI b + (2 : Int32) = nI (b + 2) from nI_add _ _]
        exact eq_false (nI_in (by omega) (by omega))
      have i3 : (nI b + (3 : Int32) < 0 ∨ L ≤ (nI b + (3 : Int32)).toNatClampNeg) = False := by
        rw [show nI b + (3 : Int32) = nI (b + 3) from nI_add _ _]
        exact eq_false (nI_in (by omega) (by omega))
      have i4 : (nI b + (4 : Int32) < 0 ∨ L ≤ (nI b + (4 : Int32)).toNatClampNeg) = False := by
        rw [show nI b + (4 : Int32) = nI (b + 4) from nI_add _ _]
        exact eq_false (nI_in (by omega) (by omega))
      have i5 : (nI b + (5 : Int32) < 0 ∨ L ≤ (nI b + (5 : Int32)).toNatClampNeg) = False := by
        rw [show nI b + (5 : Int32) = nI (b + 5) from nI_add _ _]
        exact eq_false (nI_in (by omega) (by omega))
      rw [fL_law_L18_s, if_neg (fun z => he ((law_end hL (by omega)).mp z)), if_neg (nI_in (by omega) (by omega))]
      refine ite1 (fun _ => ?_) (fun _ => ?_)
      · unfold fL_law_b236
        simp only [i1, i2, if_false]
        exact key32 hk (R_corner h _ _)
      refine ite1 (fun _ => ?_) (fun _ => ?_)
      · unfold fL_law_b269
        simp only [i1, i2, i3, if_false]
        exact key32 hk (R_build h _ _ _)
      refine ite1 (fun _ => ?_) (fun _ => ?_)
      · unfold fL_law_b312
        simp only [i1, i2, if_false]
        exact key32 hk (R_says h _ _)
      refine ite1 (fun _ => ?_) (fun _ => ?_)
      · unfold fL_law_b345
        simp only [i1, i2, if_false]
        exact key32 hk (R_of h _ _)
      refine ite1 (fun _ => ?_) (fun _ => ?_)
      · unfold fL_law_b378
        simp only [i1, i2, i3, if_false]
        exact key32 hk (R_change h _ _ _)
      refine ite1 (fun _ => ?_) (fun _ => ?_)
      · unfold fL_law_b421
        simp only [i1, if_false]
        exact key32 hk (R_aunts h _)
      refine ite1 (fun _ => ?_) (fun _ => ?_)
      · unfold fL_law_b444
        simp only [i1, if_false]
        exact key32 hk (R_frost h _)
      refine ite1 (fun _ => ?_) (fun _ => ?_)
      · unfold fL_law_b467
        simp only [i1, if_false]
        exact key32 hk (R_go h _)
      refine ite1 (fun _ => ?_) (fun _ => ?_)
      · unfold fL_law_b490
        simp only [i1, if_false]
        exact key32 hk (R_now h _)
      refine ite1 (fun _ => ?_) (fun _ => ?_)
      · unfold fL_law_b513
        simp only [i1, if_false]
        exact key32 hk (R_merge h _)
      refine ite1 (fun _ => ?_) (fun _ => ?_)
      · unfold fL_law_b536
        simp only [i1, i2, if_false]
        exact key32 hk (R_ahead h _ _)
      refine ite1 (fun _ => ?_) (fun _ => ?_)
      · unfold fL_law_b569
        simp only [i1, i2, if_false]
        exact key32 hk (R_loud h _ _)
      refine ite1 (fun _ => ?_) (fun _ => ?_)
      · unfold fL_law_b602
        simp only [i1, if_false]
        exact key32 hk (R_heard h _)
      refine ite1 (fun _ => ?_) (fun _ => ?_)
      · unfold fL_law_b625
        exact key32 hk (R_still h)
      refine ite1 (fun _ => ?_) (fun _ => ?_)
      · unfold fL_law_b638
        simp only [i1, if_false]
        exact key32 hk (R_harbour h _)
      refine ite1 (fun _ => ?_) (fun _ => ?_)
      · unfold fL_law_b661
        simp only [i1, i2, if_false]
        exact key32 hk (R_loudest h _ _)
      refine ite1 (fun _ => ?_) (fun _ => ?_)
      · unfold fL_law_b694
        simp only [i1, i2, if_false]
        exact key32 hk (R_overtakes h _ _)
      refine ite1 (fun _ => ?_) (fun _ => ?_)
      · unfold fL_law_b727
        simp only [i1, if_false]
        exact key32 hk (R_kindFor h _)
      refine ite1 (fun _ => ?_) (fun _ => ?_)
      · unfold fL_law_b750
        simp only [i1, if_false]
        exact key32 hk (R_goesBy h _)
      refine ite1 (fun _ => ?_) (fun _ => ?_)
      · unfold fL_law_b773
        simp only [i1, i2, i3, if_false]
        exact key32 hk (R_where h _ _ _)
      refine ite1 (fun _ => ?_) (fun _ => ?_)
      · unfold fL_law_b816
        simp only [i1, i2, i3, if_false]
        exact key32 hk (R_places h _ _ _)
      refine ite1 (fun _ => ?_) (fun _ => ?_)
      · unfold fL_law_b859
        simp only [i1, i2, i3, if_false]
        exact key32 hk (R_weightFor h _ _ _)
      refine ite1 (fun _ => ?_) (fun _ => ?_)
      · unfold fL_law_b902
        simp only [i1, i2, i3, if_false]
        exact key32 hk (R_sand h _ _ _)
      refine ite1 (fun _ => ?_) (fun _ => ?_)
      · unfold fL_law_b945
        simp only [i1, i2, i3, if_false]
        exact key32 hk (R_costs h _ _ _)
      refine ite1 (fun _ => ?_) (fun _ => ?_)
      · unfold fL_law_b988
        simp only [i1, if_false]
        exact key32 hk (R_aunt h _)
      refine ite1 (fun _ => ?_) (fun _ => ?_)
      · unfold fL_law_b1011
        simp only [i1, i2, if_false]
        exact key32 hk (R_fits h _ _)
      refine ite1 (fun _ => ?_) (fun _ => ?_)
      · unfold fL_law_b1044
        simp only [i1, i2, if_false]
        exact key32 hk (R_said h _ _)
      refine ite1 (fun _ => ?_) (fun _ => ?_)
      · unfold fL_law_b1077
        obtain ⟨r, h1, h2⟩ := R_dear h
        rw [bd h1, bd h2, if_pos rfl]
        exact hk _ _ h
      refine ite1 (fun _ => ?_) (fun _ => ?_)
      · unfold fL_law_b1090
        obtain ⟨r, h1, h2⟩ := R_rents h
        rw [bd h1, bd h2, if_pos rfl]
        exact hk _ _ h
      refine ite1 (fun _ => ?_) (fun _ => ?_)
      · unfold fL_law_b1103
        simp only [i1, if_false]
        exact key32 hk (R_frosts h _)
      refine ite1 (fun _ => ?_) (fun _ => ?_)
      · unfold fL_law_b1126
        simp only [i1, i2, i3, if_false]
        exact key64 hk (R_odds h _ _ _)
      refine ite1 (fun _ => ?_) (fun _ => ?_)
      · unfold fL_law_b1170
        simp only [i1, if_false]
        obtain ⟨r, x', m', h1, h2, h3⟩ := R_seed h (xs (nI b + (1 : Int32)).toNatClampNeg)
        have h1' := Option.some.inj h1
        rw [bd h2, h1']
        show (if r = r then fL_law_b1598 xs L (fL_law_L18 xs L (d + 1)) (nI b) x' m' else _) = some 1
        rw [if_pos rfl]
        exact hk _ _ h3
      refine ite1 (fun _ => ?_) (fun _ => ?_)
      · unfold fL_law_b1193
        simp only [i1, i2, if_false]
        exact key32 hk (R_feed h _ _)
      refine ite1 (fun _ => ?_) (fun _ => ?_)
      · unfold fL_law_b1226
        have hw := R_wipe h
        rw [if_pos hw.1]
        exact hk _ _ hw.2
      refine ite1 (fun _ => ?_) (fun _ => ?_)
      · unfold fL_law_b1239
        exact key32 hk (R_text h)
      refine ite1 (fun _ => ?_) (fun _ => ?_)
      · unfold fL_law_b1252
        simp only [i1, i2, if_false]
        exact key32 hk (R_hold h _ _)
      refine ite1 (fun _ => ?_) (fun _ => ?_)
      · unfold fL_law_b1285
        simp only [i1, i2, if_false]
        exact key32 hk (R_as h _ _)
      refine ite1 (fun _ => ?_) (fun _ => ?_)
      · unfold fL_law_b1318
        simp only [i1, i2, i3, if_false]
        exact key32 hk (R_sheet h _ _ _)
      refine ite1 (fun _ => ?_) (fun _ => ?_)
      · unfold fL_law_b1361
        simp only [i1, i2, i3, if_false]
        exact key32 hk (R_write h _ _ _)
      refine ite1 (fun _ => ?_) (fun _ => ?_)
      · unfold fL_law_b1404
        simp only [i1, i2, i3, i4, i5, if_false]
        exact key32 hk (R_copy h _ _ _ _ _)
      refine ite1 (fun _ => ?_) (fun _ => ?_)
      · unfold fL_law_b1467
        simp only [i1, if_false]
        exact key32 hk (R_load h _)
      refine ite1 (fun _ => ?_) (fun _ => ?_)
      · unfold fL_law_b1490
        simp only [i1, if_false]
        exact key32 hk (R_judge h _)
      refine ite1 (fun _ => ?_) (fun _ => ?_)
      · unfold fL_law_b1513
        exact key32 hk (R_image h)
      refine ite1 (fun _ => ?_) (fun _ => ?_)
      · unfold fL_law_b1526
        exact key32 hk (R_undo h)
      refine ite1 (fun _ => ?_) (fun _ => ?_)
      · unfold fL_law_b1539
        have hw := R_tear h
        rw [if_pos hw.1]
        exact hk _ _ hw.2
      refine ite1 (fun _ => ?_) (fun _ => ?_)
      · unfold fL_law_b1552
        simp only [i1, if_false]
        exact key32 hk (R_count h _)
      refine ite1 (fun _ => ?_) (fun _ => ?_)
      · unfold fL_law_b1575
        simp only [i1, if_false]
        exact key32 hk (R_status h _)
      exact hk _ _ h
