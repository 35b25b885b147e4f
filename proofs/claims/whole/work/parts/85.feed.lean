def bt (x : Int32) (i : Nat) : Bool := x.toBitVec.getLsbD i
theorem b_ext {x y : Int32} (h : ∀ i, i < 32 → bt x i = bt y i) : x = y := Int32.toBitVec_inj.mp (BitVec.eq_of_getLsbD_eq (fun i hi => h i hi))
theorem b_and (x y : Int32) (i : Nat) : bt (x &&& y) i = (bt x i && bt y i) := by unfold bt; rw [Int32.toBitVec_and, BitVec.getLsbD_and]
theorem b_big {x : Int32} {i : Nat} (h : 32 ≤ i) : bt x i = false := BitVec.getLsbD_of_ge _ _ h
theorem b_255 (i : Nat) : bt 255 i = decide (i < 8) := by
  rcases Nat.lt_or_ge i 32 with h | h
  · exact (by decide +kernel : ∀ i, i < 32 → bt 255 i = decide (i < 8)) i h
  · rw [b_big h, decide_eq_false (by omega)]
theorem s_l : ∀ n, n < 32 → ((nI n &&& 31).toBitVec.smod 32).toNat = n := by decide +kernel
theorem s_u : ∀ n, n < 32 → (((nI n).toUInt32 &&& Int32.toUInt32 31).toBitVec % 32).toNat = n := by decide +kernel
theorem b_ushr (n : Nat) (hn : n < 32) (x : Int32) (i : Nat) : bt ((x.toUInt32 >>> ((nI n).toUInt32 &&& Int32.toUInt32 31)).toInt32) i = bt x (n + i) := by
  show (x.toUInt32 >>> ((nI n).toUInt32 &&& Int32.toUInt32 31)).toBitVec.getLsbD i = x.toUInt32.toBitVec.getLsbD (n + i)
  rw [UInt32.toBitVec_shiftRight]
  show (x.toUInt32.toBitVec >>> (((nI n).toUInt32 &&& Int32.toUInt32 31).toBitVec % 32).toNat).getLsbD i = _
  rw [s_u n hn, BitVec.getLsbD_ushiftRight]
theorem b_sshr (n : Nat) (hn : n < 32) (x : Int32) {i : Nat} (hi : i < 32) : bt (x >>> (nI n &&& 31)) i = if n + i < 32 then bt x (n + i) else bt x 31 := by
  unfold bt
  rw [Int32.toBitVec_shiftRight]
  show (x.toBitVec.sshiftRight ((nI n &&& 31).toBitVec.smod 32).toNat).getLsbD i = _
  rw [s_l n hn, BitVec.getLsbD_sshiftRight, BitVec.msb_eq_getLsbD_last]
  simp [hi]
-- the tape's bytes
theorem i_byte (a : Int32) {k : Nat} (hk : k < 4) : ((a.toUInt32 >>> (((8 : Int32) * nI k).toUInt32 &&& Int32.toUInt32 31)).toInt32) &&& (255 : Int32) = (a >>> (((8 : Int32) * nI k) &&& 31)) &&& (255 : Int32) := by
  rw [nl8, pk_mul]
  apply b_ext
  intro i hi
  rw [b_and, b_and, b_255, b_ushr _ (by omega), b_sshr _ (by omega) _ hi]
  by_cases h : i < 8
  · rw [if_pos (by omega)]
  · simp [h]
theorem i_byte_lt (a : Int32) : ∃ b, b < 256 ∧ a &&& (255 : Int32) = nI b := pk_andE a 8 (by decide)
theorem REL_tape {x m x' m' : St} (h : REL x m) (ex : ∀ a, a ≠ 13 → a ≠ 14 → x' a = x a) (em : ∀ a, a ≠ 25 → a ≠ 31 → m' a = m a) (e3 : m' 25 3 = m 25 3) (ht : TP x' m') : REL x' m' := by
  obtain ⟨⟨τ, hW⟩, ⟨k1, k2⟩, f1, _, s1⟩ := h
  refine ⟨⟨τ, ?_⟩, ⟨?_, ?_⟩, ?_, ht, ?_⟩
  · rw [em 26 (by omega) (by omega)]
    exact TW_fr hW (ex _ (by omega) (by omega)) (ex _ (by omega) (by omega)) (ex _ (by omega) (by omega)) (ex _ (by omega) (by omega)) (fun _ _ => rfl)
  · rw [ex 0 (by omega) (by omega), e3, k1]
  · rw [e3, em 27 (by omega) (by omega)]
    rcases k2 with k2 | ⟨k2, τ, k3⟩
    · exact Or.inl k2
    · exact Or.inr ⟨k2, τ, TW_fr k3 (ex _ (by omega) (by omega)) (ex _ (by omega) (by omega)) (ex _ (by omega) (by omega)) (ex _ (by omega) (by omega)) (fun _ _ => rfl)⟩
  · intro i hi
    rw [ex 24 (by omega) (by omega), em 29 (by omega) (by omega), f1 i hi]
  · intro j hj
    rw [ex (16 + 2 * j) (by omega) (by omega), ex (17 + 2 * j) (by omega) (by omega), em 32 (by omega) (by omega), em 33 (by omega) (by omega), em 34 (by omega) (by omega)]
    exact s1 j hj
theorem R_feed_L (a : Int32) : ∀ (d F n : Nat) (x m : St), d + 1 ≤ F → d ≤ 4 → REL x m → x 13 1 = nI n → n + d ≤ 120 → EQ (f3_feed_L41 F a (nI d + (-1 : Int32)) x) (f4_feed_L39 F a (nI d + (-1 : Int32)) m)
  | d, 0, n, x, m, hF, hd, h, hn, hl => by omega
  | 0, F + 1, n, x, m, hF, hd, h, hn, hl => by
    have h' := h
    obtain ⟨_, _, _, ⟨n', t1, t2, t3, t4⟩, _⟩ := h
    rw [f3_feed_L41_s, f4_feed_L39_s, if_pos (by decide), if_pos (by decide), t2, t3]
    exact EQs h' _
  | d + 1, F + 1, n, x, m, hF, hd, h, hn, hl => by
    have h' := h
    obtain ⟨_, _, _, ⟨n', t1, t2, t3, t4⟩, _⟩ := h
    have en : n' = n := n_inj (by omega) (by omega) (t2.symm.trans hn)
    rw [en] at t2 t3
    have ed : nI (d + 1) + (-1 : Int32) = nI d := by rw [i_dec (by omega) (by omega)]; congr 1
    rw [f3_feed_L41_s, f4_feed_L39_s, ed, if_neg (show ¬ nI d < 0 by rw [nl0]; exact nI_nlt (by omega) (by omega)), if_neg (show ¬ nI d < 0 by rw [nl0]; exact nI_nlt (by omega) (by omega)), t3, if_neg (nI_in (by omega) (by omega)), nI_clamp (by omega), i_byte a (by omega : d < 4)]
    obtain ⟨b, hb, eb⟩ := i_byte_lt (a >>> (((8 : Int32) * nI d) &&& 31))
    rw [eb]
    have hap : f1_append (nI b) x = some (up (up x 14 n (nI b)) 13 1 (nI (n + 1))) := by
      unfold f1_append
      rw [t2, if_neg (show ¬ (120 : Int32) ≤ nI n from nI_ge (b := 120) (by omega) (by omega)), if_neg (nI_in (by omega) (by omega)), nI_clamp (by omega), up_ne1 _ _ _ _ (by decide), t2, nl1, nI_add]
    rw [bd hap, up_ne1 _ _ _ _ (by decide), t3, nl1, nI_add]
    have hr : REL (up (up x 14 n (nI b)) 13 1 (nI (n + 1))) (up (up m 31 n (nI b)) 25 15 (nI (n + 1))) := by
      refine REL_tape h' (fun a h1 h2 => (up_cell _ _ _ h1).trans (up_cell _ _ _ h2)) (fun a h1 h2 => (up_cell _ _ _ h1).trans (up_cell _ _ _ h2)) ?_ ⟨n + 1, by omega, up_eq _ _ _ _, up_eq _ _ _ _, fun i hi => ?_⟩
      · rw [up_ne2 _ _ (by decide), up_ne1 _ _ _ _ (by decide)]
      · rw [show up (up x 14 n (nI b)) 13 1 (nI (n + 1)) 14 = up x 14 n (nI b) 14 from up_cell _ _ _ (by decide), show up (up m 31 n (nI b)) 25 15 (nI (n + 1)) 31 = up m 31 n (nI b) 31 from up_cell _ _ _ (by decide)]
        by_cases e : i = n
        · rw [e, up_eq, up_eq]
          exact ⟨b, hb, rfl, rfl⟩
        · rw [up_ne2 _ _ e, up_ne2 _ _ e]
          exact t4 i hi
    exact R_feed_L a d F (n + 1) _ _ (by omega) (by omega) hr (up_eq _ _ _ _) (by omega)
theorem R_feed {x m : St} (h : REL x m) (a b : Int32) : EQ (f3_feed a b x) (f4_feed a b m) := by
  have h' := h
  obtain ⟨_, _, _, ⟨n, t1, t2, t3, t4⟩, _⟩ := h
  unfold f3_feed f4_feed
  have ex : f3_isWithin b 1 4 = b01 (wi b 1 (nI 4)) := x_within b 1 4
  have em : f4_in b.toInt64 1 4 = b01 (wi b 1 (nI 4)) := m_in b 1 4
  rw [ex, em, t2, t3]
  rcases cls1 b 4 (by omega) with e | ⟨k, hk1, hk, e⟩
  · simp only [e, b01_f, n00, if_true]
    exact EQf0 h' (fun _ _ => rfl) (fun _ _ => rfl)
  · subst e
    simp only [wi_t1 hk1 hk (by omega), b01_t, n10, if_false]
    have e120 : (120 : Int32) = nI 120 := rfl
    have ek : nI k - (1 : Int32) = nI k + (-1 : Int32) := by rw [i_dec hk1 (by omega), nl1, pk_sub hk1]
    rw [nI_add, e120]
    by_cases e : n + k ≤ 120
    · rw [i_le_t e (by omega), i_le_t e (by omega), ek]
      exact R_feed_L a k fu n x m (by rw [fu_eq]; omega) hk h' t2 e
    · rw [i_le_f (by omega) (by omega), i_le_f (by omega) (by omega)]
      exact EQf1 h' (fun _ _ => rfl) (fun _ _ => rfl)
-- the odds
def x00 : St := fun _ _ => 0
theorem od_x : ∀ (F : Nat) (a b : Int32) (c : Int64) (d : Int32) (x : St), f3_odds_L85 F a b c d x = (f3_odds_L85 F a b c d x00).map (fun q => (q.1, x))
  | 0, _, _, _, _, _ => rfl
  | F + 1, a, b, c, d, x => by
    rw [f3_odds_L85_s, f3_odds_L85_s]
    by_cases h : a ≤ d
    · rw [if_pos h, if_pos h]; rfl
    · rw [if_neg h, if_neg h, od_x F]
theorem od_m1 : ∀ (F : Nat) (a : Int32) (b c d e : Int64) (m : St), f4_odds_L88 F a b c d e m = (f4_odds_L88 F a b c d e x00).map (fun q => (q.1, m))
  | 0, _, _, _, _, _, _ => rfl
  | F + 1, a, b, c, d, e, m => by
    rw [f4_odds_L88_s, f4_odds_L88_s, od_m1 F _ _ _ _ _ m]
    by_cases h1 : lg_cmp e 0 = 0
    · rw [if_pos h1, if_pos h1]
      by_cases h2 : a = 0
      · rw [if_pos h2, if_pos h2]
        by_cases h3 : d = 0
        · rw [if_pos h3, if_pos h3]; rfl
        · rw [if_neg h3, if_neg h3]; rfl
      · rw [if_neg h2, if_neg h2]
        by_cases h3 : d = 0
        · rw [if_pos h3, if_pos h3]; rfl
        · rw [if_neg h3, if_neg h3]; rfl
    · rw [if_neg h1, if_neg h1]
      by_cases h2 : e = 0
      · rw [if_pos h2, if_pos h2]; rfl
      · rw [if_neg h2, if_neg h2]
theorem od_m : ∀ (F : Nat) (a b c : Int32) (d e : Int64) (f : Int32) (m : St), f4_odds_L50 F a b c d e f m = (f4_odds_L50 F a b c d e f x00).map (fun q => (q.1, m))
  | 0, _, _, _, _, _, _, _ => rfl
  | F + 1, a, b, c, d, e, f, m => by
    rw [f4_odds_L50_s, f4_odds_L50_s]
    by_cases h : a ≤ f
    · rw [if_pos h, if_pos h, od_m1]
    · rw [if_neg h, if_neg h, od_m F]
theorem od_b7 (a w : Int32) (x : St) : f3_odds_b77 a w x = (f3_odds_b77 a w x00).map (fun q => (q.1, x)) := by
  unfold f3_odds_b77
  exact od_x _ _ _ _ _ _
theorem od_b (a b w : Int32) (x : St) : f3_odds_b50 a b w x = (f3_odds_b50 a b w x00).map (fun q => (q.1, x)) := by
  unfold f3_odds_b50
  cases f3_commonWithTen (10 - b) with
  | none => rfl
  | some v =>
    show (if v ≤ 1 then f3_odds_b77 a w x else if v = 0 then none else f3_odds_b77 a (w / v) x) = (if v ≤ 1 then f3_odds_b77 a w x00 else if v = 0 then none else f3_odds_b77 a (w / v) x00).map (fun q => (q.1, x))
    split
    · exact od_b7 _ _ _
    · split
      · rfl
      · exact od_b7 _ _ _
def gX (n k w : Nat) : Option Int64 := (if nI w = 0 then f3_odds_b50 (nI n) (nI k) ((10 : Int32) - nI k) x00 else f3_odds_b50 (nI n) (nI k) (10 : Int32) x00).map Prod.fst
def gM (n k w : Nat) : Option Int64 := (f4_odds_L50 fu (nI n) (nI k) (nI w) 1 1 0 x00).map Prod.fst
set_option maxRecDepth 100000 in
theorem od_all : ∀ n, n < 19 → ∀ k, k < 11 → ∀ w, w < 2 → gX n k w = gM n k w ∧ (gX n k w).isSome = true := by decide +kernel
theorem R_odds {x m : St} (h : REL x m) (a b c : Int32) : EQ (f3_odds a b c x) (f4_odds a b c m) := by
  unfold f3_odds f4_odds f3_odds_b29 f4_odds_b34
  have e1 : f3_isWithin a 0 18 = b01 (wi a 0 (nI 18)) := x_within a 0 18
  have e2 : f3_isWithin b 0 10 = b01 (wi b 0 (nI 10)) := x_within b 0 10
  have e3 : f3_isWithin c 0 1 = b01 (wi c 0 (nI 1)) := x_within c 0 1
  have g1 : f4_in a.toInt64 0 18 = b01 (wi a 0 (nI 18)) := m_in a 0 18
  have g2 : f4_in b.toInt64 0 10 = b01 (wi b 0 (nI 10)) := m_in b 0 10
  have g3 : f4_in c.toInt64 0 1 = b01 (wi c 0 (nI 1)) := m_in c 0 1
  have bey : EQ ((f3_finding (-1000001 : Int32) x).bind fun q => match q with | (v2, z1) => some ((v2.toInt64), z1)) ((f4_finds (0 : Int32) m).bind fun q => match q with | (v2, z1) => some ((v2.toInt64), z1)) := by
    rw [bd (x_find0 x), bd (m_find0 m)]
    exact EQs (REL_fnd h (by omega)) _
  rw [e1, e2, e3, g1, g2, g3]
  rcases cls0 a 18 (by omega) with e | ⟨n, hn, e⟩
  · simp only [e, b01_f, n00, if_true]
    exact bey
  · subst e
    simp only [wi_t hn (by omega), b01_t, n10, if_false]
    rcases cls0 b 10 (by omega) with e | ⟨k, hk, e⟩
    · simp only [e, b01_f, n00, if_true]
      exact bey
    · subst e
      simp only [wi_t hk (by omega), b01_t, n10, if_false]
      rcases cls0 c 1 (by omega) with e | ⟨w, hw, e⟩
      · simp only [e, b01_f, n00, if_true]
        exact bey
      · subst e
        simp only [wi_t hw (by omega), b01_t, n10, if_false]
        obtain ⟨q1, q2⟩ := od_all n (by omega) k (by omega) w (by omega)
        rw [od_b _ _ _ x, od_b _ _ _ x, od_m _ _ _ _ _ _ _ m]
        have ef : (if nI w = 0 then (f3_odds_b50 (nI n) (nI k) ((10 : Int32) - nI k) x00).map (fun q => (q.1, x)) else (f3_odds_b50 (nI n) (nI k) (10 : Int32) x00).map (fun q => (q.1, x))) = (gX n k w).map (fun v => (v, x)) := by
          unfold gX
          split <;> rw [Option.map_map] <;> rfl
        have eg : (f4_odds_L50 fu (nI n) (nI k) (nI w) 1 1 0 x00).map (fun q => (q.1, m)) = (gM n k w).map (fun v => (v, m)) := by
          unfold gM
          rw [Option.map_map]
          rfl
        rw [ef, eg, ← q1]
        cases hg : gX n k w with
        | none => rw [hg] at q2; exact absurd q2 (by decide)
        | some v => exact EQs h v
