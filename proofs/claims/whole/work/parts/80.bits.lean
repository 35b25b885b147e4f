-- the number of bits
def popN (n : Nat) : Nat := 0 + n / 1 % 2 + n / 2 % 2 + n / 4 % 2 + n / 8 % 2 + n / 16 % 2 + n / 32 % 2 + n / 64 % 2 + n / 128 % 2 + n / 256 % 2 + n / 512 % 2 + n / 1024 % 2 + n / 2048 % 2 + n / 4096 % 2 + n / 8192 % 2 + n / 16384 % 2 + n / 32768 % 2
def chkN (t : Nat → Bool) : Nat → Nat → Bool
  | 0, n => t n
  | d + 1, n => chkN t d (2 * n) && chkN t d (2 * n + 1)
theorem chk_all {t : Nat → Bool} : ∀ (d n : Nat), chkN t d n = true → ∀ m, m < 2 ^ d → t (n * 2 ^ d + m) = true
  | 0, n, h, m, hm => by
    have : m = 0 := by omega
    subst this
    simpa [chkN] using h
  | d + 1, n, h, m, hm => by
    unfold chkN at h
    rw [Bool.and_eq_true] at h
    have e : 2 ^ (d + 1) = 2 * 2 ^ d := by rw [Nat.pow_succ]; omega
    rcases Nat.lt_or_ge m (2 ^ d) with g | g
    · have := chk_all d (2 * n) h.1 m g
      rw [show n * 2 ^ (d + 1) + m = 2 * n * 2 ^ d + m by rw [e, ← Nat.mul_assoc, Nat.mul_comm n 2]]
      exact this
    · have := chk_all d (2 * n + 1) h.2 (m - 2 ^ d) (by omega)
      rw [show n * 2 ^ (d + 1) + m = (2 * n + 1) * 2 ^ d + (m - 2 ^ d) by rw [e, Nat.add_mul, ← Nat.mul_assoc, Nat.mul_comm n 2]; omega]
      exact this
def bcN (n : Nat) : Nat :=
  let a := n - (n / 2 &&& 1431655765)
  let b := (a &&& 858993459) + (a / 4 &&& 858993459)
  let c := (b + b / 16) &&& 252645135
  let e := c + c / 256
  (e + e / 65536) &&& 63
theorem bc_chk : chkN (fun n => bcN n == popN n && Nat.ble (n / 2 &&& 1431655765) n) 16 0 = true := by decide +kernel
theorem bc_pop {n : Nat} (h : n < 65536) : bcN n = popN n ∧ (n / 2 &&& 1431655765) ≤ n := by
  have := chk_all 16 0 bc_chk n h
  rw [Nat.zero_mul, Nat.zero_add, Bool.and_eq_true] at this
  exact ⟨by simpa using this.1, Nat.le_of_ble_eq_true this.2⟩
theorem i_ush {n k : Nat} (hn : n < 2 ^ 32) (s : Int32) (hs : ((s.toUInt32 &&& Int32.toUInt32 31).toBitVec % 32).toNat = k) : ((nI n).toUInt32 >>> (s.toUInt32 &&& Int32.toUInt32 31)).toInt32 = nI (n / 2 ^ k) := pk_ushrN hn s k hs
theorem i_and (a b : Nat) : nI a &&& nI b = nI (a &&& b) := by
  apply Int32.toBitVec_inj.1
  show BitVec.ofNat 32 a &&& BitVec.ofNat 32 b = BitVec.ofNat 32 (a &&& b)
  apply BitVec.eq_of_getLsbD_eq
  intro i hi
  simp [hi]
theorem x_bits {n : Nat} (h : n < 65536) : fJ6_bitCount_0f7a4 (nI n) = nI (popN n) := by
  obtain ⟨h1, h2⟩ := bc_pop h
  rw [← h1]
  have ea : nI n - ((((nI n).toUInt32 >>> ((1 : Int32).toUInt32 &&& Int32.toUInt32 31)).toInt32) &&& (1431655765 : Int32)) = nI (n - (n / 2 &&& 1431655765)) := by
    rw [i_ush (by omega) 1 (k := 1) (by decide), show (1431655765 : Int32) = nI 1431655765 by decide, i_and, pk_sub h2]
  unfold fJ6_bitCount_0f7a4 bcN
  rw [ea]
  generalize ha : n - (n / 2 &&& 1431655765) = a
  have la : a < 65536 := by omega
  have h5 : (858993459 : Int32) = nI 858993459 := by decide
  have eb : (nI a &&& (858993459 : Int32)) + ((((nI a).toUInt32 >>> ((2 : Int32).toUInt32 &&& Int32.toUInt32 31)).toInt32) &&& (858993459 : Int32)) = nI ((a &&& 858993459) + (a / 4 &&& 858993459)) := by
    rw [i_ush (by omega) 2 (k := 2) (by decide), h5, i_and, i_and, nI_add]
  rw [eb]
  have lb : (a &&& 858993459) + (a / 4 &&& 858993459) < 131072 := by
    have g1 : a &&& 858993459 ≤ a := Nat.and_le_left
    have g2 : a / 4 &&& 858993459 ≤ a / 4 := Nat.and_le_left
    omega
  generalize hb : (a &&& 858993459) + (a / 4 &&& 858993459) = b at lb ⊢
  have ec : (nI b + (((nI b).toUInt32 >>> ((4 : Int32).toUInt32 &&& Int32.toUInt32 31)).toInt32)) &&& (252645135 : Int32) = nI ((b + b / 16) &&& 252645135) := by
    rw [i_ush (by omega) 4 (k := 4) (by decide), show (252645135 : Int32) = nI 252645135 by decide, nI_add, i_and]
  rw [ec]
  have lc : (b + b / 16) &&& 252645135 < 262144 := by
    have g1 : (b + b / 16) &&& 252645135 ≤ b + b / 16 := Nat.and_le_left
    omega
  generalize hc : (b + b / 16) &&& 252645135 = c at lc ⊢
  have ee : nI c + (((nI c).toUInt32 >>> ((8 : Int32).toUInt32 &&& Int32.toUInt32 31)).toInt32) = nI (c + c / 256) := by
    rw [i_ush (by omega) 8 (k := 8) (by decide), nI_add]
  rw [ee]
  generalize he : c + c / 256 = e
  rw [i_ush (by omega) 16 (k := 16) (by decide), show (63 : Int32) = nI 63 by decide, nI_add, i_and]
  subst he
  subst hc
  subst hb
  subst ha
  rfl
theorem pop_set (P : Nat → Bool) : popN (setN P 16) = cntB P 16 := by
  have hb : ∀ c, c < 16 → setN P 16 / 2 ^ c % 2 = if P c then 1 else 0 := by
    intro c hc
    rw [set_bit]
    by_cases hp : P c = true
    · rw [if_pos ⟨hc, hp⟩, if_pos hp]
    · rw [if_neg (fun z => hp z.2), if_neg hp]
  have hc : cntB P 16 = 0 + (if P 0 then 1 else 0) + (if P 1 then 1 else 0) + (if P 2 then 1 else 0) + (if P 3 then 1 else 0) + (if P 4 then 1 else 0) + (if P 5 then 1 else 0) + (if P 6 then 1 else 0) + (if P 7 then 1 else 0) + (if P 8 then 1 else 0) + (if P 9 then 1 else 0) + (if P 10 then 1 else 0) + (if P 11 then 1 else 0) + (if P 12 then 1 else 0) + (if P 13 then 1 else 0) + (if P 14 then 1 else 0) + (if P 15 then 1 else 0) := rfl
  generalize setN P 16 = S at hb ⊢
  have k0 : S / 1 % 2 = if P 0 then 1 else 0 := hb 0 (by omega)
  have k1 : S / 2 % 2 = if P 1 then 1 else 0 := hb 1 (by omega)
  have k2 : S / 4 % 2 = if P 2 then 1 else 0 := hb 2 (by omega)
  have k3 : S / 8 % 2 = if P 3 then 1 else 0 := hb 3 (by omega)
  have k4 : S / 16 % 2 = if P 4 then 1 else 0 := hb 4 (by omega)
  have k5 : S / 32 % 2 = if P 5 then 1 else 0 := hb 5 (by omega)
  have k6 : S / 64 % 2 = if P 6 then 1 else 0 := hb 6 (by omega)
  have k7 : S / 128 % 2 = if P 7 then 1 else 0 := hb 7 (by omega)
  have k8 : S / 256 % 2 = if P 8 then 1 else 0 := hb 8 (by omega)
  have k9 : S / 512 % 2 = if P 9 then 1 else 0 := hb 9 (by omega)
  have k10 : S / 1024 % 2 = if P 10 then 1 else 0 := hb 10 (by omega)
  have k11 : S / 2048 % 2 = if P 11 then 1 else 0 := hb 11 (by omega)
  have k12 : S / 4096 % 2 = if P 12 then 1 else 0 := hb 12 (by omega)
  have k13 : S / 8192 % 2 = if P 13 then 1 else 0 := hb 13 (by omega)
  have k14 : S / 16384 % 2 = if P 14 then 1 else 0 := hb 14 (by omega)
  have k15 : S / 32768 % 2 = if P 15 then 1 else 0 := hb 15 (by omega)
  unfold popN
  rw [hc, k0, k1, k2, k3, k4, k5, k6, k7, k8, k9, k10, k11, k12, k13, k14, k15]
theorem R_places {x m : St} (h : REL x m) (a b n : Int32) : EQ (f3_places a b n x) (f4_places a b n m) := by
  have hh := h
  obtain ⟨⟨τ, hI, hM, hX, ⟨h9, h0, h6⟩, hz, hs⟩, hR⟩ := h
  have h8 := hI.1
  unfold f3_places f4_places f4_arePlaces f3_places_b25
  rw [x_hasW hX, m_isW hM hI a, x_isSet, x_isSet, m_isSet, m_isSet, Option.bind_some]
  rcases clsW hI a with e | ⟨w, hw, e⟩
  · simp only [e, b01_f, n00, if_true, Option.bind_some]
    exact EQf0 hh (fun _ _ => rfl) (fun _ _ => rfl)
  · subst e
    simp only [isW_t hI hw, b01_t, n10, if_false]
    cases wi b 0 (nI 65535)
    · simp only [b01_f, n00, if_true, Option.bind_some]
      exact EQf0 hh (fun _ _ => rfl) (fun _ _ => rfl)
    · simp only [b01_t, n10, if_false]
      cases wi n 0 (nI 65535)
      · simp only [b01_f, n00, if_true, Option.bind_some]
        exact EQf0 hh (fun _ _ => rfl) (fun _ _ => rfl)
      · simp only [b01_t, n10, if_false, Option.bind_some]
        obtain ⟨x', q1, q2⟩ := x_good (w := w) hX hI (by omega) b n
        obtain ⟨m', p1, p2, p3, p4⟩ := m_find hM hI hw b n
        have hl := set_lt (goodB τ w b n) 16
        rw [bd q1, bd p1, p3]
        show EQ (some (fJ6_bitCount_0f7a4 (nI (setN (goodB τ w b n) 16)), x')) _
        rw [x_bits (by omega), pop_set]
        exact EQs (REL_vi hh q2 p2) _
def encX (o : Option Nat) : Int32 := match o with | none => -1000004 | some j => nI j
def encH (ht : Nat → Nat) (o : Option Nat) : Int32 := match o with | none => -1 | some j => nI (ht j)
theorem x_where_L {x : St} {τ : Nat → Nat} (hX : TX x 0 τ) (hI : IT τ) (P : Nat → Bool) : ∀ (d c F : Nat), d + 1 ≤ F → c + d = 16 → f3_where_L51 F (nI (setN P 16)) (encX (bestB P (fun c => tr τ c 0) c)) (encH (fun c => tr τ c 0) (bestB P (fun c => tr τ c 0) c)) (nI c) x = (if encX (bestB P (fun c => tr τ c 0) 16) = (-1000004 : Int32) then ((f3_finding (-1000004 : Int32) x).bind fun q => match q with | (v6, z5) => some (v6, z5)) else some (encX (bestB P (fun c => tr τ c 0) 16), x))
  | d, c, 0, hF, hc => by omega
  | 0, c, F + 1, hF, hc => by
    have hc' : c = 16 := hc
    rw [f3_where_L51_s, nl16, i_le_t (by omega) (by omega), hc']
  | d + 1, c, F + 1, hF, hc => by
    have hl := set_lt P 16
    have h1 := it_t hI (c := c) (by omega)
    have ih := x_where_L hX hI P d (c + 1) F (by omega) (by omega)
    rw [f3_where_L51_s, nl16, i_le_f (by omega) (by omega), isIn_eq (by omega) (by omega), set_bit, b01_0]
    unfold f3_where_b99
    rw [show nI c + 1 = nI (c + 1) by rw [nl1, nI_add]]
    by_cases hp : P c = true
    · rw [if_pos (show c < 16 ∧ P c = true from ⟨by omega, hp⟩), if_pos (by rfl), bd (x_part0 hX (by omega)), bd (x_part0 hX (by omega))]
      have hb : bestB P (fun c => tr τ c 0) (c + 1) = (match bestB P (fun c => tr τ c 0) c with | none => some c | some j => if tr τ j 0 < tr τ c 0 then some c else some j) := by
        rw [best_s, hp]
        rfl
      rw [← ih, hb]
      cases ho : bestB P (fun c => tr τ c 0) c with
      | none =>
        have e1 : ¬ nI (tr τ c 0) ≤ encH (fun c => tr τ c 0) none := by
          unfold encH
          intro z
          have : (0 : Int32) ≤ nI (tr τ c 0) := by rw [nl0]; exact nI_le (by omega) (by omega)
          exact absurd (Int32.le_trans this z : (0 : Int32) ≤ -1) (by decide)
        rw [if_neg e1]
        rfl
      | some j =>
        have hj := best_lt c ho
        have h2 := it_t hI (c := j) (by omega)
        show (if nI (tr τ c 0) ≤ nI (tr τ j 0) then _ else _) = _
        by_cases e3 : tr τ j 0 < tr τ c 0
        · rw [i_le_f e3 (by omega)]
          simp only [e3, if_true]
          rfl
        · rw [i_le_t (by omega) (by omega)]
          simp only [e3, if_false]
    · rw [if_neg (show ¬ (c < 16 ∧ P c = true) from fun z => hp z.2), if_neg (by decide)]
      have hb : bestB P (fun c => tr τ c 0) (c + 1) = bestB P (fun c => tr τ c 0) c := by
        rw [best_s, if_neg hp]
      rw [← ih, hb]
theorem R_where {x m : St} (h : REL x m) (a b n : Int32) : EQ (f3_where a b n x) (f4_where a b n m) := by
  have hh := h
  obtain ⟨⟨τ, hI, hM, hX, ⟨h9, h0, h6⟩, hz, hs⟩, hR⟩ := h
  have h8 := hI.1
  unfold f3_where f4_where f4_arePlaces f3_where_b25
  rw [x_hasW hX, m_isW hM hI a, x_isSet, x_isSet, m_isSet, m_isSet, Option.bind_some]
  rcases clsW hI a with e | ⟨w, hw, e⟩
  · simp only [e, b01_f, n00, if_true, Option.bind_some]
    exact EQf0 hh (fun _ _ => rfl) (fun _ _ => rfl)
  · subst e
    simp only [isW_t hI hw, b01_t, n10, if_false]
    cases wi b 0 (nI 65535)
    · simp only [b01_f, n00, if_true, Option.bind_some]
      exact EQf0 hh (fun _ _ => rfl) (fun _ _ => rfl)
    · simp only [b01_t, n10, if_false]
      cases wi n 0 (nI 65535)
      · simp only [b01_f, n00, if_true, Option.bind_some]
        exact EQf0 hh (fun _ _ => rfl) (fun _ _ => rfl)
      · simp only [b01_t, n10, if_false, Option.bind_some]
        obtain ⟨x', q1, q2⟩ := x_good (w := w) hX hI (by omega) b n
        obtain ⟨m', p1, p2, p3, p4⟩ := m_find hM hI hw b n
        have hX' : TX x' 0 τ := TX_fr hX (q2 _ (by omega)) (q2 _ (by omega)) (q2 _ (by omega))
        have hr := REL_vi hh q2 p2
        have hw1 := x_where_L hX' hI (goodB τ w b n) 16 0 fu (by rw [fu_eq]; omega) (by omega)
        have hw2 : f3_where_L51 fu (nI (setN (goodB τ w b n) 16)) (-1000004 : Int32) (-1 : Int32) (0 : Int32) x' = _ := hw1
        rw [bd q1, bd p1, p4]
        show EQ (f3_where_L51 fu (nI (setN (goodB τ w b n) 16)) (-1000004 : Int32) (-1 : Int32) (0 : Int32) x') _
        rw [hw2]
        cases ho : bestB (goodB τ w b n) (fun c => tr τ c 0) 16 with
        | none =>
          rw [if_pos (show encX none = -1000004 from rfl), if_neg (by decide : ¬ (0 : Int32) ≤ encM none)]
          exact EQf3 hr (fun _ _ => rfl) (fun _ _ => rfl)
        | some j =>
          have hj := best_lt 16 ho
          have e0 : (0 : Int32) ≤ nI j := by rw [nl0]; exact nI_le (by omega) (by omega)
          have e3 : ¬ encX (some j) = -1000004 := by
            intro z
            have z' : nI j = -1000004 := z
            rw [z'] at e0
            exact absurd e0 (by decide)
          rw [if_neg e3, if_pos (show (0 : Int32) ≤ encM (some j) from e0)]
          exact EQs hr _
