-- changes that no call shows
def VI (m m' : St) : Prop := MR m m' ∧ ∀ i, i < 119 → m' 26 i = m 26 i
theorem VI_refl (m : St) : VI m m := ⟨MR_refl m, fun _ _ => rfl⟩
theorem VI_trans {a b c : St} (h : VI a b) (g : VI b c) : VI a c := ⟨MR_trans h.1 g.1, fun i hi => (g.2 i hi).trans (h.2 i hi)⟩
theorem VI_mi {m m' : St} (h : MI m m') : VI m m' := ⟨⟨fun k a b c _ _ => h.2.1 k a b c, h.2.2 3 (by omega) (by omega), h.2.2 15 (by omega) (by omega)⟩, h.1⟩
theorem VI_25 {m : St} {i : Nat} {v : Int32} (h : i ≠ 3 ∧ i ≠ 15) : VI m (up m 25 i v) := ⟨⟨fun k a _ _ _ _ => up_cell _ _ _ a, up_ne2 _ _ (by omega), up_ne2 _ _ (by omega)⟩, fun _ _ => up_ne1 _ _ _ _ (by decide)⟩
theorem REL_vi {x m x' m' : St} (h : REL x m) (hx : XI x x') (hm : VI m m') : REL x' m' := REL_fr h hx hm.1 hm.2
theorem VI_tm {m m' : St} {τ : Nat → Nat} (h : VI m m') (hM : TM (m 26) τ) : TM (m' 26) τ := TM_fr hM h.2
-- the good places
def goodB (τ : Nat → Nat) (w : Nat) (by' no : Int32) (c : Nat) : Bool := decide ((nI (sGoes τ w c) &&& by') = by') && decide ((nI (sGoes τ w c) &&& no) = 0)
theorem x_good_L {x0 : St} {τ : Nat → Nat} {w : Nat} (hX0 : TX x0 0 τ) (hI : IT τ) (hw : w < 8) (b n : Int32) : ∀ (d c F : Nat) (x : St), d + 1 ≤ F → c + d = 16 → XI x0 x → ∃ x', f3_goodPlaces_L6 F (nI w) b n (nI (setN (goodB τ w b n) c)) (nI c) x = some (nI (setN (goodB τ w b n) 16), x') ∧ XI x0 x'
  | d, c, 0, x, hF, hc, hx => by omega
  | 0, c, F + 1, x, hF, hc, hx => by
    have hc' : c = 16 := hc
    rw [f3_goodPlaces_L6_s, nl16, i_le_t (by omega) (by omega), hc']
    exact ⟨x, rfl, hx⟩
  | d + 1, c, F + 1, x, hF, hc, hx => by
    have hX : TX x 0 τ := TX_fr hX0 (hx _ (by omega)) (hx _ (by omega)) (hx _ (by omega))
    have hJ : IT (upN τ (85 + 3 * w + 1) c) := IT_upq hI hw (by omega) (by simp; omega)
    obtain ⟨x1, q1, q2, q3⟩ := x_lends hX
    have q4 := TX_upq q2 (w := w) (k := 1) c hw (by omega)
    obtain ⟨x2, r1, r2, r3⟩ := x_way (n := 100) (w := w) hw (by omega) q4 hJ
    rw [qu_upe] at r1
    have hx2 : XI x0 x2 := XI_trans (XI_trans (XI_trans hx q3) (fun a ha => up_cell _ _ _ (by omega))) (XI_roll r3)
    rw [f3_goodPlaces_L6_s, nl16, i_le_f (by omega) (by omega), bd q1, bd (x_setQ1 hw), nl100, bd r1]
    show ∃ x', (if (nI (sGoes τ w c) &&& b) = b then (if (nI (sGoes τ w c) &&& n) = 0 then f3_goodPlaces_b71 (f3_goodPlaces_L6 F) (nI w) b n (nI (setN (goodB τ w b n) c) ||| ((1 : Int32) <<< (nI c &&& 31))) (nI c) x2 else f3_goodPlaces_b71 (f3_goodPlaces_L6 F) (nI w) b n (nI (setN (goodB τ w b n) c)) (nI c) x2) else f3_goodPlaces_b71 (f3_goodPlaces_L6 F) (nI w) b n (nI (setN (goodB τ w b n) c)) (nI c) x2) = _ ∧ _
    unfold f3_goodPlaces_b71
    rw [i_shl _ (by omega), i_or, show nI c + 1 = nI (c + 1) by rw [nl1, nI_add]]
    obtain ⟨x', t1, t2⟩ := x_good_L hX0 hI hw b n d (c + 1) F x2 (by omega) (by omega) hx2
    unfold setN at t1
    refine ⟨x', ?_, t2⟩
    by_cases e1 : (nI (sGoes τ w c) &&& b) = b
    · by_cases e2 : (nI (sGoes τ w c) &&& n) = 0
      · rw [if_pos e1, if_pos e2]
        rw [if_pos (by unfold goodB; simp [e1, e2])] at t1
        exact t1
      · rw [if_pos e1, if_neg e2]
        rw [if_neg (by unfold goodB; simp [e2]), Nat.or_zero] at t1
        exact t1
    · rw [if_neg e1]
      rw [if_neg (by unfold goodB; simp [e1]), Nat.or_zero] at t1
      exact t1
theorem x_good {x : St} {τ : Nat → Nat} {w : Nat} (hX : TX x 0 τ) (hI : IT τ) (hw : w < 8) (b n : Int32) : ∃ x', f3_goodPlaces (nI w) b n x = some (nI (setN (goodB τ w b n) 16), x') ∧ XI x x' :=
  x_good_L hX hI hw b n 16 0 fu x (by rw [fu_eq]; omega) (by omega) (XI_refl x)
def cntB (P : Nat → Bool) : Nat → Nat := sumN (fun c => if P c then 1 else 0)
def bestB (P : Nat → Bool) (ht : Nat → Nat) : Nat → Option Nat
  | 0 => none
  | k + 1 => if P k then (match bestB P ht k with | none => some k | some j => if ht j < ht k then some k else some j) else bestB P ht k
theorem best_s (P : Nat → Bool) (ht : Nat → Nat) (k : Nat) : bestB P ht (k + 1) = if P k then (match bestB P ht k with | none => some k | some j => if ht j < ht k then some k else some j) else bestB P ht k := rfl
theorem set_s (P : Nat → Bool) (k : Nat) : setN P (k + 1) = setN P k ||| (if P k then 2 ^ k else 0) := rfl
theorem best_lt {P : Nat → Bool} {ht : Nat → Nat} : ∀ (k : Nat) {j : Nat}, bestB P ht k = some j → j < k
  | 0, j, h => by unfold bestB at h; exact absurd h (by simp)
  | k + 1, j, h => by
    unfold bestB at h
    split at h
    · split at h
      · simp at h; omega
      · rename_i j' e
        have := best_lt k e
        split at h <;> simp at h <;> omega
    · have := best_lt k h
      omega
def encM (o : Option Nat) : Int32 := match o with | none => -1 | some j => nI j
theorem m_find_L {m0 : St} {τ : Nat → Nat} {w : Nat} (hM0 : TM (m0 26) τ) (hI : IT τ) (hw : w < τ 1) (b n : Int32) : ∀ (d c F : Nat) (m : St), d + 1 ≤ F → c + d = 16 → VI m0 m → m 25 8 = nI (cntB (goodB τ w b n) c) → m 25 7 = encM (bestB (goodB τ w b n) (fun c => tr τ c 0) c) → ∃ m', f4_findPlaces_L13 F (nI w) b n (nI c) m = some m' ∧ VI m0 m' ∧ m' 25 8 = nI (cntB (goodB τ w b n) 16) ∧ m' 25 7 = encM (bestB (goodB τ w b n) (fun c => tr τ c 0) 16)
  | d, c, 0, m, hF, hc, hm, h8, h7 => by omega
  | 0, c, F + 1, m, hF, hc, hm, h8, h7 => by
    have hc' : c = 16 := hc
    rw [f4_findPlaces_L13_s, nl16, i_le_t (by omega) (by omega)]
    rw [hc'] at h8 h7
    exact ⟨m, rfl, hm, h8, h7⟩
  | d + 1, c, F + 1, m, hF, hc, hm, h8, h7 => by
    have hM := VI_tm hm hM0
    obtain ⟨m1, p1, p2⟩ := m_goes hM hI hw (by omega : c < 16)
    have hm1 := VI_trans hm (VI_mi p1)
    have k8 : m1 25 8 = nI (cntB (goodB τ w b n) c) := (p1.2.2 8 (by omega) (by omega)).trans h8
    have k7 : m1 25 7 = encM (bestB (goodB τ w b n) (fun c => tr τ c 0) c) := (p1.2.2 7 (by omega) (by omega)).trans h7
    rw [f4_findPlaces_L13_s, nl16, i_le_f (by omega) (by omega), bd p2]
    have skip : goodB τ w b n c = false → ∃ m', f4_findPlaces_b93 (f4_findPlaces_L13 F) (nI w) b n (nI c) m1 = some m' ∧ VI m0 m' ∧ m' 25 8 = nI (cntB (goodB τ w b n) 16) ∧ m' 25 7 = encM (bestB (goodB τ w b n) (fun c => tr τ c 0) 16) := by
      intro e
      unfold f4_findPlaces_b93
      rw [nl1, nI_add]
      refine m_find_L hM0 hI hw b n d (c + 1) F m1 (by omega) (by omega) hm1 ?_ ?_
      · rw [k8]
        show nI _ = nI (cntB (goodB τ w b n) c + (if goodB τ w b n c then 1 else 0))
        rw [e]
        rfl
      · rw [k7, best_s, e]
        rfl
    show ∃ m', (if (nI (sGoes τ w c) &&& b) = b then (if (nI (sGoes τ w c) &&& n) = 0 then _ else f4_findPlaces_b93 (f4_findPlaces_L13 F) (nI w) b n (nI c) m1) else f4_findPlaces_b93 (f4_findPlaces_L13 F) (nI w) b n (nI c) m1) = _ ∧ _
    by_cases e1 : (nI (sGoes τ w c) &&& b) = b
    · by_cases e2 : (nI (sGoes τ w c) &&& n) = 0
      · have eg : goodB τ w b n c = true := by unfold goodB; simp [e1, e2]
        rw [if_pos e1, if_pos e2]
        have u7 : up m1 25 8 (m1 25 8 + 1) 25 7 = m1 25 7 := up_ne2 _ _ (by decide)
        have hM2 : TM (up m1 25 8 (m1 25 8 + 1) 26) τ := by
          rw [up_cell _ _ _ (by decide)]
          exact VI_tm hm1 hM0
        have fin : ∀ o : Option Nat, bestB (goodB τ w b n) (fun c => tr τ c 0) (c + 1) = o → ∃ m', f4_findPlaces_b90 (f4_findPlaces_L13 F) (nI w) b n (nI c) (encM o) (up m1 25 8 (m1 25 8 + 1)) = some m' ∧ VI m0 m' ∧ m' 25 8 = nI (cntB (goodB τ w b n) 16) ∧ m' 25 7 = encM (bestB (goodB τ w b n) (fun c => tr τ c 0) 16) := by
          intro o ho
          unfold f4_findPlaces_b90 f4_findPlaces_b93
          rw [show nI c + 1 = nI (c + 1) by rw [nl1, nI_add]]
          refine m_find_L hM0 hI hw b n d (c + 1) F _ (by omega) (by omega) (VI_trans hm1 (VI_trans (VI_25 (by omega)) (VI_25 (by omega)))) ?_ ?_
          · rw [up_ne2 _ _ (by decide), up_eq, k8, nl1, nI_add]
            show nI _ = nI (cntB (goodB τ w b n) c + (if goodB τ w b n c then 1 else 0))
            rw [eg]
            rfl
          · rw [up_eq, ho]
        have hb : bestB (goodB τ w b n) (fun c => tr τ c 0) (c + 1) = (match bestB (goodB τ w b n) (fun c => tr τ c 0) c with | none => some c | some j => if tr τ j 0 < tr τ c 0 then some c else some j) := by
          rw [best_s, eg]
          rfl
        rw [u7, k7]
        unfold f4_findPlaces_b81
        cases ho : bestB (goodB τ w b n) (fun c => tr τ c 0) c with
        | none =>
          rw [ho] at hb
          rw [if_pos (by decide : encM none < 0)]
          exact fin (some c) hb
        | some j =>
          rw [ho] at hb
          have hj := best_lt c ho
          have t1 := it_t hI (c := j) (by omega)
          have t2 := it_t hI (c := c) (by omega)
          rw [if_neg (show ¬ encM (some j) < 0 by unfold encM; rw [nl0]; exact nI_nlt (by omega) (by omega)), bd (m_part0 hM2 (by omega))]
          show ∃ m', ((f4_part (nI j) (0 : Int32) (up m1 25 8 (m1 25 8 + 1))).bind fun v4 => _) = _ ∧ _
          rw [bd (m_part0 hM2 (by omega : j < 16))]
          by_cases e3 : tr τ j 0 < tr τ c 0
          · rw [i_le_f e3 (by omega)]
            exact fin (some c) (by rw [hb]; simp [e3])
          · rw [i_le_t (by omega) (by omega)]
            exact fin (some j) (by rw [hb]; simp [e3])
      · rw [if_pos e1, if_neg e2]
        exact skip (by unfold goodB; simp [e2])
    · rw [if_neg e1]
      exact skip (by unfold goodB; simp [e1])
theorem m_find {m : St} {τ : Nat → Nat} {w : Nat} (hM : TM (m 26) τ) (hI : IT τ) (hw : w < τ 1) (b n : Int32) : ∃ m', f4_findPlaces (nI w) b n m = some m' ∧ VI m m' ∧ m' 25 8 = nI (cntB (goodB τ w b n) 16) ∧ m' 25 7 = encM (bestB (goodB τ w b n) (fun c => tr τ c 0) 16) := by
  refine m_find_L hM hI hw b n 16 0 fu _ (by rw [fu_eq]; omega) (by omega) (VI_trans (VI_25 (by omega)) (VI_25 (by omega))) ?_ ?_
  · rw [up_eq]; rfl
  · rw [up_ne2 _ _ (by decide), up_eq]; rfl
-- bits
theorem i_smod : ∀ c, c < 16 → ((nI c &&& 31).toBitVec.smod 32).toNat = c := by decide
theorem i_bit {s c : Nat} (hs : s < 2147483648) (hc : c < 16) : ((nI s >>> (nI c &&& 31)) &&& (1 : Int32)) = nI (s / 2 ^ c % 2) := by
  have h1 : s / 2 ^ c ≤ s := Nat.div_le_self _ _
  rw [pk_shrN (by omega) _ c (i_smod c hc), pk_andN (by omega) 1 (by decide)]
theorem set_bit (P : Nat → Bool) : ∀ (k c : Nat), setN P k / 2 ^ c % 2 = if c < k ∧ P c = true then 1 else 0
  | 0, c => by unfold setN; simp
  | k + 1, c => by
    have ih := set_bit P k c
    have e : setN P (k + 1) / 2 ^ c % 2 = if c = k then (if P k then 1 else 0) else setN P k / 2 ^ c % 2 := by
      have hlt := set_lt P k
      have hs : setN P (k + 1) = setN P k + (if P k then 2 ^ k else 0) := by
        rw [set_s]
        by_cases hp : P k = true
        · rw [if_pos hp]
          have := Nat.two_pow_add_eq_or_of_lt hlt 1
          rw [Nat.mul_one] at this
          rw [Nat.or_comm, ← this, Nat.add_comm]
        · rw [if_neg hp, Nat.or_zero, Nat.add_zero]
      rw [hs]
      by_cases hp : P k = true
      · rw [if_pos hp]
        by_cases h1 : c = k
        · subst h1
          rw [if_pos rfl, if_pos hp, Nat.add_div_right _ (Nat.two_pow_pos c), Nat.div_eq_of_lt hlt]
        · rw [if_neg h1]
          rcases Nat.lt_or_ge c k with h2 | h2
          · have e2 : 2 ^ k = 2 ^ c * (2 * 2 ^ (k - c - 1)) := by
              rw [← Nat.mul_assoc, ← Nat.pow_succ, ← Nat.pow_add]
              congr 1
              omega
            rw [e2, Nat.add_mul_div_left _ _ (Nat.two_pow_pos c), Nat.add_mul_mod_self_left]
          · have e2 : 2 ^ (k + 1) ≤ 2 ^ c := Nat.pow_le_pow_right (by omega) (by omega)
            have e3 : 2 ^ (k + 1) = 2 ^ k + 2 ^ k := by rw [Nat.pow_succ]; omega
            rw [Nat.div_eq_of_lt (by omega), Nat.div_eq_of_lt (by omega)]
      · rw [if_neg hp, if_neg hp, Nat.add_zero]
        by_cases h1 : c = k
        · subst h1
          rw [if_pos rfl, Nat.div_eq_of_lt hlt]
        · rw [if_neg h1]
    rw [e]
    by_cases h1 : c = k
    · subst h1
      rw [if_pos rfl]
      by_cases hp : P c = true
      · rw [if_pos hp, if_pos ⟨by omega, hp⟩]
      · rw [if_neg hp, if_neg (fun z => hp z.2)]
    · rw [if_neg h1, ih]
      by_cases hp : c < k ∧ P c = true
      · rw [if_pos hp, if_pos ⟨by omega, hp.2⟩]
      · rw [if_neg hp, if_neg (fun z => hp ⟨by omega, z.2⟩)]
theorem isIn_eq {s c : Nat} (hs : s < 2147483648) (hc : c < 16) : f3_isIn (nI s) (nI c) = b01 (decide (s / 2 ^ c % 2 = 1)) := by
  unfold f3_isIn b01
  rw [i_bit hs hc, nl0]
  rcases (show s / 2 ^ c % 2 = 0 ∨ s / 2 ^ c % 2 = 1 by omega) with e | e
  · rw [e]; rfl
  · rw [e]; rfl
