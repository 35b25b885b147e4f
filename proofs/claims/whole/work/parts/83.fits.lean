-- a sheet's number
theorem clsS (a : Int32) : ((a < 0 ∨ 4 ≤ a.toNatClampNeg) ∧ wi a 0 (nI 3) = false) ∨ ∃ j, j < 4 ∧ a = nI j := by
  rcases cls0 a 3 (by omega) with e | ⟨j, hj, e⟩
  · left
    refine ⟨?_, e⟩
    by_cases h : a < 0 ∨ 4 ≤ a.toNatClampNeg
    · exact h
    · exfalso
      have h1 : ¬ a < 0 := fun z => h (Or.inl z)
      have h2 : ¬ 4 ≤ a.toNatClampNeg := fun z => h (Or.inr z)
      have h3 : ¬ nI 4 ≤ a := by
        intro z
        have z1 := Int32.le_iff_toInt_le.mp z
        rw [nI_toInt (by omega)] at z1
        have z2 : (a.toNatClampNeg : Int) = a.toInt := by
          show ((a.toInt.toNat : Nat) : Int) = a.toInt
          exact Int.toNat_of_nonneg (by omega)
        omega
      obtain ⟨j, hj, e1, _⟩ := pk_mu (x := a) (L := 4) h1 h3 (by omega)
      rw [e1, wi_t (by omega) (by omega)] at e
      exact absurd e (by decide)
  · right
    exact ⟨j, by omega, e⟩
theorem nI4_not {j : Nat} (hj : j < 4) : ¬ (nI j < 0 ∨ 4 ≤ (nI j).toNatClampNeg) := nI_in hj (by omega)
def fitD (num : Nat → Int32) : Nat → Nat → (Nat → Nat) → Bool
  | 0, _, _ => true
  | d + 1, i, τ => (decide (num i = -1) || decide (num i = nI (sLoud (sMin τ) 15))) && fitD num d (i + 1) (sMin τ)
theorem x_fit_L {x0 : St} {j L : Nat} (hL : L ≤ 40) (hl : x0 (16 + 2 * j) 2 = nI L) (num : Nat → Int32) (hnum : ∀ i, i < 40 → x0 (17 + 2 * j) i = num i) : ∀ (d i F : Nat) (τ : Nat → Nat) (x : St), d + 1 ≤ F → i + d = L → TX x 2 τ → IT τ → XI x0 x → ∃ x', f3_pairFits_L45 F j (nI i) x = some (b01 (fitD num d i τ), x') ∧ XI x0 x'
  | d, i, 0, τ, x, hF, hi, hX, hI, hx => by omega
  | 0, i, F + 1, τ, x, hF, hi, hX, hI, hx => by
    rw [f3_pairFits_L45_s, hx (16 + 2 * j) (by omega), hl, i_le_t (by omega) (by omega)]
    exact ⟨x, rfl, hx⟩
  | d + 1, i, F + 1, τ, x, hF, hi, hX, hI, hx => by
    obtain ⟨x2, r1, r2, _, r4, _⟩ := x_pass (n := 1) (by omega) hX hI
    have r2' : TX x2 2 (sMin τ) := r2
    have hx2 := XI_trans hx (XI_pass r4)
    have hJ := sm_it hI
    have hn : f0_number j (nI i) x2 = some (num i) := by
      unfold f0_number
      rw [if_neg (show ¬ nI i < 0 by rw [nl0]; exact nI_nlt (by omega) (by omega)), if_neg (show ¬ (40 : Int32) ≤ nI i from nI_ge (b := 40) (by omega) (by omega)), if_neg (nI_in (by omega) (by omega)), nI_clamp (by omega), hx2 (17 + 2 * j) (by omega), hnum i (by omega)]
    rw [f3_pairFits_L45_s, hx (16 + 2 * j) (by omega), hl, i_le_f (by omega) (by omega), nl1, bd r1]
    show ∃ x', ((f0_number j (nI i) x2).bind fun v7 => if v7 = (-1 : Int32) then f3_pairFits_b95 (f3_pairFits_L45 F) j (nI i) x2 else (f2_loudAt 2 (15 : Int32) x2).bind fun v8 => if v7 = v8 then f3_pairFits_b95 (f3_pairFits_L45 F) j (nI i) x2 else some ((0 : Int32), x2)) = _ ∧ _
    rw [bd hn, nl15, bd (x_loud r2' hJ (by omega))]
    unfold f3_pairFits_b95 fitD
    rw [show nI i + 1 = nI (i + 1) by rw [nl1, nI_add]]
    have go := x_fit_L hL hl num hnum d (i + 1) F (sMin τ) x2 (by omega) (by omega) r2' hJ hx2
    by_cases e1 : num i = -1
    · rw [if_pos e1, show decide (num i = -1) = true by simp [e1], Bool.true_or, Bool.true_and]
      exact go
    · rw [if_neg e1]
      by_cases e2 : num i = nI (sLoud (sMin τ) 15)
      · rw [if_pos e2, show decide (num i = nI (sLoud (sMin τ) 15)) = true by simp [e2], Bool.or_true, Bool.true_and]
        exact go
      · rw [if_neg e2, show decide (num i = -1) = false by simp [e1], show decide (num i = nI (sLoud (sMin τ) 15)) = false by simp [e2]]
        exact ⟨x2, rfl, hx2⟩
theorem m_fit_L {m0 : St} {j L : Nat} (hj : j < 4) (hL : L ≤ 40) (hl : m0 33 j = nI L) (num : Nat → Int32) (hnum : ∀ i, i < 40 → m0 34 (40 * j + i) = num i) : ∀ (d i F : Nat) (τ : Nat → Nat) (m : St), d + 2 ≤ F → i + d = L → TM (m 26) τ → IT τ → TR m0 m → ∃ m', f4_isAsTold_L4 F (nI j) 1 (nI i) m = some (b01 (fitD num d i τ), m') ∧ TR m0 m'
  | d, i, 0, τ, m, hF, hi, hM, hI, hm => by omega
  | 0, i, F + 1, τ, m, hF, hi, hM, hI, hm => by
    rw [f4_isAsTold_L4_s, if_neg (nI4_not hj), nI_clamp (by omega), hm.2.1 33 (by omega) (by omega) (by omega), hl, i_le_t (by omega) (by omega), if_pos (Or.inr rfl)]
    exact ⟨m, rfl, hm⟩
  | d + 1, i, F + 1, τ, m, hF, hi, hM, hI, hm => by
    obtain ⟨m2, s1, s2, s3, _, _⟩ := m_min hM hI
    have hm2 := TR_min hm s3
    have hJ := sm_it hI
    have e5 : ((40 : Int32) * nI j) + nI i = nI (40 * j + i) := by rw [show (40 : Int32) = nI 40 from rfl, pk_mul, nI_add]
    rw [f4_isAsTold_L4_s, if_neg (nI4_not hj), nI_clamp (by omega), hm.2.1 33 (by omega) (by omega) (by omega), hl, i_le_f (by omega) (by omega), if_neg (by decide), bd s1, e5, if_neg (nI_in (by omega) (by omega)), nI_clamp (by omega), hm2.2.1 34 (by omega) (by omega) (by omega), hnum i (by omega), nl15, bd (m_loud s2 hJ (by omega))]
    unfold f4_isAsTold_b52 f4_isAsTold_b57 fitD
    rw [show nI i + 1 = nI (i + 1) by rw [nl1, nI_add]]
    have go := m_fit_L hj hL hl num hnum d (i + 1) F (sMin τ) m2 (by omega) (by omega) s2 hJ hm2
    by_cases e1 : num i = -1
    · rw [if_pos e1, show decide (num i = -1) = true by simp [e1], Bool.true_or, Bool.true_and]
      exact go
    · rw [if_neg e1]
      by_cases e2 : num i = nI (sLoud (sMin τ) 15)
      · rw [if_pos e2, show decide (num i = nI (sLoud (sMin τ) 15)) = true by simp [e2], Bool.or_true, Bool.true_and]
        exact go
      · rw [if_neg e2, show decide (num i = -1) = false by simp [e1], show decide (num i = nI (sLoud (sMin τ) 15)) = false by simp [e2]]
        obtain ⟨F', hF'⟩ : ∃ F', F = F' + 1 := ⟨F - 1, by omega⟩
        rw [hF', f4_isAsTold_L4_s, if_neg (nI4_not hj), if_pos (Or.inl rfl), if_pos rfl, ite_self]
        exact ⟨m2, rfl, hm2⟩
def fitP (τ : Nat → Nat) (num : Nat → Int32) (L v p : Nat) : Bool := fitD num L 0 (addN τ (p / 16) (p % 16) v)
theorem x_pair {x : St} {τ : Nat → Nat} (hX : TX x 0 τ) (hI : IT τ) (h8 : τ 1 < 8) {j L v p : Nat} (hj : j < 4) (hL : L ≤ 40) (hl : x (16 + 2 * j) 2 = nI L) (num : Nat → Int32) (hnum : ∀ i, i < 40 → x (17 + 2 * j) i = num i) (hv : v ≤ 999) (hp : p < 112) : ∃ x', f3_pairFits (nI j) (nI p) (nI v) x = some (b01 (fitP τ num L v p), x') ∧ XI x x' := by
  obtain ⟨x1, q1, q2, q3⟩ := x_lends hX
  obtain ⟨x2, r1, r2, r3, _⟩ := x_add q2 hI h8 (p / 16) (p % 16) v
  have hx2 : XI x x2 := XI_trans q3 (fun k hk => r3 k (by omega) (by omega))
  have ed : nI p / (16 : Int32) = nI (p / 16) := by rw [nl16, pk_div (by omega) (by omega) (by omega)]
  have em : nI p - nI (p / 16) * (16 : Int32) = nI (p % 16) := by
    rw [nl16, pk_mul, pk_sub (by omega)]
    congr 1
    omega
  unfold f3_pairFits
  rw [if_neg (nI4_not hj), bd q1, ed, em, bd r1, nI_clamp (by omega)]
  exact x_fit_L hL hl num hnum L 0 fu _ x2 (by rw [fu_eq]; omega) (by omega) r2 (IT_add hI h8 (by omega) (by omega) hv) hx2
def firstB (P : Nat → Bool) : Nat → Option Nat
  | 0 => none
  | k + 1 => match firstB P k with | some j => some j | none => if P k then some k else none
theorem first_s (P : Nat → Bool) (k : Nat) : firstB P (k + 1) = (match firstB P k with | some j => some j | none => if P k then some k else none) := rfl
theorem cnt_s (P : Nat → Bool) (k : Nat) : cntB P (k + 1) = cntB P k + (if P k then 1 else 0) := rfl
def FI (P : Nat → Bool) (p : Nat) (m : St) : Prop := m 25 12 = nI (cntB P p) ∧ m 25 13 = encM (firstB P p)
theorem m_fits_in {m0 : St} {τ : Nat → Nat} (hM0 : TM (m0 26) τ) (hI : IT τ) (h8 : τ 1 < 8) {j L v : Nat} (hj : j < 4) (hL : L ≤ 40) (hl : m0 33 j = nI L) (num : Nat → Int32) (hnum : ∀ i, i < 40 → m0 34 (40 * j + i) = num i) (hv : v ≤ 999) {kd : Nat} (hk : kd < 7) (k12 : Int32 → Int32 → Int32 → St → Option St) : ∀ (d c F : Nat) (m : St), d + 1 ≤ F → c + d = 16 → VI m0 m → FI (fitP τ num L v) (16 * kd + c) m → ∃ m', f4_findFits_L21 k12 F (nI j) (nI v) (nI kd) (nI c) m = k12 (nI j) (nI v) (nI (kd + 1)) m' ∧ VI m0 m' ∧ FI (fitP τ num L v) (16 * (kd + 1)) m'
  | d, c, 0, m, hF, hc, hm, hf => by omega
  | 0, c, F + 1, m, hF, hc, hm, hf => by
    have hc' : c = 16 := hc
    rw [f4_findFits_L21_s, nl16, i_le_t (by omega) (by omega), nl1, nI_add]
    exact ⟨m, rfl, hm, by rw [show 16 * (kd + 1) = 16 * kd + c by omega]; exact hf⟩
  | d + 1, c, F + 1, m, hF, hc, hm, hf => by
    have hM := VI_tm hm hM0
    have hl' : m 33 j = nI L := by rw [hm.1.1 33 (by omega) (by omega) (by omega) (by omega) (by omega)]; exact hl
    have hn' : ∀ i, i < 40 → m 34 (40 * j + i) = num i := by rw [hm.1.1 34 (by omega) (by omega) (by omega) (by omega) (by omega)]; exact hnum
    obtain ⟨m1, p1, p2, p3, p4⟩ := m_lends m
    obtain ⟨m2, s0, s1, s2, s3⟩ := m_add (m := m1) (by rw [p3]; exact hM) h8 kd c v
    have ht2 : TR m m2 := ⟨fun i hi => by rw [s2 28 (by omega)]; exact p2.1 i hi, fun k a b e => by rw [s2 k b]; exact p2.2.1 k a b e, fun i a b => by rw [s2 25 (by omega)]; exact p2.2.2 i a b⟩
    have hJ := IT_add hI h8 (k := kd) (c := c) (v := v) (by omega) (by omega) hv
    obtain ⟨m3, t1, t2⟩ := m_fit_L hj hL hl' num hn' L 0 fu _ m2 (by rw [fu_eq]; omega) (by omega) s1 hJ ht2
    obtain ⟨m4, u1, u2, _⟩ := m_lays t2
    have hm4 := VI_trans hm (VI_mi u2)
    have eP : fitD num L 0 (addN τ kd c v) = fitP τ num L v (16 * kd + c) := by
      unfold fitP
      rw [show (16 * kd + c) / 16 = kd by omega, show (16 * kd + c) % 16 = c by omega]
    have t1' : f4_isAsTold (nI j) m2 = some (b01 (fitP τ num L v (16 * kd + c)), m3) := by rw [← eP]; exact t1
    have k12' : m4 25 12 = nI (cntB (fitP τ num L v) (16 * kd + c)) := (u2.2.2 12 (by omega) (by omega)).trans hf.1
    have k13 : m4 25 13 = encM (firstB (fitP τ num L v) (16 * kd + c)) := (u2.2.2 13 (by omega) (by omega)).trans hf.2
    rw [f4_findFits_L21_s, nl16, i_le_f (by omega) (by omega), bd p1, bd s0]
    dsimp only
    rw [bd t1']
    show ∃ m', ((f4_laysBack m3).bind fun z6 => if b01 (fitP τ num L v (16 * kd + c)) = 0 then f4_findFits_b68 k12 (f4_findFits_L21 k12 F) (nI j) (nI v) (nI kd) (nI c) (b01 (fitP τ num L v (16 * kd + c))) (z6 25 12) (0 : Int32) z6 else f4_findFits_b68 k12 (f4_findFits_L21 k12 F) (nI j) (nI v) (nI kd) (nI c) (b01 (fitP τ num L v (16 * kd + c))) (z6 25 12) (1 : Int32) z6) = _ ∧ _
    rw [bd u1, b01_0]
    unfold f4_findFits_b68 f4_findFits_b95 f4_findFits_b99
    rw [b01_0, show nI c + 1 = nI (c + 1) by rw [nl1, nI_add], b01_0]
    have e13 : ∀ w : Int32, up m4 25 12 w 25 13 = m4 25 13 := fun w => up_ne2 _ _ (by decide)
    have fin : ∀ w1 w2 : Int32, w1 = nI (cntB (fitP τ num L v) (16 * kd + (c + 1))) → w2 = encM (firstB (fitP τ num L v) (16 * kd + (c + 1))) → ∃ m', f4_findFits_L21 k12 F (nI j) (nI v) (nI kd) (nI (c + 1)) (up (up m4 25 12 w1) 25 13 w2) = k12 (nI j) (nI v) (nI (kd + 1)) m' ∧ VI m0 m' ∧ FI (fitP τ num L v) (16 * (kd + 1)) m' := by
      intro w1 w2 h1 h2
      refine m_fits_in hM0 hI h8 hj hL hl num hnum hv hk k12 d (c + 1) F _ (by omega) (by omega) (VI_trans hm4 (VI_trans (VI_25 (by omega)) (VI_25 (by omega)))) ⟨?_, ?_⟩
      · rw [up_ne2 _ _ (by decide), up_eq]; exact h1
      · rw [up_eq]; exact h2
    have ec := cnt_s (fitP τ num L v) (16 * kd + c)
    have ef := first_s (fitP τ num L v) (16 * kd + c)
    rw [show 16 * kd + c + 1 = 16 * kd + (c + 1) by omega] at ec ef
    cases hb : fitP τ num L v (16 * kd + c) with
    | false =>
      rw [hb] at ec ef
      simp only [Bool.false_eq_true, if_false] at ec ef ⊢
      rw [e13]
      refine fin _ _ ?_ ?_
      · rw [k12', ec, nl0, nI_add]
      · rw [k13, ef]
        cases firstB (fitP τ num L v) (16 * kd + c) <;> rfl
    | true =>
      rw [hb] at ec ef
      simp only [if_true] at ec ef ⊢
      rw [e13, k13]
      have e12 : m4 25 12 + 1 = nI (cntB (fitP τ num L v) (16 * kd + (c + 1))) := by rw [k12', ec, nl1, nI_add]
      cases ho : firstB (fitP τ num L v) (16 * kd + c) with
      | none =>
        rw [ho] at ef
        rw [if_neg (by decide : ¬ (0 : Int32) ≤ encM none)]
        refine fin _ _ e12 ?_
        rw [ef, show (16 : Int32) = nI 16 from rfl, pk_mul, nI_add]
        rfl
      | some q =>
        rw [ho] at ef
        have hq : q < 16 * kd + c := by
          have : ∀ (k : Nat) {q : Nat}, firstB (fitP τ num L v) k = some q → q < k := by
            intro k
            induction k with
            | zero => intro q h; exact absurd h (by unfold firstB; simp)
            | succ k ih =>
              intro q h
              rw [first_s] at h
              cases hk : firstB (fitP τ num L v) k with
              | some r => rw [hk] at h; simp at h; have := ih hk; omega
              | none =>
                rw [hk] at h
                simp only at h
                split at h
                · simp at h; omega
                · exact absurd h (by simp)
          exact this _ ho
        rw [if_pos (show (0 : Int32) ≤ encM (some q) by unfold encM; rw [nl0]; exact nI_le (by omega) (by omega))]
        exact fin _ _ e12 (by rw [ef])
theorem m_fits_out {m0 : St} {τ : Nat → Nat} (hM0 : TM (m0 26) τ) (hI : IT τ) (h8 : τ 1 < 8) {j L v : Nat} (hj : j < 4) (hL : L ≤ 40) (hl : m0 33 j = nI L) (num : Nat → Int32) (hnum : ∀ i, i < 40 → m0 34 (40 * j + i) = num i) (hv : v ≤ 999) : ∀ (d kd F : Nat) (m : St), d + 1 ≤ F → kd + d = 7 → VI m0 m → FI (fitP τ num L v) (16 * kd) m → ∃ m', f4_findFits_L12 F (nI j) (nI v) (nI kd) m = some m' ∧ VI m0 m' ∧ FI (fitP τ num L v) 112 m'
  | d, kd, 0, m, hF, hc, hm, hf => by omega
  | 0, kd, F + 1, m, hF, hc, hm, hf => by
    have hc' : kd = 7 := hc
    rw [f4_findFits_L12_s, nl6, i_lt_t (by omega) (by omega)]
    exact ⟨m, rfl, hm, by rw [hc'] at hf; exact hf⟩
  | d + 1, kd, F + 1, m, hF, hc, hm, hf => by
    rw [f4_findFits_L12_s, nl6, i_lt_f (by omega) (by omega)]
    obtain ⟨m', q1, q2, q3⟩ := m_fits_in hM0 hI h8 hj hL hl num hnum hv (kd := kd) (by omega) (f4_findFits_L12 F) 16 0 fu m (by rw [fu_eq]; omega) (by omega) hm hf
    have q1' : f4_findFits_L21 (f4_findFits_L12 F) fu (nI j) (nI v) (nI kd) (0 : Int32) m = _ := q1
    rw [q1']
    exact m_fits_out hM0 hI h8 hj hL hl num hnum hv d (kd + 1) F m' (by omega) (by omega) q2 q3
theorem m_findFits {m : St} {τ : Nat → Nat} (hM : TM (m 26) τ) (hI : IT τ) (h8 : τ 1 < 8) {j L v : Nat} (hj : j < 4) (hL : L ≤ 40) (hl : m 33 j = nI L) (num : Nat → Int32) (hnum : ∀ i, i < 40 → m 34 (40 * j + i) = num i) (hv : v ≤ 999) : ∃ m', f4_findFits (nI j) (nI v) m = some m' ∧ VI m m' ∧ FI (fitP τ num L v) 112 m' := by
  refine m_fits_out hM hI h8 hj hL hl num hnum hv 7 0 fu _ (by rw [fu_eq]; omega) (by omega) (VI_trans (VI_25 (by omega)) (VI_25 (by omega))) ⟨?_, ?_⟩
  · rw [up_ne2 _ _ (by decide), up_eq]; rfl
  · rw [up_eq]; rfl
theorem x_fits_L {x0 : St} {τ : Nat → Nat} (hX0 : TX x0 0 τ) (hI : IT τ) (h8 : τ 1 < 8) {j L v : Nat} (hj : j < 4) (hL : L ≤ 40) (hl : x0 (16 + 2 * j) 2 = nI L) (num : Nat → Int32) (hnum : ∀ i, i < 40 → x0 (17 + 2 * j) i = num i) (hv : v ≤ 999) : ∀ (d p F : Nat) (x : St), d + 1 ≤ F → p + d = 112 → XI x0 x → ∃ x', f3_fits_L23 F (nI j) (nI v) (nI (cntB (fitP τ num L v) p)) (nI p) x = some (nI (cntB (fitP τ num L v) 112), x') ∧ XI x0 x'
  | d, p, 0, x, hF, hp, hx => by omega
  | 0, p, F + 1, x, hF, hp, hx => by
    have hp' : p = 112 := hp
    rw [f3_fits_L23_s, show (112 : Int32) = nI 112 from rfl, i_le_t (by omega) (by omega), hp']
    exact ⟨x, rfl, hx⟩
  | d + 1, p, F + 1, x, hF, hp, hx => by
    have hX : TX x 0 τ := TX_fr hX0 (hx _ (by omega)) (hx _ (by omega)) (hx _ (by omega))
    obtain ⟨x1, q1, q2⟩ := x_pair hX hI h8 hj hL (by rw [hx _ (by omega)]; exact hl) num (by rw [hx _ (by omega)]; exact hnum) hv (by omega : p < 112)
    have ih := x_fits_L hX0 hI h8 hj hL hl num hnum hv d (p + 1) F x1 (by omega) (by omega) (XI_trans hx q2)
    rw [cnt_s] at ih
    rw [f3_fits_L23_s, show (112 : Int32) = nI 112 from rfl, i_le_f (by omega) (by omega), bd q1]
    show ∃ x', (if b01 (fitP τ num L v p) = 0 then f3_fits_b44 (f3_fits_L23 F) (nI j) (nI v) (nI (cntB (fitP τ num L v) p)) (nI p) x1 else f3_fits_b44 (f3_fits_L23 F) (nI j) (nI v) (nI (cntB (fitP τ num L v) p) + 1) (nI p) x1) = _ ∧ _
    unfold f3_fits_b44
    rw [b01_0, nl1, nI_add, nI_add]
    cases hb : fitP τ num L v p with
    | false =>
      rw [hb] at ih
      simp only [Bool.false_eq_true, if_false] at ih ⊢
      exact ih
    | true =>
      rw [hb] at ih
      simp only [if_true] at ih ⊢
      exact ih
theorem R_said_L {x0 m0 : St} (h : REL x0 m0) {τ : Nat → Nat} (hX0 : TX x0 0 τ) (hI : IT τ) (h8 : τ 1 < 8) {j L v : Nat} (hj : j < 4) (hL : L ≤ 40) (hl : x0 (16 + 2 * j) 2 = nI L) (num : Nat → Int32) (hnum : ∀ i, i < 40 → x0 (17 + 2 * j) i = num i) (hv : v ≤ 999) {m : St} (hm : VI m0 m) (hf : m 25 13 = encM (firstB (fitP τ num L v) 112)) : ∀ (d p F : Nat) (x : St), d + 1 ≤ F → p + d = 112 → XI x0 x → firstB (fitP τ num L v) p = none → EQ (f3_said_L20 F (nI j) (nI v) (nI p) x) (if 0 ≤ (m 25 13) then some ((m 25 13), m) else (f4_finds (3 : Int32) m).bind fun q => match q with | (v4, z3) => some (v4, z3))
  | d, p, 0, x, hF, hp, hx, hn => by omega
  | 0, p, F + 1, x, hF, hp, hx, hn => by
    have hp' : p = 112 := hp
    rw [hp'] at hn
    rw [f3_said_L20_s, show (112 : Int32) = nI 112 from rfl, i_le_t (by omega) (by omega), hf, hn, if_neg (by decide : ¬ (0 : Int32) ≤ encM none)]
    exact EQf3 (REL_vi h hx hm) (fun _ _ => rfl) (fun _ _ => rfl)
  | d + 1, p, F + 1, x, hF, hp, hx, hn => by
    have hX : TX x 0 τ := TX_fr hX0 (hx _ (by omega)) (hx _ (by omega)) (hx _ (by omega))
    obtain ⟨x1, q1, q2⟩ := x_pair hX hI h8 hj hL (by rw [hx _ (by omega)]; exact hl) num (by rw [hx _ (by omega)]; exact hnum) hv (by omega : p < 112)
    rw [f3_said_L20_s, show (112 : Int32) = nI 112 from rfl, i_le_f (by omega) (by omega), bd q1]
    show EQ (if b01 (fitP τ num L v p) = 0 then f3_said_L20 F (nI j) (nI v) (nI p + 1) x1 else some (nI p, x1)) _
    rw [b01_0, nl1, nI_add]
    have es := first_s (fitP τ num L v) p
    rw [hn] at es
    cases hb : fitP τ num L v p with
    | false =>
      rw [hb] at es
      simp only [Bool.false_eq_true, if_false] at es ⊢
      exact R_said_L h hX0 hI h8 hj hL hl num hnum hv hm hf d (p + 1) F x1 (by omega) (by omega) (XI_trans hx q2) es
    | true =>
      rw [hb] at es
      simp only [if_true] at es ⊢
      have up' : ∀ e, firstB (fitP τ num L v) (p + 1 + e) = some p := by
        intro e
        induction e with
        | zero => exact es
        | succ e ih => rw [← Nat.add_assoc, first_s, ih]
      have e112 := up' d
      rw [show p + 1 + d = 112 by omega] at e112
      rw [hf, e112, if_pos (show (0 : Int32) ≤ encM (some p) by unfold encM; rw [nl0]; exact nI_le (by omega) (by omega))]
      exact EQs (REL_vi h (XI_trans hx q2) hm) _
theorem x_missing {x : St} {j b : Nat} (h : x (16 + 2 * j) 1 = nI b) (hb : b < 100) : f0_isMissing j x = b01 (decide (b = 0)) := by
  unfold f0_isMissing b01
  rw [h]
  by_cases e : b = 0
  · rw [e]; rfl
  · rw [nl0, i_eq_f e (by omega) (by omega), if_neg (by simp [e])]
theorem m_lacksT {m : St} {j b : Nat} (hj : j < 4) (h : m 32 j = nI b) (hb : b < 100) : f4_lacks (nI j) m = some (if b = 0 then 5 else -1) := by
  unfold f4_lacks
  rw [m_isSheet, wi_t (by omega) (by omega), if_neg (by decide : ¬ b01 true = 0), if_neg (nI4_not hj), nI_clamp (by omega), h]
  by_cases e : b = 0
  · rw [e]; rfl
  · rw [nl0, i_eq_f e (by omega) (by omega), if_neg e]
theorem m_lacksF {m : St} {a : Int32} (h : wi a 0 (nI 3) = false) : f4_lacks a m = some 0 := by
  unfold f4_lacks
  rw [m_isSheet, h, if_pos (by decide : b01 false = 0)]
