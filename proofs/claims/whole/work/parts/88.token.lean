-- tokens
def sr (β : Nat → Nat) (n q : Nat) : Nat := if n ≤ q then 0 else if 97 ≤ β q ∧ β q ≤ 122 then 1 else if 48 ≤ β q ∧ β q ≤ 57 then 2 else if β q = 59 then 3 else 4
def BX (β : Nat → Nat) (n : Nat) (x : St) : Prop := x 13 1 = nI n ∧ n ≤ 120 ∧ ∀ i, i < 120 → β i < 256 ∧ x 14 i = nI (β i)
def BM (β : Nat → Nat) (n : Nat) (m : St) : Prop := m 25 15 = nI n ∧ n ≤ 120 ∧ ∀ i, i < 120 → β i < 256 ∧ m 31 i = nI (β i)
def bAt (β : Nat → Nat) (n k : Nat) : Int32 := if k < n then nI (β k) else -1
theorem sr_le (β : Nat → Nat) (n q : Nat) : sr β n q ≤ 4 := by
  unfold sr
  repeat' split
  all_goals omega
theorem x_byte {β : Nat → Nat} {n k : Nat} {x : St} (h : BX β n x) (hk : k < 1000) : f1_byteAt (nI k) x = some (bAt β n k) := by
  obtain ⟨h1, h2, h3⟩ := h
  unfold f1_byteAt bAt
  rw [if_neg (show ¬ nI k < 0 by rw [nl0]; exact nI_nlt (by omega) (by omega)), h1]
  by_cases e : k < n
  · rw [i_le_f e (by omega), if_neg (show ¬ (120 : Int32) ≤ nI k from nI_ge (b := 120) (by omega) (by omega)), if_neg (nI_in (by omega) (by omega)), nI_clamp (by omega), (h3 k (by omega)).2, if_pos e]
  · rw [i_le_t (by omega) (by omega), if_neg e]
theorem x_sort {β : Nat → Nat} {n k : Nat} {x : St} (h : BX β n x) : f1_sortOf (bAt β n k) = nI (sr β n k) := by
  obtain ⟨h1, h2, h3⟩ := h
  have n97 : (97 : Int32) = nI 97 := rfl
  have n122 : (122 : Int32) = nI 122 := rfl
  have n48 : (48 : Int32) = nI 48 := rfl
  have n57 : (57 : Int32) = nI 57 := rfl
  have n59 : (59 : Int32) = nI 59 := rfl
  unfold f1_sortOf f1_sortOf_b20 f1_sortOf_b34 bAt sr
  by_cases e : k < n
  · have hb := (h3 k (by omega)).1
    rw [if_pos e, if_pos (show (0 : Int32) ≤ nI (β k) by rw [nl0]; exact nI_le (by omega) (by omega)), if_neg (show ¬ n ≤ k by omega), n97, n122, n48, n57, n59]
    by_cases a1 : β k < 97
    · rw [i_lt_t a1 (by omega), if_neg (show ¬ (97 ≤ β k ∧ β k ≤ 122) by omega)]
      by_cases a2 : β k < 48
      · rw [i_lt_t a2 (by omega), if_neg (show ¬ (48 ≤ β k ∧ β k ≤ 57) by omega), i_eq_f (by omega) (by omega) (by omega), if_neg (show ¬ β k = 59 by omega)]
        rfl
      · rw [i_lt_f (by omega) (by omega)]
        by_cases a3 : 57 < β k
        · rw [i_lt_t a3 (by omega), if_neg (show ¬ (48 ≤ β k ∧ β k ≤ 57) by omega)]
          by_cases a4 : β k = 59
          · rw [i_eq_t a4, if_pos a4]; rfl
          · rw [i_eq_f a4 (by omega) (by omega), if_neg a4]; rfl
        · rw [i_lt_f (by omega) (by omega), if_pos (show 48 ≤ β k ∧ β k ≤ 57 by omega)]
          rfl
    · rw [i_lt_f (by omega) (by omega)]
      by_cases a2 : 122 < β k
      · rw [i_lt_t a2 (by omega), if_neg (show ¬ (97 ≤ β k ∧ β k ≤ 122) by omega), i_lt_f (by omega) (by omega), i_lt_t (by omega) (by omega), if_neg (show ¬ (48 ≤ β k ∧ β k ≤ 57) by omega), i_eq_f (by omega) (by omega) (by omega), if_neg (show ¬ β k = 59 by omega)]
        rfl
      · rw [i_lt_f (by omega) (by omega), if_pos (show 97 ≤ β k ∧ β k ≤ 122 by omega)]
        rfl
  · rw [if_neg e, if_neg (by decide : ¬ (0 : Int32) ≤ -1), if_pos (show n ≤ k by omega)]
    rfl
theorem m_isByte {β : Nat → Nat} {n k a b : Nat} {m : St} (h : BM β n m) (hk : k < 1000) (ha : a < 1000) (hb : b < 1000) : f4_isByte (nI k) (nI a) (nI b) m = some (b01 (decide (k < n ∧ a ≤ β k ∧ β k ≤ b))) := by
  obtain ⟨h1, h2, h3⟩ := h
  unfold f4_isByte
  rw [h1]
  by_cases e : k < n
  · have hb := (h3 k (by omega)).1
    rw [i_le_f e (by omega), if_neg (nI_in (by omega) (by omega)), nI_clamp (by omega), (h3 k (by omega)).2, m_in, b01_0]
    by_cases g : a ≤ β k ∧ β k ≤ b
    · rw [if_pos (wi_iff.mpr ⟨nI_le g.1 (by omega), nI_le g.2 (by omega)⟩), show decide (k < n ∧ a ≤ β k ∧ β k ≤ b) = true by simp [e, g]]
      rfl
    · rw [if_neg (fun z => g ⟨?_, ?_⟩), show decide (k < n ∧ a ≤ β k ∧ β k ≤ b) = false by simp; intro _ q; omega]
      · rfl
      · exact Nat.le_of_not_lt (fun q => nI_ge q (by omega) (wi_iff.mp z).1)
      · exact Nat.le_of_not_lt (fun q => nI_ge q (by omega) (wi_iff.mp z).2)
  · rw [i_le_t (by omega) (by omega), show decide (k < n ∧ a ≤ β k ∧ β k ≤ b) = false by simp [e]]
    rfl
-- where the next token starts and stops
def SK (β : Nat → Nat) (n p q : Nat) : Prop := p ≤ q ∧ q ≤ n ∧ (∀ k, p ≤ k → k < q → β k = 32) ∧ ¬ (q < n ∧ β q = 32)
def ED (β : Nat → Nat) (n q r : Nat) : Prop := q ≤ r ∧ r ≤ n ∧ (sr β n q = 0 → r = q) ∧ (3 ≤ sr β n q → r = q + 1) ∧ ((sr β n q = 1 ∨ sr β n q = 2) → q < r ∧ (∀ k, q ≤ k → k < r → sr β n k = sr β n q) ∧ sr β n r ≠ sr β n q)
def vxN (β : Nat → Nat) (q : Nat) : Nat → Nat
  | 0 => 0
  | k + 1 => min (10 * vxN β q k + β (q + k) - 48) 100000
def vmN (β : Nat → Nat) (q : Nat) : Nat → Nat
  | 0 => 0
  | k + 1 => if 99999 < vmN β q k then vmN β q k else 10 * vmN β q k + β (q + k) - 48
def tkV (β : Nat → Nat) (n q r : Nat) : Nat := if sr β n q = 2 then vxN β q (r - q) else 0
theorem vx_s (β : Nat → Nat) (q k : Nat) : vxN β q (k + 1) = min (10 * vxN β q k + β (q + k) - 48) 100000 := rfl
theorem vm_s (β : Nat → Nat) (q k : Nat) : vmN β q (k + 1) = if 99999 < vmN β q k then vmN β q k else 10 * vmN β q k + β (q + k) - 48 := rfl
theorem vx_le (β : Nat → Nat) (q : Nat) : ∀ k, vxN β q k ≤ 100000
  | 0 => by unfold vxN; omega
  | k + 1 => by unfold vxN; omega
theorem sr2 {β : Nat → Nat} {n k : Nat} (h : sr β n k = 2) : k < n ∧ 48 ≤ β k ∧ β k ≤ 57 := by
  unfold sr at h
  split at h
  · omega
  · split at h
    · omega
    · split at h
      · omega
      · split at h <;> omega
theorem sr1 {β : Nat → Nat} {n k : Nat} : sr β n k = 1 ↔ k < n ∧ 97 ≤ β k ∧ β k ≤ 122 := by
  unfold sr
  constructor
  · intro h
    split at h
    · omega
    · split at h
      · omega
      · split at h
        · omega
        · split at h <;> omega
  · intro h
    rw [if_neg (by omega), if_pos h.2]
theorem sr2i {β : Nat → Nat} {n k : Nat} : sr β n k = 2 ↔ k < n ∧ 48 ≤ β k ∧ β k ≤ 57 := by
  constructor
  · exact sr2
  · intro h
    unfold sr
    rw [if_neg (by omega), if_neg (by omega), if_pos h.2]
theorem sr0 {β : Nat → Nat} {n k : Nat} : sr β n k = 0 ↔ n ≤ k := by
  unfold sr
  constructor
  · intro h
    split at h
    · omega
    · split at h
      · omega
      · split at h
        · omega
        · split at h <;> omega
  · intro h
    rw [if_pos h]
theorem sr3 {β : Nat → Nat} {n k : Nat} : sr β n k = 3 ↔ k < n ∧ β k = 59 := by
  unfold sr
  constructor
  · intro h
    split at h
    · omega
    · split at h
      · omega
      · split at h
        · omega
        · split at h <;> omega
  · intro h
    rw [if_neg (by omega), if_neg (by omega), if_neg (by omega), if_pos h.2]
-- the class's step
theorem BX_fr {β : Nat → Nat} {n : Nat} {x x' : St} (h : BX β n x) (e1 : x' 13 1 = x 13 1) (e2 : x' 14 = x 14) : BX β n x' := ⟨e1.trans h.1, h.2.1, fun i hi => by rw [e2]; exact h.2.2 i hi⟩
def SX (β : Nat → Nat) (n q r : Nat) (x x' : St) : Prop := x' 13 2 = nI (sr β n q) ∧ x' 13 3 = nI q ∧ x' 13 4 = nI r ∧ x' 13 5 = nI (tkV β n q r) ∧ x' 13 1 = x 13 1 ∧ ∀ k, k ≠ 13 → x' k = x k
theorem x_run_L {β : Nat → Nat} {n q N : Nat} (hq : q ≤ n) (hN : N ≤ 120) : ∀ (d r F : Nat) (x : St), d + 1 ≤ F → r - q + d = N → q ≤ r → r ≤ n → BX β n x → x 13 2 = nI (sr β n q) → x 13 3 = nI q → x 13 4 = nI r → x 13 5 = nI (tkV β n q r) → (∀ k, q ≤ k → k < r → sr β n k = sr β n q) → (N = 120 ∧ (sr β n q = 1 ∨ sr β n q = 2) ∨ N = 0 ∧ sr β n q = 0 ∨ N = 1 ∧ 3 ≤ sr β n q) → ∃ r' x', f1_step_L109 F (nI N) (nI (r - q)) x = some x' ∧ ED β n q r' ∧ SX β n q r' x x'
  | d, r, 0, x, hF, hd, h1, h2, hB, a2, a3, a4, a5, ha, hs => by omega
  | 0, r, F + 1, x, hF, hd, h1, h2, hB, a2, a3, a4, a5, ha, hs => by
    have hn := hB.2.1
    rw [f1_step_L109_s, i_le_t (by omega) (by omega)]
    refine ⟨r, x, rfl, ⟨h1, h2, ?_, ?_, ?_⟩, a2, a3, a4, a5, rfl, fun _ _ => rfl⟩
    · intro z
      have := sr0.mp z
      omega
    · intro z
      rcases hs with ⟨_, hs⟩ | ⟨_, hs⟩ | ⟨hs, _⟩ <;> omega
    · intro z
      rcases hs with ⟨hs, _⟩ | ⟨_, hs⟩ | ⟨_, hs⟩
      · have e : n = 120 ∧ q = 0 ∧ r = 120 := by omega
        refine ⟨by omega, ha, ?_⟩
        rw [sr0.mpr (show n ≤ r by omega)]
        omega
      · omega
      · omega
  | d + 1, r, F + 1, x, hF, hd, h1, h2, hB, a2, a3, a4, a5, ha, hs => by
    have hn := hB.2.1
    have hl := sr_le β n q
    have hl2 := sr_le β n r
    rw [f1_step_L109_s, i_le_f (by omega) (by omega), a4, bd (x_byte hB (by omega)), bd (x_byte hB (by omega)), x_sort hB, a2]
    by_cases e : sr β n r = sr β n q
    · rw [i_eq_t e]
      have hr : sr β n q ≠ 0 → r < n := fun z => by
        rw [← e] at z
        exact Nat.lt_of_not_le (fun y => z (sr0.mpr y))
      have hrn : r < n := by
        refine hr (fun z => ?_)
        rcases hs with ⟨_, hs⟩ | ⟨hs, _⟩ | ⟨_, hs⟩ <;> omega
      unfold f1_step_b168
      have es : nI (r - q) + 1 = nI (r + 1 - q) := by rw [nl1, nI_add]; congr 1; omega
      have ha' : ∀ k, q ≤ k → k < r + 1 → sr β n k = sr β n q := by
        intro k k1 k2
        by_cases z : k = r
        · rw [z]; exact e
        · exact ha k k1 (by omega)
      by_cases e2 : sr β n q = 2
      · have hbr := sr2 (e.trans e2)
        have hvl := vx_le β q (r - q)
        have hv : (if (100000 : Int32) < (((10 : Int32) * x 13 5) + bAt β n r) - (48 : Int32) then (100000 : Int32) else (((10 : Int32) * x 13 5) + bAt β n r) - (48 : Int32)) = nI (tkV β n q (r + 1)) := by
          unfold bAt tkV at *
          rw [if_pos e2] at a5
          rw [a5, if_pos hrn, if_pos e2, show r + 1 - q = (r - q) + 1 by omega, vx_s, show q + (r - q) = r by omega, nl10, pk_mul, nI_add, show (48 : Int32) = nI 48 from rfl, pk_sub (by omega), show (100000 : Int32) = nI 100000 by decide]
          by_cases z : 100000 < 10 * vxN β q (r - q) + β r - 48
          · rw [i_lt_t z (by omega), Nat.min_eq_right (by omega)]
          · rw [i_lt_f (by omega) (by omega), Nat.min_eq_left (by omega)]
        rw [e2, if_pos (by decide : nI 2 = 2), hv, up_ne2 _ _ (by decide), a4, es, nl1, nI_add]
        have hB' : BX β n (up (up x 13 5 (nI (tkV β n q (r + 1)))) 13 4 (nI (r + 1))) := BX_fr hB (by rw [up_ne2 _ _ (by decide), up_ne2 _ _ (by decide)]) (by rw [up_cell _ _ _ (by decide), up_cell _ _ _ (by decide)])
        obtain ⟨r', x', q1, q2, s1, s2, s3, s4, s5, s6⟩ := x_run_L hq hN d (r + 1) F _ (by omega) (by omega) (by omega) (by omega) hB' (by rw [up_ne2 _ _ (by decide), up_ne2 _ _ (by decide), a2]) (by rw [up_ne2 _ _ (by decide), up_ne2 _ _ (by decide), a3]) (up_eq _ _ _ _) (by rw [up_ne2 _ _ (by decide), up_eq]) ha' hs
        exact ⟨r', x', q1, q2, s1, s2, s3, s4, by rw [s5, up_ne2 _ _ (by decide), up_ne2 _ _ (by decide)], fun k hk => by rw [s6 k hk, up_cell _ _ _ hk, up_cell _ _ _ hk]⟩
      · have n2 : ¬ nI (sr β n q) = 2 := fun z => e2 (n_inj (by omega) (by omega) z)
        rw [if_neg n2, a4, es, nl1, nI_add]
        have hB' : BX β n (up x 13 4 (nI (r + 1))) := BX_fr hB (by rw [up_ne2 _ _ (by decide)]) (by rw [up_cell _ _ _ (by decide)])
        have a5' : tkV β n q (r + 1) = tkV β n q r := by unfold tkV; rw [if_neg e2, if_neg e2]
        obtain ⟨r', x', q1, q2, s1, s2, s3, s4, s5, s6⟩ := x_run_L hq hN d (r + 1) F _ (by omega) (by omega) (by omega) (by omega) hB' (by rw [up_ne2 _ _ (by decide), a2]) (by rw [up_ne2 _ _ (by decide), a3]) (up_eq _ _ _ _) (by rw [up_ne2 _ _ (by decide), a5, a5']) ha' hs
        exact ⟨r', x', q1, q2, s1, s2, s3, s4, by rw [s5, up_ne2 _ _ (by decide)], fun k hk => by rw [s6 k hk, up_cell _ _ _ hk]⟩
    · rw [i_eq_f e (by omega) (by omega)]
      refine ⟨r, x, rfl, ⟨h1, h2, ?_, ?_, ?_⟩, a2, a3, a4, a5, rfl, fun _ _ => rfl⟩
      · intro z
        have := sr0.mp z
        omega
      · intro z
        rcases hs with ⟨_, hs⟩ | ⟨_, hs⟩ | ⟨hs, _⟩
        · omega
        · omega
        · have : r = q := by omega
          rw [this] at e
          exact absurd rfl e
      · intro z
        refine ⟨?_, ha, e⟩
        by_cases y : r = q
        · rw [y] at e; exact absurd rfl e
        · omega
theorem x_b45 {β : Nat → Nat} {n q : Nat} (hq : q ≤ n) {x : St} (hB : BX β n x) (h3 : x 13 3 = nI q) : ∃ r x', f1_step_b45 x = some x' ∧ ED β n q r ∧ SX β n q r x x' := by
  have hn := hB.2.1
  have hl := sr_le β n q
  unfold f1_step_b45 f1_step_b89 f1_step_b106
  have hB1 : BX β n (up (up x 13 4 (x 13 3)) 13 5 0) := BX_fr hB (by rw [up_ne2 _ _ (by decide), up_ne2 _ _ (by decide)]) (by rw [up_cell _ _ _ (by decide), up_cell _ _ _ (by decide)])
  have e3 : up (up x 13 4 (x 13 3)) 13 5 0 13 3 = nI q := by rw [up_ne2 _ _ (by decide), up_ne2 _ _ (by decide), h3]
  rw [e3, bd (x_byte hB1 (by omega)), x_sort hB, up_eq]
  have fin : ∀ N : Nat, (N = 120 ∧ (sr β n q = 1 ∨ sr β n q = 2) ∨ N = 0 ∧ sr β n q = 0 ∨ N = 1 ∧ 3 ≤ sr β n q) → ∃ r x', f1_step_L109 fu (nI N) (0 : Int32) (up (up (up x 13 4 (x 13 3)) 13 5 0) 13 2 (nI (sr β n q))) = some x' ∧ ED β n q r ∧ SX β n q r x x' := by
    intro N hN
    have hB2 : BX β n (up (up (up x 13 4 (x 13 3)) 13 5 0) 13 2 (nI (sr β n q))) := BX_fr hB1 (by rw [up_ne2 _ _ (by decide)]) (by rw [up_cell _ _ _ (by decide)])
    obtain ⟨r', x', q1, q2, s1, s2, s3, s4, s5, s6⟩ := x_run_L (β := β) (n := n) (q := q) (N := N) hq (by omega) N q fu _ (by rw [fu_eq]; omega) (by omega) (by omega) hq hB2 (up_eq _ _ _ _) (by rw [up_ne2 _ _ (by decide)]; exact e3) (by rw [up_ne2 _ _ (by decide), up_ne2 _ _ (by decide), up_eq, h3]) (by
      rw [up_ne2 _ _ (by decide), up_eq]
      unfold tkV
      rw [Nat.sub_self]
      split <;> rfl) (fun k k1 k2 => by omega) hN
    rw [Nat.sub_self] at q1
    refine ⟨r', x', q1, q2, s1, s2, s3, s4, ?_, fun k hk => ?_⟩
    · rw [s5, up_ne2 _ _ (by decide), up_ne2 _ _ (by decide), up_ne2 _ _ (by decide)]
    · rw [s6 k hk, up_cell _ _ _ hk, up_cell _ _ _ hk, up_cell _ _ _ hk]
  rcases (show sr β n q = 0 ∨ sr β n q = 1 ∨ sr β n q = 2 ∨ sr β n q = 3 ∨ sr β n q = 4 by omega) with e | e | e | e | e
  all_goals rw [e] at fin ⊢
  · rw [if_neg (by decide), if_neg (by decide), if_pos (by decide)]
    exact fin 0 (by simp)
  · rw [if_pos (by decide)]
    exact fin 120 (by simp)
  · rw [if_neg (by decide), if_pos (by decide)]
    exact fin 120 (by simp)
  · rw [if_neg (by decide), if_neg (by decide), if_neg (by decide)]
    exact fin 1 (by simp)
  · rw [if_neg (by decide), if_neg (by decide), if_neg (by decide)]
    exact fin 1 (by simp)
theorem x_skip_L {β : Nat → Nat} {n p : Nat} : ∀ (d q F : Nat) (x : St), d + 1 ≤ F → q - p + d = 120 → p ≤ q → q ≤ n → BX β n x → x 13 3 = nI q → (∀ k, p ≤ k → k < q → β k = 32) → ∃ q' r x', f1_step_L10 F (nI (q - p)) x = some x' ∧ SK β n p q' ∧ ED β n q' r ∧ SX β n q' r x x'
  | d, q, 0, x, hF, hd, h1, h2, hB, h3, ha => by omega
  | 0, q, F + 1, x, hF, hd, h1, h2, hB, h3, ha => by
    have hn := hB.2.1
    rw [f1_step_L10_s, show (120 : Int32) = nI 120 from rfl, i_le_t (by omega) (by omega)]
    obtain ⟨r, x', q1, q2, q3⟩ := x_b45 h2 hB h3
    exact ⟨q, r, x', q1, ⟨h1, h2, ha, fun z => by omega⟩, q2, q3⟩
  | d + 1, q, F + 1, x, hF, hd, h1, h2, hB, h3, ha => by
    have hn := hB.2.1
    rw [f1_step_L10_s, show (120 : Int32) = nI 120 from rfl, i_le_f (by omega) (by omega), h3, bd (x_byte hB (by omega))]
    by_cases e : q < n ∧ β q = 32
    · have hv : bAt β n q = 32 := by unfold bAt; rw [if_pos e.1, e.2]; rfl
      have hB' : BX β n (up x 13 3 (nI (q + 1))) := BX_fr hB (up_ne2 _ _ (by decide)) (up_cell _ _ _ (by decide))
      rw [if_pos hv, nl1, nI_add, nI_add, show q - p + 1 = q + 1 - p by omega]
      obtain ⟨q', r, x', q1, q2, q3, s1, s2, s3, s4, s5, s6⟩ := x_skip_L (p := p) d (q + 1) F (up x 13 3 (nI (q + 1))) (by omega) (by omega) (by omega) (by omega) hB' (up_eq _ _ _ _) (fun k k1 k2 => by
        by_cases z : k = q
        · rw [z]; exact e.2
        · exact ha k k1 (by omega))
      exact ⟨q', r, x', q1, q2, q3, s1, s2, s3, s4, by rw [s5, up_ne2 _ _ (by decide)], fun k hk => by rw [s6 k hk, up_cell _ _ _ hk]⟩
    · have hv : ¬ bAt β n q = 32 := by
        unfold bAt
        by_cases z : q < n
        · rw [if_pos z]
          have hb := (hB.2.2 q (by omega)).1
          exact fun y => e ⟨z, n_inj (b := 32) (by omega) (by omega) y⟩
        · rw [if_neg z]; decide
      rw [if_neg hv]
      obtain ⟨r, x', q1, q2, q3⟩ := x_b45 h2 hB h3
      exact ⟨q, r, x', q1, ⟨h1, h2, ha, e⟩, q2, q3⟩
theorem x_step {β : Nat → Nat} {n p : Nat} {x : St} (hB : BX β n x) (hp : p ≤ n) (h4 : x 13 4 = nI p) : ∃ q r x', f1_step x = some x' ∧ SK β n p q ∧ ED β n q r ∧ SX β n q r x x' := by
  have hn := hB.2.1
  unfold f1_step
  rw [h4]
  have hB' : BX β n (up x 13 3 (nI p)) := BX_fr hB (up_ne2 _ _ (by decide)) (up_cell _ _ _ (by decide))
  obtain ⟨q', r, x', q1, q2, q3, s1, s2, s3, s4, s5, s6⟩ := x_skip_L (p := p) 120 p fu (up x 13 3 (nI p)) (by rw [fu_eq]; omega) (by omega) (by omega) hp hB' (up_eq _ _ _ _) (fun k k1 k2 => by omega)
  rw [Nat.sub_self] at q1
  exact ⟨q', r, x', q1, q2, q3, s1, s2, s3, s4, by rw [s5, up_ne2 _ _ (by decide)], fun k hk => by rw [s6 k hk, up_cell _ _ _ hk]⟩
