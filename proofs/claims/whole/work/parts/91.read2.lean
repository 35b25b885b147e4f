theorem x_setQk {x : St} {t w k : Nat} {v : Int32} (hw : w < 8) (hk : k < 3) : f2_setQuality t (nI w) (nI k) v x = some (up x (3 + 4 * t) (3 * w + k) v) := by
  match k, hk with
  | 0, _ => exact x_setQ0 hw
  | 1, _ => exact x_setQ1 hw
  | 2, _ => exact x_setQ2 hw
theorem x_setTk {x : St} {t c k : Nat} {v : Int32} (hc : c < 16) (hk : k < 5) : f2_setTrait t (nI c) (nI k) v x = some (up x (2 + 4 * t) (5 * c + k) v) := by
  match k, hk with
  | 0, _ => exact x_setT0 hc
  | 1, _ => exact x_setT1 hc
  | 2, _ => exact x_setT2 hc
  | 3, _ => exact x_setT3 hc
  | 4, _ => exact x_setT4 hc
theorem m_buildsk {m : St} {c k : Nat} {v : Int32} (hc : c < 16) (hk : k < 5) : f4_builds (nI c) (nI k) v m = some (up m 26 (5 + 5 * c + k) v) := by
  match k, hk with
  | 0, _ => exact m_builds0 hc
  | 1, _ => exact m_builds1 hc
  | 2, _ => exact m_builds2 hc
  | 3, _ => exact m_builds3 hc
  | 4, _ => exact m_builds4 hc
theorem wi_nn {v lo hi : Nat} (h1 : v < 2147483648) (h2 : lo < 2147483648) (h3 : hi < 2147483648) : wi (nI v) (nI lo) (nI hi) = decide (lo ≤ v ∧ v ≤ hi) := by
  by_cases e : lo ≤ v ∧ v ≤ hi
  · rw [wi_iff.mpr ⟨nI_le e.1 (by omega), nI_le e.2 (by omega)⟩]
    simp [e]
  · rw [show decide (lo ≤ v ∧ v ≤ hi) = false by simp only [decide_eq_false_iff_not]; exact e]
    cases hc : wi (nI v) (nI lo) (nI hi) with
    | false => rfl
    | true =>
      exfalso
      have := wi_iff.mp hc
      exact e ⟨Nat.le_of_not_lt (fun z => nI_ge z (by omega) this.1), Nat.le_of_not_lt (fun z => nI_ge z (by omega) this.2)⟩
-- the two readers side by side
def PX (β : Nat → Nat) (n : Nat) (x : St) (q r : Nat) : Prop := BX β n x ∧ x 13 2 = nI (sr β n q) ∧ x 13 3 = nI q ∧ x 13 4 = nI r ∧ x 13 5 = nI (tkV β n q r)
def PM (β : Nat → Nat) (n : Nat) (m : St) (q r : Nat) : Prop := BM β n m ∧ m 25 16 = nI q ∧ m 25 17 = nI r ∧ m 25 18 = 0
def PS (β : Nat → Nat) (n : Nat) (x m : St) (τ : Nat → Nat) (q r : Nat) : Prop := TW x 2 (m 26) τ ∧ PX β n x q r ∧ PM β n m q r ∧ ED β n q r
def FX (x x' : St) : Prop := (∀ k, (k < 9 ∨ 13 < k) → x' k = x k) ∧ x' 13 1 = x 13 1
def FM (m m' : St) : Prop := (∀ k, k ≠ 25 → k ≠ 26 → m' k = m k) ∧ ∀ i, i ≠ 16 → i ≠ 17 → i ≠ 18 → m' 25 i = m 25 i
theorem FX_refl (x : St) : FX x x := ⟨fun _ _ => rfl, rfl⟩
theorem FM_refl (m : St) : FM m m := ⟨fun _ _ _ => rfl, fun _ _ _ _ => rfl⟩
theorem FX_trans {a b c : St} (h : FX a b) (g : FX b c) : FX a c := ⟨fun k hk => (g.1 k hk).trans (h.1 k hk), g.2.trans h.2⟩
theorem FM_trans {a b c : St} (h : FM a b) (g : FM b c) : FM a c := ⟨fun k a b => (g.1 k a b).trans (h.1 k a b), fun i a b d => (g.2 i a b d).trans (h.2 i a b d)⟩
theorem FM_nw {m m' : St} {q r : Nat} (h : NW' q r m m') : FM m m' := ⟨fun k a _ => h.2.2.2.2 k a, fun i a b c => h.2.2.2.1 i a b c⟩
theorem FM_26 {m : St} {i : Nat} {v : Int32} : FM m (up m 26 i v) := ⟨fun k _ b => up_cell _ _ _ b, fun i _ _ _ => up_ne1 _ _ _ _ (by decide)⟩
theorem FM_wr {m : St} {v : Int32} : FM m (up m 25 18 v) := ⟨fun k a _ => up_cell _ _ _ a, fun i _ _ c => up_ne2 _ _ c⟩
theorem FX_up {x : St} {k i : Nat} {v : Int32} (h : 9 ≤ k ∧ k < 13) : FX x (up x k i v) := ⟨fun a ha => up_cell _ _ _ (by omega), up_ne1 _ _ _ _ (by omega)⟩
def BD (n : Nat) (x m : St) : Prop := ∃ q, q ≤ n ∧ x 13 3 = nI q ∧ m 25 16 = nI q ∧ m 25 18 = 1
def OUT (β : Nat → Nat) (n p : Nat) (v : Int32) (x0 m0 x' m' : St) : Prop := ((v = 1 ∧ ∃ τ q r, PS β n x' m' τ q r ∧ p ≤ q) ∨ (v = 0 ∧ BD n x' m')) ∧ FX x0 x' ∧ FM m0 m'
theorem PX_fr {β : Nat → Nat} {n q r : Nat} {x x' : St} (h : PX β n x q r) (e1 : x' 13 = x 13) (e2 : x' 14 = x 14) : PX β n x' q r := by
  obtain ⟨a, b, c, d, e⟩ := h
  exact ⟨BX_fr a (by rw [e1]) e2, by rw [e1]; exact b, by rw [e1]; exact c, by rw [e1]; exact d, by rw [e1]; exact e⟩
theorem PM_fr {β : Nat → Nat} {n q r : Nat} {m m' : St} (h : PM β n m q r) (e1 : m' 25 = m 25) (e2 : m' 31 = m 31) : PM β n m' q r := by
  obtain ⟨a, b, c, d⟩ := h
  exact ⟨BM_fr a (by rw [e1]) e2, by rw [e1]; exact b, by rw [e1]; exact c, by rw [e1]; exact d⟩
theorem PM_nw {β : Nat → Nat} {n q r : Nat} {m m' : St} (h : BM β n m) (g : NW' q r m m') : PM β n m' q r := ⟨BM_fr h (g.2.2.2.1 15 (by decide) (by decide) (by decide)) (g.2.2.2.2 31 (by decide)), g.1, g.2.1, g.2.2.1⟩
theorem x_stepP {β : Nat → Nat} {n q r : Nat} {x : St} (h : PX β n x q r) (hE : ED β n q r) : ∃ q' r' x', f1_step x = some x' ∧ SK β n r q' ∧ ED β n q' r' ∧ PX β n x' q' r' ∧ (∀ k, k ≠ 13 → x' k = x k) ∧ x' 13 1 = x 13 1 := by
  obtain ⟨q', r', x', q1, q2, q3, s1, s2, s3, s4, s5, s6⟩ := x_step h.1 hE.2.1 h.2.2.2.1
  exact ⟨q', r', x', q1, q2, q3, ⟨BX_fr h.1 s5 (s6 14 (by decide)), s1, s2, s3, s4⟩, s6, s5⟩
theorem TW_13 {x x' : St} {s s' : Nat → Int32} {τ : Nat → Nat} (h : TW x 2 s τ) (e : ∀ k, k ≠ 13 → x' k = x k) (g : s' = s) : TW x' 2 s' τ := TW_fr h (e _ (by decide)) (e _ (by decide)) (e _ (by decide)) (e _ (by decide)) (fun _ _ => by rw [g])
theorem FX_13 {x x' : St} (e : ∀ k, k ≠ 13 → x' k = x k) (g : x' 13 1 = x 13 1) : FX x x' := ⟨fun k hk => e k (by omega), g⟩
-- a word that goes on to a number: a quality
def mQ (i w what : Nat) (K : St → Option St) (m : St) : Option St := (f4_takes i m).bind fun q => match q with
  | (v5, z4) =>
    if v5 = 0 then K z4
    else
      (f4_numberRead (nI (qLo what)) (nI (qHi what)) z4).bind fun q => match q with
      | (v7, z6) =>
        (f4_sets (nI w) (nI what) v7 z6).bind fun z8 => K z8
theorem mQ_W {i w what : Nat} {K : St → Option St} {m : St} (h : m 25 18 = 1) : mQ i w what K m = K m := by
  unfold mQ
  rw [bd (m_takesW i h)]
  rfl
theorem P_qual {β : Nat → Nat} {n q r i w what : Nat} {x m : St} {τ : Nat → Nat} (h : PS β n x m τ q r) (hw : w < 8) (hk : what = 1 ∨ what = 2) (hi : i < 17) : ∃ v x' m', f1_readQuality 2 i (nI w) (nI what) x = some (v, x') ∧ (∀ K, mQ i w what K m = K m') ∧ OUT β n q v x m x' m' := by
  obtain ⟨hT, hX, hM, hE⟩ := h
  have h' : PS β n x m τ q r := ⟨hT, hX, hM, hE⟩
  have hlo : qLo what ≤ 1 := by unfold qLo; split <;> omega
  have hhi : qHi what ≤ 999 := by unfold qHi; split; omega; split <;> omega
  unfold f1_readQuality
  rw [bd (x_word hX.1 (by omega) hE hX.2.1 hX.2.2.1 hX.2.2.2.1), b01_0]
  cases hwd : wdB β n i q r with
  | false =>
    refine ⟨1, x, m, rfl, fun K => ?_, Or.inl ⟨rfl, τ, q, r, h', by omega⟩, FX_refl x, FM_refl m⟩
    unfold mQ
    rw [bd (m_takes0 hM.1 hi hE hM.2.1 hM.2.2.1 hM.2.2.2 hwd)]
    rfl
  | true =>
    obtain ⟨q1, r1, x1, a1, a2, a3, a4, a5, a6⟩ := x_stepP hX hE
    obtain ⟨m1, b1, b2⟩ := m_takes1 hM.1 hi hE hM.2.1 hM.2.2.1 hM.2.2.2 hwd a2 a3
    have hM1 := PM_nw hM.1 b2
    have hT1 : TW x1 2 (m1 26) τ := TW_13 hT a5 (b2.2.2.2.2 26 (by decide))
    have hF1 := FX_13 a5 a6
    have hG1 := FM_nw b2
    have hvl : tkV β n q1 r1 ≤ 100000 := by
      unfold tkV
      split
      · exact vx_le _ _ _
      · omega
    have hpq : q ≤ q1 := Nat.le_trans hE.1 a2.1
    simp only [if_true]
    rw [bd a1, a4.2.1, a4.2.2.2.2, x_isQual x1 _ (by omega : what < 3), Option.bind_some, b01_0, wi_nn (by omega) (by omega) (by omega)]
    by_cases ok : nOk β n q1 r1 (qLo what) (qHi what)
    · obtain ⟨o1, o2, o3⟩ := ok
      have hq3 : tkV β n q1 r1 ≤ (if what = 0 then 6 else if what = 1 then 15 else 999) := o3
      have hX2 : PX β n (up x1 (3 + 4 * 2) (3 * w + what) (nI (tkV β n q1 r1))) q1 r1 := PX_fr a4 (up_cell _ _ _ (by omega)) (up_cell _ _ _ (by omega))
      obtain ⟨q2, r2, x2, c1, c2, c3, c4, c5, c6⟩ := x_stepP hX2 a3
      obtain ⟨m2, d1, d2⟩ := m_num_ok hM1.1 a3 hM1.2.1 hM1.2.2.1 hM1.2.2.2 (by omega : qHi what ≤ 99999) ⟨o1, o2, o3⟩ c2 c3
      have hM2 := PM_nw hM1.1 d2
      have hT2 : TW x2 2 (up m2 26 (85 + 3 * w + what) (nI (tkV β n q1 r1)) 26) (upN τ (85 + 3 * w + what) (tkV β n q1 r1)) := by
        rw [up26, d2.2.2.2.2 26 (by decide)]
        exact TW_13 (TW_upq hT1 hw (by omega) hq3) c5 rfl
      rw [o1, if_pos (by decide : nI 2 = 2), if_pos (by simp [o2, o3]), bd (x_setQk hw (by omega)), bd c1]
      refine ⟨1, x2, up m2 26 (85 + 3 * w + what) (nI (tkV β n q1 r1)), rfl, fun K => ?_, Or.inl ⟨rfl, _, q2, r2, ⟨hT2, c4, PM_fr hM2 (up_cell _ _ _ (by decide)) (up_cell _ _ _ (by decide)), c3⟩, ?_⟩, FX_trans hF1 (FX_trans (FX_up (by omega)) (FX_13 c5 c6)), FM_trans hG1 (FM_trans (FM_nw d2) FM_26)⟩
      · unfold mQ
        rw [bd b1]
        show (f4_numberRead (nI (qLo what)) (nI (qHi what)) m1).bind _ = _
        rw [bd d1]
        show (f4_sets (nI w) (nI what) (nI (tkV β n q1 r1)) m2).bind _ = _
        rw [bd (m_setsk hw (by omega))]
      · exact Nat.le_trans hpq (Nat.le_trans a3.1 c2.1)
    · obtain ⟨w7, d1⟩ := m_num_no hM1.1 a3 hM1.2.1 hM1.2.2.1 hM1.2.2.2 (by omega : qHi what ≤ 99999) hlo ok
      have hx : (if nI (sr β n q1) = 2 then (if decide (qLo what ≤ tkV β n q1 r1 ∧ tkV β n q1 r1 ≤ qHi what) = true then ((f2_setQuality 2 (nI w) (nI what) (nI (tkV β n q1 r1)) x1).bind fun z4 => (f1_step z4).bind fun z5 => some ((1 : Int32), z5)) else some ((0 : Int32), x1)) else some ((0 : Int32), x1)) = some ((0 : Int32), x1) := by
        by_cases e : nI (sr β n q1) = 2
        · have e2 : sr β n q1 = 2 := n_inj (by have := sr_le β n q1; omega) (by omega) e
          rw [if_pos e, if_neg]
          simp only [decide_eq_true_eq]
          exact fun z => ok ⟨e2, z.1, z.2⟩
        · rw [if_neg e]
      rw [hx]
      refine ⟨0, x1, up (up m1 25 18 1) 26 (85 + 3 * w + what) w7, rfl, fun K => ?_, Or.inr ⟨rfl, q1, a2.2.1, a4.2.2.1, ?_, ?_⟩, hF1, FM_trans hG1 (FM_trans FM_wr FM_26)⟩
      · unfold mQ
        rw [bd b1]
        show (f4_numberRead (nI (qLo what)) (nI (qHi what)) m1).bind _ = _
        rw [bd d1]
        show (f4_sets (nI w) (nI what) w7 (up m1 25 18 1)).bind _ = _
        rw [bd (m_setsk hw (by omega))]
      · rw [up_ne1 _ _ _ _ (by decide), up_ne2 _ _ (by decide)]
        exact hM1.2.1
      · rw [up_ne1 _ _ _ _ (by decide), up_eq]
-- a trait
theorem m_partW {i : Nat} {c what : Int32} {m : St} (h : m 25 18 = 1) : f4_partTold i c what m = some m := by
  unfold f4_partTold
  rw [bd (m_takesW i h)]
  rfl
theorem P_trait {β : Nat → Nat} {n q r i c what : Nat} {x m : St} {τ : Nat → Nat} (h : PS β n x m τ q r) (hc : c < 16) (hk : what < 5) (hi : i < 17) : ∃ v x' m', f1_readTrait 2 i (nI c) (nI what) x = some (v, x') ∧ f4_partTold i (nI c) (nI what) m = some m' ∧ OUT β n q v x m x' m' := by
  obtain ⟨hT, hX, hM, hE⟩ := h
  have h' : PS β n x m τ q r := ⟨hT, hX, hM, hE⟩
  have hhi := mostT_le what
  unfold f1_readTrait f4_partTold
  rw [bd (x_word hX.1 (by omega) hE hX.2.1 hX.2.2.1 hX.2.2.2.1), b01_0]
  cases hwd : wdB β n i q r with
  | false =>
    refine ⟨1, x, m, rfl, ?_, Or.inl ⟨rfl, τ, q, r, h', by omega⟩, FX_refl x, FM_refl m⟩
    rw [bd (m_takes0 hM.1 hi hE hM.2.1 hM.2.2.1 hM.2.2.2 hwd)]
    rfl
  | true =>
    obtain ⟨q1, r1, x1, a1, a2, a3, a4, a5, a6⟩ := x_stepP hX hE
    obtain ⟨m1, b1, b2⟩ := m_takes1 hM.1 hi hE hM.2.1 hM.2.2.1 hM.2.2.2 hwd a2 a3
    have hM1 := PM_nw hM.1 b2
    have hT1 : TW x1 2 (m1 26) τ := TW_13 hT a5 (b2.2.2.2.2 26 (by decide))
    have hF1 := FX_13 a5 a6
    have hG1 := FM_nw b2
    have hvl : tkV β n q1 r1 ≤ 100000 := by
      unfold tkV
      split
      · exact vx_le _ _ _
      · omega
    have hpq : q ≤ q1 := Nat.le_trans hE.1 a2.1
    simp only [if_true]
    rw [bd a1, a4.2.1, a4.2.2.2.2, x_isTrait x1 _ hk, Option.bind_some, b01_0, nl0, wi_nn (by omega) (by omega) (by omega), mostOf_eq what hk, bd b1]
    show ∃ v x' m', _ ∧ ((f4_numberRead (nI 0) (nI (mostT what)) m1).bind fun q => match q with | (v4, z3) => if (z3 25 18) = nI 0 then (f4_builds (nI c) (nI what) v4 z3).bind fun z5 => some z5 else some z3) = some m' ∧ _
    by_cases ok : nOk β n q1 r1 0 (mostT what)
    · obtain ⟨o1, o2, o3⟩ := ok
      have hX2 : PX β n (up x1 (2 + 4 * 2) (5 * c + what) (nI (tkV β n q1 r1))) q1 r1 := PX_fr a4 (up_cell _ _ _ (by omega)) (up_cell _ _ _ (by omega))
      obtain ⟨q2, r2, x2, c1, c2, c3, c4, c5, c6⟩ := x_stepP hX2 a3
      obtain ⟨m2, d1, d2⟩ := m_num_ok hM1.1 a3 hM1.2.1 hM1.2.2.1 hM1.2.2.2 (by omega : mostT what ≤ 99999) ⟨o1, o2, o3⟩ c2 c3
      have hM2 := PM_nw hM1.1 d2
      have hT2 : TW x2 2 (up m2 26 (5 + 5 * c + what) (nI (tkV β n q1 r1)) 26) (upN τ (5 + 5 * c + what) (tkV β n q1 r1)) := by
        rw [up26, d2.2.2.2.2 26 (by decide)]
        exact TW_13 (TW_upt hT1 hc hk o3) c5 rfl
      rw [o1, if_pos (by decide : nI 2 = 2), if_pos (by simp [o3]), bd (x_setTk hc hk), bd c1, bd d1]
      refine ⟨nI 1, x2, up m2 26 (5 + 5 * c + what) (nI (tkV β n q1 r1)), rfl, ?_, Or.inl ⟨rfl, _, q2, r2, ⟨hT2, c4, PM_fr hM2 (up_cell _ _ _ (by decide)) (up_cell _ _ _ (by decide)), c3⟩, ?_⟩, FX_trans hF1 (FX_trans (FX_up (by omega)) (FX_13 c5 c6)), FM_trans hG1 (FM_trans (FM_nw d2) FM_26)⟩
      · show (if (m2 25 18) = nI 0 then (f4_builds (nI c) (nI what) (nI (tkV β n q1 r1)) m2).bind fun z5 => some z5 else some m2) = _
        rw [if_pos (show m2 25 18 = nI 0 from hM2.2.2.2), bd (m_buildsk hc hk)]
      · exact Nat.le_trans hpq (Nat.le_trans a3.1 c2.1)
    · obtain ⟨w7, d1⟩ := m_num_no hM1.1 a3 hM1.2.1 hM1.2.2.1 hM1.2.2.2 (by omega : mostT what ≤ 99999) (by omega : 0 ≤ 1) ok
      rw [bd d1]
      have hm : (if (up m1 25 18 1 25 18) = nI 0 then (f4_builds (nI c) (nI what) w7 (up m1 25 18 1)).bind fun z5 => some z5 else some (up m1 25 18 1)) = some (up m1 25 18 1) := by
        rw [up_eq, if_neg (by decide : ¬ (1 : Int32) = nI 0)]
      by_cases e : nI (sr β n q1) = 2
      · have e2 : sr β n q1 = 2 := n_inj (by have := sr_le β n q1; omega) (by omega) e
        have e3 : ¬ (decide (0 ≤ tkV β n q1 r1 ∧ tkV β n q1 r1 ≤ mostT what) = true) := by
          simp only [decide_eq_true_eq]
          exact fun z => ok ⟨e2, z.1, z.2⟩
        rw [if_pos e, if_neg e3]
        exact ⟨_, x1, up m1 25 18 1, rfl, hm, Or.inr ⟨rfl, q1, a2.2.1, a4.2.2.1, by rw [up_ne2 _ _ (by decide)]; exact hM1.2.1, up_eq _ _ _ _⟩, hF1, FM_trans hG1 FM_wr⟩
      · rw [if_neg e]
        exact ⟨_, x1, up m1 25 18 1, rfl, hm, Or.inr ⟨rfl, q1, a2.2.1, a4.2.2.1, by rw [up_ne2 _ _ (by decide)]; exact hM1.2.1, up_eq _ _ _ _⟩, hF1, FM_trans hG1 FM_wr⟩
