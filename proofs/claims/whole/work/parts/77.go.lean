theorem m_setsk {m : St} {w k : Nat} {v : Int32} (hw : w < 8) (hk : k < 3) : f4_sets (nI w) (nI k) v m = some (up m 26 (85 + 3 * w + k) v) := by
  match k, hk with
  | 0, _ => exact m_sets0 hw
  | 1, _ => exact m_sets1 hw
  | 2, _ => exact m_sets2 hw
-- the model with one number of a whisper (or one other) laid otherwise for a while
def MO (i0 : Nat) (m m' : St) : Prop := (∀ i, i < 119 → i ≠ i0 → m' 26 i = m 26 i) ∧ (∀ k, k ≠ 25 → k ≠ 26 → k ≠ 28 → m' k = m k) ∧ ∀ i, i ≠ 5 → i ≠ 6 → m' 25 i = m 25 i
theorem MO_refl (i0 : Nat) (m : St) : MO i0 m m := ⟨fun _ _ _ => rfl, fun _ _ _ _ => rfl, fun _ _ _ => rfl⟩
theorem MO_up {i0 : Nat} {m m' : St} (h : MO i0 m m') (v : Int32) : MO i0 m (up m' 26 i0 v) := ⟨fun i hi h0 => (up_ne2 _ _ h0).trans (h.1 i hi h0), fun k a b c => (up_cell _ _ _ b).trans (h.2.1 k a b c), fun i a b => (up_ne1 _ _ _ _ (by decide)).trans (h.2.2 i a b)⟩
theorem MO_mi {i0 : Nat} {m m1 m2 : St} (h : MO i0 m m1) (g : MI m1 m2) : MO i0 m m2 := ⟨fun i hi h0 => (g.1 i hi).trans (h.1 i hi h0), fun k a b c => (g.2.1 k a b c).trans (h.2.1 k a b c), fun i a b => (g.2.2 i a b).trans (h.2.2 i a b)⟩
theorem MO_end {i0 : Nat} {m m' : St} (h : MO i0 m m') : MI m (up m' 26 i0 (m 26 i0)) := by
  refine ⟨fun i hi => ?_, fun k a b c => (up_cell _ _ _ b).trans (h.2.1 k a b c), fun i a b => (up_ne1 _ _ _ _ (by decide)).trans (h.2.2 i a b)⟩
  by_cases e : i = i0
  · rw [e, up_eq]
  · rw [up_ne2 _ _ e]
    exact h.1 i hi e
theorem MO_tm {i0 : Nat} {m m' : St} {τ : Nat → Nat} (h : MO i0 m m') (hM : TM (m 26) τ) (v : Nat) : TM (up m' 26 i0 (nI v) 26) (upN τ i0 v) := by
  intro j a b c
  by_cases e : j = i0
  · rw [e, up_eq, upN_eq]
  · rw [up_ne2 _ _ e, upN_ne _ _ e, h.1 j (by omega) e]
    exact hM j a b c
-- kindFor
def KB (bx bm : Int32) : Prop := (bx = -1000004 ∧ bm = -1) ∨ ∃ j, j < 16 ∧ bx = nI j ∧ bm = nI j
theorem R_kind_L {x0 m0 : St} (h : REL x0 m0) {w : Nat} {τ : Nat → Nat} (hX0 : TX x0 0 τ) (hM0 : TM (m0 26) τ) (hI : IT τ) (hw : w < τ 1) : ∀ (d k F : Nat) (x m : St) (bx bm : Int32) (f : Nat), d + 1 ≤ F → k + d = 7 → KB bx bm → f ≤ 101 → XI x0 x → MO (85 + 3 * w + 0) m0 m → EQ (f3_kindFor_L27 F (nI w) bx (nI f) (nI k) x) (f4_kindFor_L30 F (nI w) (nI (qu τ w 0)) bm (nI f) (nI k) m)
  | d, k, 0, x, m, bx, bm, f, hF, hk, hb, hf, hx, hm => by omega
  | 0, k, F + 1, x, m, bx, bm, f, hF, hk, hb, hf, hx, hm => by
    have h8 := hI.1
    have hw8 : w < 8 := by omega
    have ho : m0 26 (85 + 3 * w + 0) = nI (qu τ w 0) := hM0 _ (by omega) (by omega) (by omega)
    have hr := REL_tr h hx (MO_end hm)
    rw [ho] at hr
    rw [f3_kindFor_L27_s, f4_kindFor_L30_s, nl7, i_le_t (by omega) (by omega), nl6, i_lt_t (by omega) (by omega), bd (m_sets0 hw8)]
    rcases hb with ⟨e1, e2⟩ | ⟨j, hj, e1, e2⟩
    · rw [e1, e2, if_pos rfl, if_neg (by decide : ¬ (0 : Int32) ≤ -1)]
      exact EQf3 hr (fun _ _ => rfl) (fun _ _ => rfl)
    · have e3 : ¬ nI j = -1000004 := by
        intro z
        have : (0 : Int32) ≤ nI j := by rw [nl0]; exact nI_le (by omega) (by omega)
        rw [z] at this
        exact absurd this (by decide)
      rw [e1, e2, if_neg e3, if_pos (by rw [nl0]; exact nI_le (by omega) (by omega))]
      exact EQs hr _
  | d + 1, k, F + 1, x, m, bx, bm, f, hF, hk, hb, hf, hx, hm => by
    have h8 := hI.1
    have hw8 : w < 8 := by omega
    have hX : TX x 0 τ := TX_fr hX0 (hx _ (by omega)) (hx _ (by omega)) (hx _ (by omega))
    have hJ : IT (upN τ (85 + 3 * w + 0) k) := IT_upq hI hw8 (by omega) (by simp; omega)
    obtain ⟨x1, q1, q2, q3⟩ := x_lends hX
    have q4 := TX_upq q2 (k := 0) k hw8 (by omega)
    obtain ⟨x2, r1, r2⟩ := x_home (w := w) hw8 q4 hJ
    have hx2 : XI x0 x2 := XI_trans (XI_trans (XI_trans hx q3) (fun a ha => up_cell _ _ _ (by omega))) (XI_roll r2)
    have s1 := MO_tm hm hM0 k
    have hw1 : w < upN τ (85 + 3 * w + 0) k 1 := by rw [upN_ne _ _ (by omega)]; exact hw
    obtain ⟨m3, t1, t2⟩ := m_home s1 hJ hw1
    have hm3 := MO_mi (MO_up hm (nI k)) t1
    have hl := home_le w 101 (upN τ (85 + 3 * w + 0) k)
    rw [f3_kindFor_L27_s, f4_kindFor_L30_s, nl7, i_le_f (by omega) (by omega), nl6, i_lt_f (by omega) (by omega), bd q1, bd (x_setQ0 hw8), bd r1, bd (m_sets0 hw8), bd t2]
    show EQ (if nI f ≤ nI (homeN w 101 (upN τ (85 + 3 * w + 0) k)) then f3_kindFor_b78 (f3_kindFor_L27 F) (nI w) bx (nI f) (nI k) x2 else f3_kindFor_b78 (f3_kindFor_L27 F) (nI w) (nI k) (nI (homeN w 101 (upN τ (85 + 3 * w + 0) k))) (nI k) x2) (if nI f ≤ nI (homeN w 101 (upN τ (85 + 3 * w + 0) k)) then f4_kindFor_b65 (f4_kindFor_L30 F) (nI w) (nI (qu τ w 0)) (nI f) (nI k) (nI (homeN w 101 (upN τ (85 + 3 * w + 0) k))) bm m3 else f4_kindFor_b65 (f4_kindFor_L30 F) (nI w) (nI (qu τ w 0)) (nI f) (nI k) (nI (homeN w 101 (upN τ (85 + 3 * w + 0) k))) (nI k) m3)
    unfold f3_kindFor_b78 f4_kindFor_b65
    rw [show nI k + 1 = nI (k + 1) by rw [nl1, nI_add]]
    by_cases e : f ≤ homeN w 101 (upN τ (85 + 3 * w + 0) k)
    · rw [i_le_t e (by omega), i_le_t e (by omega), i_lt_f e (by omega)]
      exact R_kind_L h hX0 hM0 hI hw d (k + 1) F x2 m3 bx bm f (by omega) (by omega) hb hf hx2 hm3
    · rw [i_le_f (by omega) (by omega), i_le_f (by omega) (by omega), i_lt_t (by omega) (by omega)]
      exact R_kind_L h hX0 hM0 hI hw d (k + 1) F x2 m3 _ _ _ (by omega) (by omega) (Or.inr ⟨k, by omega, rfl, rfl⟩) hl hx2 hm3
theorem R_kindFor {x m : St} (h : REL x m) (a : Int32) : EQ (f3_kindFor a x) (f4_kindFor a m) := by
  have hh := h
  obtain ⟨⟨τ, hI, hM, hX, ⟨h9, h0, h6⟩, hz, hs⟩, hR⟩ := h
  have h8 := hI.1
  unfold f3_kindFor f4_kindFor
  rw [x_hasW hX, bd (m_isW hM hI a)]
  rcases clsW hI a with e | ⟨w, hw, e⟩
  · simp only [e, b01_f, n00, if_true]
    exact EQf0 hh (fun _ _ => rfl) (fun _ _ => rfl)
  · subst e
    simp only [isW_t hI hw, b01_t, n10, if_false]
    rw [bd (m_its0 hM (by omega))]
    exact R_kind_L hh hX hM hI hw 7 0 fu x m _ _ 101 (by rw [fu_eq]; omega) (by omega) (Or.inl ⟨rfl, rfl⟩) (by omega) (XI_refl x) (MO_refl _ m)
-- where one goes by
def sGoes (τ : Nat → Nat) (w c : Nat) : Nat := 2 ^ c ||| wayS w 100 (upN τ (85 + 3 * w + 1) c)
theorem m_goes {m : St} {τ : Nat → Nat} {w c : Nat} (hM : TM (m 26) τ) (hI : IT τ) (hw : w < τ 1) (hc : c < 16) : ∃ m3, MI m m3 ∧ f4_goesFrom (nI w) (nI c) m = some (nI (sGoes τ w c), m3) := by
  have h8 := hI.1
  have hw8 : w < 8 := by omega
  have hJ : IT (upN τ (85 + 3 * w + 1) c) := IT_upq hI hw8 (by omega) (by simp; omega)
  obtain ⟨m1, p1, p2, p3, p4⟩ := m_lends m
  have hM1 : TM (up (up (up m1 26 (85 + 3 * w + 1) (nI c)) 25 5 ((1 : Int32) <<< (nI c &&& 31))) 25 6 (nI w) 26) (upN τ (85 + 3 * w + 1) c) := by
    rw [up_cell _ _ _ (by decide), up_cell _ _ _ (by decide)]
    exact TM_up (by rw [p3]; exact hM) _ c
  obtain ⟨m2, s1, s2, s3, _, s5⟩ := m_mins 100 (by omega) hM1 hJ
  have s5' := s5 w (by rw [upN_ne _ _ (by omega)]; exact hw) (up_eq _ _ _ _)
  have ht : TR m (up (up (up m1 26 (85 + 3 * w + 1) (nI c)) 25 5 ((1 : Int32) <<< (nI c &&& 31))) 25 6 (nI w)) := by
    refine ⟨fun i hi => ?_, fun k a b d => ?_, fun i a b => ?_⟩
    · rw [up_cell _ _ _ (by decide), up_cell _ _ _ (by decide), up_cell _ _ _ (by decide)]
      exact p2.1 i hi
    · rw [up_cell _ _ _ a, up_cell _ _ _ a, up_cell _ _ _ b]
      exact p2.2.1 k a b d
    · rw [up_ne2 _ _ b, up_ne2 _ _ a, up_cell _ _ _ (by decide)]
      exact p2.2.2 i a b
  obtain ⟨m3, t1, t2, t3⟩ := m_lays (TR_min ht s3)
  refine ⟨m3, t2, ?_⟩
  unfold f4_goesFrom
  rw [bd p1, bd (m_sets1 hw8), nl100, bd s1, bd t1, t3, s5', up_ne2 _ _ (by decide), up_eq, i_shl _ hc, i_or]
  rfl
theorem upN_self (τ : Nat → Nat) (i : Nat) : upN τ i (τ i) = τ := by
  funext j
  unfold upN
  split
  · rename_i e; rw [e]
  · rfl
theorem R_goesBy {x m : St} (h : REL x m) (a : Int32) : EQ (f3_goesBy a x) (f4_goesBy a m) := by
  have hh := h
  obtain ⟨⟨τ, hI, hM, hX, ⟨h9, h0, h6⟩, hz, hs⟩, hR⟩ := h
  have h8 := hI.1
  unfold f3_goesBy f4_goesBy
  rw [x_hasW hX, bd (m_isW hM hI a)]
  rcases clsW hI a with e | ⟨w, hw, e⟩
  · simp only [e, b01_f, n00, if_true]
    exact EQf0 hh (fun _ _ => rfl) (fun _ _ => rfl)
  · subst e
    have hq := it_w hI (w := w) (by omega)
    simp only [isW_t hI hw, b01_t, n10, if_false]
    obtain ⟨x1, q1, q2, q3⟩ := x_lends hX
    obtain ⟨x2, r1, r2, r3⟩ := x_way (n := 100) (w := w) (by omega) (by omega) q2 hI
    obtain ⟨m3, t1, t2⟩ := m_goes (c := qu τ w 1) hM hI hw (by omega)
    have e : sGoes τ w (qu τ w 1) = 2 ^ qu τ w 1 ||| wayS w 100 τ := by
      unfold sGoes
      rw [show upN τ (85 + 3 * w + 1) (qu τ w 1) = τ from upN_self τ _]
    rw [bd q1, nl100, bd r1, bd (m_its1 hM (by omega)), bd t2, e]
    exact EQs (REL_tr hh (XI_trans q3 (XI_roll r3)) t1) _
-- go
theorem TM_0 {s : Nat → Int32} {τ : Nat → Nat} (h : TM s τ) (v : Nat) : TM s (upN τ 0 v) := fun i a b c => by rw [upN_ne _ _ (by omega)]; exact h i a b c
theorem TX_0 {x : St} {t : Nat} {τ : Nat → Nat} (h : TX x t τ) (v : Nat) : TX x t (upN τ 0 v) := by
  refine ⟨fun i hi => ?_, fun i hi => ?_, ?_, ?_, ?_⟩
  · rw [upN_ne _ _ (by omega)]; exact h.1 i hi
  · rw [upN_ne _ _ (by omega)]; exact h.2.1 i hi
  · rw [upN_ne _ _ (by omega)]; exact h.2.2.1
  · rw [upN_ne _ _ (by omega)]; exact h.2.2.2.1
  · rw [upN_ne _ _ (by omega)]; exact h.2.2.2.2
theorem TW_pass {x m x' m' : St} {τ σ : Nat → Nat} {n : Nat} (h : TW x 0 (m 26) τ) (hn : τ 0 + n ≤ 99999) (hJ : IT σ) (hX : TX x' 0 σ) (r3 : x' (1 + 4 * 0) 6 = (if (99999 : Int32) < x (1 + 4 * 0) 6 + nI n then (99999 : Int32) else x (1 + 4 * 0) 6 + nI n)) (r4 : ∀ k, k ≠ 3 + 4 * 0 → k ≠ 1 + 4 * 0 → x' k = x k) (r5 : ∀ i, i ≠ 6 → x' (1 + 4 * 0) i = x (1 + 4 * 0) i) (hM : TM (m' 26) σ) (s3 : RMm m m') (s4 : m' 26 0 = m 26 0 + nI n) : TW x' 0 (m' 26) (upN σ 0 (τ 0 + n)) := by
  obtain ⟨hI, hM0, hX0, ⟨h0, h1, h2⟩, hz, hs⟩ := h
  refine ⟨IT_up hJ (Or.inl rfl), TM_0 hM _, TX_0 hX _, ⟨?_, ?_, ?_⟩, ?_, fun i hi => ?_⟩
  · rw [upN_eq]; exact hn
  · rw [upN_eq, s4, h1, nI_add]
  · rw [upN_eq, r3, h2, nI_add, nl99999, i_lt_f (by omega) (by omega)]
  · rw [r5 7 (by omega), s3.2.2 4 (by omega) (by omega)]; exact hz
  · rw [r4 _ (by omega) (by omega), s3.2.2 _ (by omega) (by omega)]; exact hs i hi
theorem XR_pass {x x' : St} (r4 : ∀ k, k ≠ 3 + 4 * 0 → k ≠ 1 + 4 * 0 → x' k = x k) : XR x x' := fun k a b => r4 k (by omega) (by omega)
theorem MR_min {m m' : St} (s3 : RMm m m') : MR m m' := ⟨fun k a b _ _ _ => s3.1 k a b, s3.2.1 3 (by omega), s3.2.1 15 (by omega)⟩
theorem R_go {x m : St} (h : REL x m) (a : Int32) : EQ (f3_go a x) (f4_go a m) := by
  have hh := h
  obtain ⟨⟨τ, hI, hM, hX, ⟨h9, h0, h6⟩, hz, hs⟩, hR⟩ := h
  have hW : TW x 0 (m 26) τ := ⟨hI, hM, hX, ⟨h9, h0, h6⟩, hz, hs⟩
  unfold f3_go f4_go
  have ex : f3_isWithin a 1 60 = b01 (wi a 1 (nI 60)) := x_within a 1 60
  have em : f4_in a.toInt64 1 60 = b01 (wi a 1 (nI 60)) := m_in a 1 60
  rw [ex, em, if_neg g119_0, cl_0, h0, h6]
  rcases cls1 a 60 (by omega) with e | ⟨n, hn1, hn, e⟩
  · simp only [e, b01_f, n00, if_true]
    exact EQf0 hh (fun _ _ => rfl) (fun _ _ => rfl)
  · subst e
    simp only [wi_t1 hn1 hn (by omega), b01_t, n10, if_false]
    rw [nI_add, nl99999]
    by_cases e : τ 0 + n ≤ 99999
    · rw [i_le_t e (by omega), i_le_t e (by omega)]
      obtain ⟨x2, r1, r2, r3, r4, r5⟩ := x_pass (n := n) (by omega) hX hI
      obtain ⟨m2, s1, s2, s3, s4, _⟩ := m_mins n (by omega) hM hI
      have hJ := ms_it n hI
      have hT := TW_pass hW e hJ r2 r3 r4 r5 s2 s3 s4
      rw [bd r1, bd s1, nl15, bd (m_loud s2 hJ (by omega))]
      refine ⟨nI (sLoud (mins n τ) 15), x2, m2, ?_, rfl, REL_mk hR hT (XR_pass r4) (MR_min s3)⟩
      exact bd (x_loud r2 hJ (by omega))
    · rw [i_le_f (by omega) (by omega), i_le_f (by omega) (by omega)]
      exact EQf4 hh (fun _ _ => rfl) (fun _ _ => rfl)
-- frosts
theorem i_ofBV {a : Int32} {k : Nat} (h : a.toBitVec.toNat = k) : a = nI k := by
  apply Int32.toBitVec_inj.1
  apply BitVec.eq_of_toNat_eq
  show a.toBitVec.toNat = (BitVec.ofNat 32 k).toNat
  rw [BitVec.toNat_ofNat, h, Nat.mod_eq_of_lt]
  rw [← h]
  exact a.toBitVec.isLt
theorem draw_ok (z : Int32) : ∃ j, j < 2 ∧ ((z.toUInt32 >>> ((8 : Int32).toUInt32 &&& Int32.toUInt32 31)).toInt32 - (z.toUInt32 >>> ((8 : Int32).toUInt32 &&& Int32.toUInt32 31)).toInt32 / (2 : Int32) * (2 : Int32)) = nI j := by
  have h1 := pk_ushr z 8 8 (by decide)
  have h2 := z.toBitVec.isLt
  rw [i_ofBV h1, nl2, pk_div (by omega) (by omega) (by omega), pk_mul, pk_sub (by omega)]
  exact ⟨_, by omega, rfl⟩
theorem R_frosts_L {N : Nat} (hN : N < 100) : ∀ (d n F : Nat) (x m : St) (v : Int32) (τ : Nat → Nat), d + 1 ≤ F → n + d = N → TW x 0 (m 26) τ → RST x m → τ 0 + d ≤ 99999 → EQ (f3_frosts_L42 F (nI N) v (nI n) x) (f4_frosts_L41 F (nI N) v (nI n) m)
  | d, n, 0, x, m, v, τ, hF, hn, hW, hR, hd => by omega
  | 0, n, F + 1, x, m, v, τ, hF, hn, hW, hR, hd => by
    rw [f3_frosts_L42_s, f4_frosts_L41_s, i_le_t (by omega) (by omega), i_le_t (by omega) (by omega)]
    exact EQs ⟨⟨τ, hW⟩, hR⟩ v
  | d + 1, n, F + 1, x, m, v, τ, hF, hn, hW, hR, hd => by
    have hz := hW.2.2.2.2.1
    have hm4 : (nI (τ 0)) = nI (τ 0) := rfl
    rw [f3_frosts_L42_s, f4_frosts_L41_s, i_le_f (by omega) (by omega), i_le_f (by omega) (by omega)]
    have hdm : f4_draw m = some (((m 26 4 * (1103515245 : Int32) + 12345).toUInt32 >>> ((8 : Int32).toUInt32 &&& Int32.toUInt32 31)).toInt32, up m 26 4 (m 26 4 * (1103515245 : Int32) + 12345)) := by
      unfold f4_draw
      rw [if_neg g119_4, if_neg g119_4, if_neg g119_4, cl_4, up_eq]
    have hdx : f2_draw 0 x = (((m 26 4 * (1103515245 : Int32) + 12345).toUInt32 >>> ((8 : Int32).toUInt32 &&& Int32.toUInt32 31)).toInt32, up x (1 + 4 * 0) 7 (m 26 4 * (1103515245 : Int32) + 12345)) := by
      unfold f2_draw
      rw [up_eq, hz]
    obtain ⟨j, hj, ej⟩ := draw_ok (m 26 4 * (1103515245 : Int32) + 12345)
    rw [hdx, bd hdm]
    simp only [if_neg g119_2]
    rw [ej, cl_2]
    have hW1 := TW_upz hW (m 26 4 * (1103515245 : Int32) + 12345)
    rw [← up26] at hW1
    have hW2 := TW_up2 hW1 (v := j) (by omega)
    rw [← up26] at hW2
    have hI2 := hW2.1
    obtain ⟨x2, r1, r2, r3, r4, r5⟩ := x_pass (n := 1) (by omega) hW2.2.2.1 hI2
    obtain ⟨m2, s1, s2, s3, s4, _⟩ := m_min hW2.2.1 hI2
    have r2' : TX x2 0 (sMin (upN τ 2 j)) := r2
    have hJ := sm_it hI2
    have hT := TW_pass (n := 1) hW2 (by rw [upN_ne _ _ (by omega)]; omega) hJ r2' r3 r4 r5 s2 s3 s4
    rw [nl1, bd r1, bd s1, nl15, bd (m_heard s2 hJ (by omega)), b01_0]
    have hX' : XR x x2 := XR_trans (XR_trans (XR_up (by omega)) (XR_up (by omega))) (XR_pass r4)
    have hM' : MR m m2 := MR_trans (MR_trans MR_up MR_up) (MR_min s3)
    have hR' := RST_fr hR hX' hM'
    show EQ ((f2_isHeardAt 0 (nI 15) x2).bind fun v7 => if v7 = 0 then f3_frosts_b87 (f3_frosts_L42 F) (nI N) v (nI n) x2 else f3_frosts_b87 (f3_frosts_L42 F) (nI N) (v + nI 1) (nI n) x2) _
    rw [bd (x_heard r2' hJ (by omega)), b01_0]
    unfold f3_frosts_b87 f4_frosts_b77
    have e0 : v + 0 = v := Int32.add_zero v
    rw [e0, nl1, nI_add]
    have hd' : upN (sMin (upN τ 2 j)) 0 (upN τ 2 j 0 + 1) 0 + d ≤ 99999 := by rw [upN_eq, upN_ne _ _ (by omega)]; omega
    by_cases e : sHeard (sMin (upN τ 2 j)) 15 = true
    · rw [if_pos e, if_pos e]
      exact R_frosts_L hN d (n + 1) F x2 m2 _ _ (by omega) (by omega) hT hR' hd'
    · rw [if_neg e, if_neg e]
      exact R_frosts_L hN d (n + 1) F x2 m2 _ _ (by omega) (by omega) hT hR' hd'
theorem R_frosts {x m : St} (h : REL x m) (a : Int32) : EQ (f3_frosts a x) (f4_frosts a m) := by
  have hh := h
  obtain ⟨⟨τ, hI, hM, hX, ⟨h9, h0, h6⟩, hz, hs⟩, hR⟩ := h
  have hW : TW x 0 (m 26) τ := ⟨hI, hM, hX, ⟨h9, h0, h6⟩, hz, hs⟩
  unfold f3_frosts f4_frosts
  have ex : f3_isWithin a 1 20 = b01 (wi a 1 (nI 20)) := x_within a 1 20
  have em : f4_in a.toInt64 1 20 = b01 (wi a 1 (nI 20)) := m_in a 1 20
  rw [ex, em, if_neg g119_0, cl_0, h0, h6]
  rcases cls1 a 20 (by omega) with e | ⟨n, hn1, hn, e⟩
  · simp only [e, b01_f, n00, if_true]
    exact EQf0 hh (fun _ _ => rfl) (fun _ _ => rfl)
  · subst e
    simp only [wi_t1 hn1 hn (by omega), b01_t, n10, if_false]
    rw [nI_add, nl99999]
    by_cases e : τ 0 + n ≤ 99999
    · rw [i_le_t e (by omega), i_le_t e (by omega)]
      exact R_frosts_L (by omega) n 0 fu x m 0 τ (by rw [fu_eq]; omega) (by omega) hW hR e
    · rw [i_le_f (by omega) (by omega), i_le_f (by omega) (by omega)]
      exact EQf4 hh (fun _ _ => rfl) (fun _ _ => rfl)
