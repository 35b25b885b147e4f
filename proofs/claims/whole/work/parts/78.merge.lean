-- all at a corner become one
def mgN (c W : Nat) : Nat → Nat → Bool → (Nat → Nat) → (Nat → Nat)
  | 0, _, _, τ => τ
  | d + 1, w, fi, τ => if qu τ w 1 = c then (if fi then mgN c W d (w + 1) false (upN τ (85 + 3 * w + 2) W) else mgN c W d (w + 1) false (upN (upN τ (85 + 3 * w + 1) 15) (85 + 3 * w + 2) 1)) else mgN c W d (w + 1) fi τ
def cnF (c : Nat) : Nat → Nat → (Nat → Nat) → Nat
  | 0, _, _ => 0
  | d + 1, b, τ => wAt τ c b + cnF c d (b + 1) τ
theorem cn_congr {c : Nat} {τ σ : Nat → Nat} : ∀ (d b : Nat), (∀ w, b ≤ w → qu σ w 1 = qu τ w 1) → cnF c d b σ = cnF c d b τ
  | 0, _, _ => rfl
  | d + 1, b, h => by
    unfold cnF wAt
    rw [h b (by omega), cn_congr d (b + 1) (fun w hw => h w (by omega))]
theorem cn_sum (c : Nat) (τ : Nat → Nat) : ∀ (d b : Nat), sumN (wAt τ c) b + cnF c d b τ = sumN (wAt τ c) (b + d)
  | 0, b => rfl
  | d + 1, b => by
    have := cn_sum c τ d (b + 1)
    rw [show b + (d + 1) = b + 1 + d by omega, ← this]
    show sumN (wAt τ c) b + (wAt τ c b + cnF c d (b + 1) τ) = sumN (wAt τ c) b + wAt τ c b + cnF c d (b + 1) τ
    omega
theorem mg_none {c W : Nat} : ∀ (d b : Nat) (fi : Bool) (τ : Nat → Nat), cnF c d b τ = 0 → mgN c W d b fi τ = τ
  | 0, _, _, _, _ => rfl
  | d + 1, b, fi, τ, h => by
    unfold cnF at h
    have h1 : ¬ qu τ b 1 = c := by
      intro e
      unfold wAt at h
      rw [if_pos e] at h
      omega
    unfold mgN
    rw [if_neg h1]
    exact mg_none d (b + 1) fi τ (by omega)
theorem mg_lo {c W : Nat} : ∀ (d b : Nat) (fi : Bool) (τ : Nat → Nat) {i : Nat}, i < 85 → mgN c W d b fi τ i = τ i
  | 0, _, _, _, _, _ => rfl
  | d + 1, b, fi, τ, i, hi => by
    unfold mgN
    split
    · split
      · rw [mg_lo d _ _ _ hi, upN_ne _ _ (by omega)]
      · rw [mg_lo d _ _ _ hi, upN_ne _ _ (by omega), upN_ne _ _ (by omega)]
    · rw [mg_lo d _ _ _ hi]
theorem mg_it {c W : Nat} (hW : W ≤ 999) : ∀ (d b : Nat) (fi : Bool) (τ : Nat → Nat), b + d ≤ 8 → IT τ → IT (mgN c W d b fi τ)
  | 0, _, _, _, _, h => h
  | d + 1, b, fi, τ, hb, h => by
    unfold mgN
    split
    · split
      · exact mg_it hW d _ _ _ (by omega) (IT_upq h (by omega) (by omega) (by simp; omega))
      · exact mg_it hW d _ _ _ (by omega) (IT_upq (IT_upq h (by omega) (by omega) (by simp)) (by omega) (by omega) (by simp))
    · exact mg_it hW d _ _ _ (by omega) h
theorem x_merge_L {c W : Nat} (hc : c < 16) (hW : W ≤ 999) : ∀ (d b : Nat) (fi : Bool) (τ : Nat → Nat) (x : St) (F : Nat), d + 1 ≤ F → b + d = τ 1 → TX x 0 τ → IT τ → ∃ x', f2_mergeAt_L17 0 F (nI c) (nI W) (b01 fi) (nI b) x = some x' ∧ TX x' 0 (mgN c W d b fi τ) ∧ ∀ k, k ≠ 3 + 4 * 0 → x' k = x k
  | d, b, fi, τ, x, 0, hF, hb, hX, hI => by omega
  | 0, b, fi, τ, x, F + 1, hF, hb, hX, hI => by
    have h8 := hI.1
    rw [f2_mergeAt_L17_s, hX.2.2.1, i_le_t (by omega) (by omega)]
    exact ⟨x, rfl, hX, fun _ _ => rfl⟩
  | d + 1, b, fi, τ, x, F + 1, hF, hb, hX, hI => by
    have h8 := hI.1
    have h1 := it_w hI (w := b) (by omega)
    rw [f2_mergeAt_L17_s, hX.2.2.1, i_le_f (by omega) (by omega), bd (x_its1 hX (by omega))]
    unfold f2_mergeAt_b72 f2_mergeAt_b74 mgN
    rw [show nI b + 1 = nI (b + 1) by rw [nl1, nI_add]]
    by_cases e : qu τ b 1 = c
    · rw [i_eq_t e, if_pos e, b01_0]
      cases fi
      · simp only [Bool.false_eq_true, if_false]
        rw [bd (x_setQ1 (by omega)), bd (x_setQ2 (by omega))]
        have t1 := TX_upq (TX_upq hX (w := b) (k := 1) 15 (by omega) (by omega)) (w := b) (k := 2) 1 (by omega) (by omega)
        obtain ⟨x', q1, q2, q3⟩ := x_merge_L hc hW d (b + 1) false _ _ F (by omega) (by rw [upN_ne _ _ (by omega), upN_ne _ _ (by omega)]; omega) t1 (IT_upq (IT_upq hI (by omega) (by omega) (by simp)) (by omega) (by omega) (by simp))
        exact ⟨x', q1, q2, fun k hk => by rw [q3 k hk, up_cell _ _ _ hk, up_cell _ _ _ hk]⟩
      · simp only [if_true]
        rw [bd (x_setQ2 (by omega))]
        have t1 := TX_upq hX (w := b) (k := 2) W (by omega) (by omega)
        obtain ⟨x', q1, q2, q3⟩ := x_merge_L hc hW d (b + 1) false _ _ F (by omega) (by rw [upN_ne _ _ (by omega)]; omega) t1 (IT_upq hI (by omega) (by omega) (by simp; omega))
        exact ⟨x', q1, q2, fun k hk => by rw [q3 k hk, up_cell _ _ _ hk]⟩
    · rw [i_eq_f e (by omega) (by omega), if_neg e]
      exact x_merge_L hc hW d (b + 1) fi τ x F (by omega) (by omega) hX hI
def FB (fi : Bool) (fs : Int32) : Prop := (fi = true ∧ fs = -1) ∨ (fi = false ∧ ∃ w, w < 8 ∧ fs = nI w)
theorem m_merge_L {c S : Nat} (hc : c < 16) (hS : S < 10000) : ∀ (d b : Nat) (fi : Bool) (fs : Int32) (many : Nat) (τ : Nat → Nat) (m : St) (F : Nat), d + 1 ≤ F → b + d = τ 1 → many ≤ b → FB fi fs → TM (m 26) τ → IT τ → ∃ m', f4_merge_L27 F (nI c) (nI many) fs (nI S) (nI b) m = (if many + cnF c d b τ = 0 then ((f4_finds (3 : Int32) m').bind fun q => match q with | (v5, z4) => some (v5, z4)) else some (nI (many + cnF c d b τ), m')) ∧ TM (m' 26) (mgN c (min S 999) d b fi τ) ∧ RM m m'
  | d, b, fi, fs, many, τ, m, 0, hF, hb, hn, hf, hM, hI => by omega
  | 0, b, fi, fs, many, τ, m, F + 1, hF, hb, hn, hf, hM, hI => by
    have h8 := hI.1
    rw [f4_merge_L27_s, if_neg g119_1, m_many hM, i_le_t (by omega) (by omega)]
    refine ⟨m, ?_, hM, RM_refl m⟩
    unfold cnF
    rw [Nat.add_zero]
    by_cases e : many = 0
    · rw [if_pos e, e, if_pos (by decide : nI 0 = 0)]
    · rw [if_neg e, nl0, i_eq_f e (by omega) (by omega)]
  | d + 1, b, fi, fs, many, τ, m, F + 1, hF, hb, hn, hf, hM, hI => by
    have h8 := hI.1
    have h1 := it_w hI (w := b) (by omega)
    rw [f4_merge_L27_s, if_neg g119_1, m_many hM, i_le_f (by omega) (by omega), bd (m_its1 hM (by omega))]
    unfold f4_merge_b94 mgN cnF
    rw [show nI b + 1 = nI (b + 1) by rw [nl1, nI_add]]
    by_cases e : qu τ b 1 = c
    · have ew : wAt τ c b = 1 := by unfold wAt; rw [if_pos e]
      rw [i_eq_t e, if_pos e, ew, show nI many + 1 = nI (many + 1) by rw [nl1, nI_add], ← Nat.add_assoc]
      rcases hf with ⟨f1, f2⟩ | ⟨f1, w, f2, f3⟩
      · rw [f1, f2, if_neg (by decide : ¬ (0 : Int32) ≤ -1), nl999, i_min (by omega) (by omega), bd (m_sets2 (by omega))]
        have t1 := TM_up hM (85 + 3 * b + 2) (min S 999)
        obtain ⟨m', q1, q2, q3⟩ := m_merge_L hc hS d (b + 1) false (nI b) (many + 1) _ _ F (by omega) (by rw [upN_ne _ _ (by omega)]; omega) (by omega) (Or.inr ⟨rfl, b, by omega, rfl⟩) t1 (IT_upq hI (by omega) (by omega) (by simp; omega))
        rw [cn_congr (τ := τ) d (b + 1) (fun w hw => by unfold qu; rw [upN_ne _ _ (by omega)])] at q1
        refine ⟨m', q1, q2, RM_trans ⟨fun k a b' => up_cell _ _ _ b', fun i a => up_ne1 _ _ _ _ (by decide), fun i a => up_ne2 _ _ (by omega)⟩ q3⟩
      · have e0 : (0 : Int32) ≤ nI w := by rw [nl0]; exact nI_le (by omega) (by omega)
        rw [f1, f3, if_pos e0, bd (m_sets1 (by omega)), bd (m_sets2 (by omega))]
        have t1 := TM_up (TM_up hM (85 + 3 * b + 1) 15) (85 + 3 * b + 2) 1
        obtain ⟨m', q1, q2, q3⟩ := m_merge_L hc hS d (b + 1) false (nI w) (many + 1) _ _ F (by omega) (by rw [upN_ne _ _ (by omega), upN_ne _ _ (by omega)]; omega) (by omega) (Or.inr ⟨rfl, w, f2, rfl⟩) t1 (IT_upq (IT_upq hI (by omega) (by omega) (by simp)) (by omega) (by omega) (by simp))
        rw [cn_congr (τ := τ) d (b + 1) (fun w hw => by unfold qu; rw [upN_ne _ _ (by omega), upN_ne _ _ (by omega)])] at q1
        refine ⟨m', q1, q2, RM_trans ⟨fun k a b' => (up_cell _ _ _ b').trans (up_cell _ _ _ b'), fun i a => (up_ne1 _ _ _ _ (by decide)).trans (up_ne1 _ _ _ _ (by decide)), fun i a => (up_ne2 _ _ (by omega)).trans (up_ne2 _ _ (by omega))⟩ q3⟩
    · have ew : wAt τ c b = 0 := by unfold wAt; rw [if_neg e]
      rw [i_eq_f e (by omega) (by omega), if_neg e, ew, Nat.zero_add]
      exact m_merge_L hc hS d (b + 1) fi fs many τ m F (by omega) (by omega) (by omega) hf hM hI
theorem TW_q {x m x' m' : St} {τ σ : Nat → Nat} (h : TW x 0 (m 26) τ) (hJ : IT σ) (e0 : σ 0 = τ 0) (hX : TX x' 0 σ) (hM : TM (m' 26) σ) (r : ∀ k, k ≠ 3 + 4 * 0 → x' k = x k) (s : RM m m') : TW x' 0 (m' 26) σ := by
  obtain ⟨hI, hM0, hX0, ⟨h0, h1, h2⟩, hz, hs⟩ := h
  refine ⟨hJ, hM, hX, ⟨?_, ?_, ?_⟩, ?_, fun i hi => ?_⟩
  · rw [e0]; exact h0
  · rw [e0, s.2.2 0 (by omega)]; exact h1
  · rw [e0, r _ (by omega)]; exact h2
  · rw [r _ (by omega), s.2.2 4 (by omega)]; exact hz
  · rw [r _ (by omega), s.2.2 _ (by omega)]; exact hs i hi
theorem R_merge {x m : St} (h : REL x m) (a : Int32) : EQ (f3_merge a x) (f4_merge a m) := by
  have hh := h
  obtain ⟨⟨τ, hI, hM, hX, ⟨h9, h0, h6⟩, hz, hs⟩, hR⟩ := h
  have hW : TW x 0 (m 26) τ := ⟨hI, hM, hX, ⟨h9, h0, h6⟩, hz, hs⟩
  have h8 := hI.1
  unfold f3_merge f4_merge
  rw [x_isCorner, m_isCorner]
  rcases cls0 a 15 (by omega) with e | ⟨c, hc, e⟩
  · simp only [e, b01_f, n00, if_true]
    exact EQf0 hh (fun _ _ => rfl) (fun _ _ => rfl)
  · subst e
    simp only [wi_t hc (by omega), b01_t, n10, if_false]
    have hl := sl_le hI c
    have hcn := cn_sum c τ (τ 1) 0
    rw [Nat.zero_add] at hcn
    have hcn' : cnF c (τ 1) 0 τ = sThere τ c := by
      unfold sThere
      rw [← hcn]
      unfold sumN
      omega
    have hts : sThere τ c ≤ 8 := Nat.le_trans (st_le τ c _) h8
    obtain ⟨m', p1, p2, p3⟩ := m_merge_L (c := c) (S := sLoud τ c) (by omega) (by omega) (τ 1) 0 true (-1) 0 τ m fu (by rw [fu_eq]; omega) (by omega) (by omega) (Or.inl ⟨rfl, rfl⟩) hM hI
    rw [Nat.zero_add, hcn'] at p1
    have p1' : f4_merge_L27 fu (nI c) (0 : Int32) (-1 : Int32) (nI (sLoud τ c)) (0 : Int32) m = _ := p1
    have hm : MR m m' := MR_min (RM_m p3)
    rw [bd (x_there hX hI (by omega)), bd (m_loud hM hI (by omega)), p1']
    by_cases e : sThere τ c = 0
    · rw [if_pos e, e, if_pos (by decide : nI 0 = 0)]
      rw [mg_none (τ 1) 0 true τ (by rw [hcn', e])] at p2
      exact EQf3 (REL_mk hR (TW_q hW hI rfl hX p2 (fun _ _ => rfl) p3) (XR_refl x) hm) (fun _ _ => rfl) (fun _ _ => rfl)
    · rw [if_neg e, nl0, i_eq_f e (by omega) (by omega)]
      obtain ⟨x', q1, q2, q3⟩ := x_merge_L (c := c) (W := min (sLoud τ c) 999) (by omega) (by omega) (τ 1) 0 true τ x fu (by rw [fu_eq]; omega) (by omega) hX hI
      have q0 : f2_mergeAt 0 (nI c) x = some x' := by
        unfold f2_mergeAt
        rw [bd (x_loud hX hI (by omega)), nl999, i_mn (b := 0) (by omega)]
        exact q1
      rw [bd q0]
      have hJ := mg_it (c := c) (W := min (sLoud τ c) 999) (by omega) (τ 1) 0 true τ (by omega) hI
      exact EQ_mk hR (TW_q hW hJ (mg_lo _ _ _ _ (by omega)) q2 p2 q3 p3) (fun k a b => q3 k (by omega)) hm
-- an aunt more
theorem TX_up3 {x : St} {t : Nat} {τ : Nat → Nat} (hX : TX x t τ) (v : Nat) : TX (up x (1 + 4 * t) 4 (nI v)) t (upN τ 3 v) := by
  refine ⟨fun i hi => ?_, fun i hi => ?_, ?_, ?_, ?_⟩
  · rw [up_ne1 _ _ _ _ (by omega), upN_ne _ _ (by omega)]; exact hX.1 i hi
  · rw [up_ne1 _ _ _ _ (by omega), upN_ne _ _ (by omega)]; exact hX.2.1 i hi
  · rw [up_ne2 _ _ (by omega), upN_ne _ _ (by omega)]; exact hX.2.2.1
  · rw [up_eq, upN_eq]
  · rw [up_ne2 _ _ (by omega), upN_ne _ _ (by omega)]; exact hX.2.2.2.2
def AB (c : Nat) (bx lx bm lm : Int32) : Prop := (c = 0 ∧ bx = 0 ∧ lx = nI 1000000 ∧ bm = -1) ∨ ∃ j l, j < 16 ∧ l ≤ 7992 ∧ bx = nI j ∧ bm = nI j ∧ lx = nI l ∧ lm = nI l
theorem R_aunt_L {x0 m0 : St} (h : REL x0 m0) {n : Nat} {τ : Nat → Nat} (hn : n ≤ 40) (hX0 : TX x0 0 τ) (hM0 : TM (m0 26) τ) (hI : IT τ) : ∀ (d c F : Nat) (x m : St) (bx lx bm lm : Int32), d + 1 ≤ F → c + d = 16 → AB c bx lx bm lm → XI x0 x → MO 3 m0 m → EQ (f3_aunt_L25 F (nI n) bx lx (nI c) x) (f4_aunt_L28 F (nI n) (nI (τ 3)) bm lm (nI c) m)
  | d, c, 0, x, m, bx, lx, bm, lm, hF, hc, hb, hx, hm => by omega
  | 0, c, F + 1, x, m, bx, lx, bm, lm, hF, hc, hb, hx, hm => by
    have ho : m0 26 3 = nI (τ 3) := hM0 3 (by omega) (by omega) (by omega)
    have hr := REL_tr h hx (MO_end hm)
    rw [ho] at hr
    rw [f3_aunt_L25_s, f4_aunt_L28_s, nl16, i_le_t (by omega) (by omega), i_le_t (by omega) (by omega), if_neg g119_3, cl_3]
    rcases hb with ⟨e, _⟩ | ⟨j, l, _, _, e1, e2, _⟩
    · omega
    · rw [e1, e2]
      exact EQs hr _
  | d + 1, c, F + 1, x, m, bx, lx, bm, lm, hF, hc, hb, hx, hm => by
    have h3 := hI.2.2.1
    have hX : TX x 0 τ := TX_fr hX0 (hx _ (by omega)) (hx _ (by omega)) (hx _ (by omega))
    have hv : τ 3 ||| 2 ^ c < 2 ^ 16 := Nat.or_lt_two_pow (by omega) (Nat.pow_lt_pow_right (by omega) (by omega))
    have hJ : IT (upN τ 3 (τ 3 ||| 2 ^ c)) := IT_up hI (Or.inr (Or.inr (Or.inr ⟨rfl, by omega⟩)))
    obtain ⟨x1, q1, q2, q3⟩ := x_lends hX
    have q4 := TX_up3 q2 (τ 3 ||| 2 ^ c)
    obtain ⟨x2, r1, r2, _, r4, _⟩ := x_pass (n := n) (by omega) q4 hJ
    have hx2 : XI x0 x2 := XI_trans (XI_trans (XI_trans hx q3) (fun a ha => up_cell _ _ _ (by omega))) (XI_pass r4)
    have s1 := MO_tm hm hM0 (τ 3 ||| 2 ^ c)
    obtain ⟨m3, t1, t2⟩ := m_loudBy s1 hJ (by omega : 15 < 16) (by omega : n < 1000)
    have hm3 := MO_mi (MO_up hm (nI (τ 3 ||| 2 ^ c))) t2
    have hl := sl_le (ms_it n hJ) 15
    rw [f3_aunt_L25_s, f4_aunt_L28_s, nl16, i_le_f (by omega) (by omega), i_le_f (by omega) (by omega), if_neg g119_3, cl_3, bd q1, q2.2.2.2.1, i_shl _ (by omega), i_or, nl15, bd r1, bd t1]
    show EQ ((f2_loudAt 2 (nI 15) x2).bind fun v6 => if lx ≤ v6 then f3_aunt_b91 (f3_aunt_L25 F) (nI n) bx lx (nI c) x2 else f3_aunt_b91 (f3_aunt_L25 F) (nI n) (nI c) v6 (nI c) x2) (if bm < 0 then f4_aunt_b67 (f4_aunt_L28 F) (nI n) (nI (τ 3)) (nI c) (nI (sLoud (mins n (upN τ 3 (τ 3 ||| 2 ^ c))) 15)) m3 else if lm ≤ nI (sLoud (mins n (upN τ 3 (τ 3 ||| 2 ^ c))) 15) then f4_aunt_b74 (f4_aunt_L28 F) (nI n) (nI (τ 3)) bm lm (nI c) m3 else f4_aunt_b67 (f4_aunt_L28 F) (nI n) (nI (τ 3)) (nI c) (nI (sLoud (mins n (upN τ 3 (τ 3 ||| 2 ^ c))) 15)) m3)
    rw [bd (x_loud r2 (ms_it n hJ) (by omega))]
    unfold f3_aunt_b91 f4_aunt_b67 f4_aunt_b74
    rw [show nI c + 1 = nI (c + 1) by rw [nl1, nI_add]]
    have new : EQ (f3_aunt_L25 F (nI n) (nI c) (nI (sLoud (mins n (upN τ 3 (τ 3 ||| 2 ^ c))) 15)) (nI (c + 1)) x2) (f4_aunt_L28 F (nI n) (nI (τ 3)) (nI c) (nI (sLoud (mins n (upN τ 3 (τ 3 ||| 2 ^ c))) 15)) (nI (c + 1)) m3) :=
      R_aunt_L h hn hX0 hM0 hI d (c + 1) F x2 m3 _ _ _ _ (by omega) (by omega) (Or.inr ⟨c, _, by omega, hl, rfl, rfl, rfl, rfl⟩) hx2 hm3
    rcases hb with ⟨_, e1, e2, e3⟩ | ⟨j, l, hj, hl2, e1, e2, e3, e4⟩
    · rw [e2, e3, i_le_f (by omega) (by omega), if_pos (by decide)]
      exact new
    · rw [e2, e3, e4, if_neg (show ¬ nI j < 0 by rw [nl0]; exact nI_nlt (by omega) (by omega))]
      by_cases e : l ≤ sLoud (mins n (upN τ 3 (τ 3 ||| 2 ^ c))) 15
      · rw [i_le_t e (by omega), i_le_t e (by omega), e1]
        exact R_aunt_L h hn hX0 hM0 hI d (c + 1) F x2 m3 _ _ _ _ (by omega) (by omega) (Or.inr ⟨j, l, hj, hl2, rfl, rfl, rfl, rfl⟩) hx2 hm3
      · rw [i_le_f (by omega) (by omega), i_le_f (by omega) (by omega)]
        exact new
theorem R_aunt {x m : St} (h : REL x m) (a : Int32) : EQ (f3_aunt a x) (f4_aunt a m) := by
  have hh := h
  obtain ⟨⟨τ, hI, hM, hX, ⟨h9, h0, h6⟩, hz, hs⟩, hR⟩ := h
  unfold f3_aunt f4_aunt
  have ex : f3_isWithin a 0 40 = b01 (wi a 0 (nI 40)) := x_within a 0 40
  rw [ex, m_isShort]
  rcases cls0 a 40 (by omega) with e | ⟨n, hn, e⟩
  · simp only [e, b01_f, n00, if_true]
    exact EQf0 hh (fun _ _ => rfl) (fun _ _ => rfl)
  · subst e
    simp only [wi_t hn (by omega), b01_t, n10, if_false]
    rw [if_neg g119_3, cl_3, hM 3 (by omega) (by omega) (by omega)]
    exact R_aunt_L hh hn hX hM hI 16 0 fu x m _ _ _ _ (by rw [fu_eq]; omega) (by omega) (Or.inl ⟨rfl, rfl, by decide, rfl⟩) (XI_refl x) (MO_refl 3 m)
