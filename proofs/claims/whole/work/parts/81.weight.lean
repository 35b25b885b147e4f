-- the least weight
theorem sum_split {f g : Nat → Nat} {w : Nat} : ∀ {k : Nat}, w < k → (∀ i, i < k → i ≠ w → f i = g i) → sumN f k + g w = sumN g k + f w
  | 0, h, _ => by omega
  | k + 1, h, e => by
    show sumN f k + f k + g w = sumN g k + g k + f w
    by_cases hk : w = k
    · subst hk
      have := sum_congr (f := f) (g := g) (k := w) (fun i hi => e i (by omega) (by omega))
      omega
    · have := sum_split (f := f) (g := g) (w := w) (k := k) (by omega) (fun i hi h2 => e i (by omega) h2)
      have h3 := e k (by omega) (by omega)
      omega
theorem wLoud_sw {w c : Nat} {τ σ : Nat → Nat} (h : SW w τ σ) : wLoud τ c w = wLoud σ c w := by
  unfold wLoud
  rw [h.2 1 (by omega), h.2 2 (by omega)]
theorem SW_upo {w j k v : Nat} {τ : Nat → Nat} (h : j ≠ w) (hk : k < 3) : SW j (upN τ (85 + 3 * w + k) v) τ := ⟨fun i _ b _ => upN_ne _ _ (by omega), fun i hi => qu_up (by omega)⟩
theorem wf_split {τ : Nat → Nat} {w c n v : Nat} (hI : IT τ) (hw : w < τ 1) (hv : v ≤ 999) : sLoud (mins n (upN τ (85 + 3 * w + 2) v)) c + wLoud (mins n τ) c w = sLoud (mins n τ) c + wLoud (solo w n (upN τ (85 + 3 * w + 2) v)) c w := by
  have h8 := hI.1
  have hJ : IT (upN τ (85 + 3 * w + 2) v) := IT_upq hI (by omega) (by omega) (by simp; omega)
  have e1 : mins n (upN τ (85 + 3 * w + 2) v) 1 = τ 1 := by rw [ms_lo _ _ (by omega), upN_ne _ _ (by omega)]
  have e2 : mins n τ 1 = τ 1 := ms_lo _ _ (by omega)
  unfold sLoud
  rw [e1, e2]
  have hs : wLoud (solo w n (upN τ (85 + 3 * w + 2) v)) c w = wLoud (mins n (upN τ (85 + 3 * w + 2) v)) c w :=
    (wLoud_sw (so_sw (by omega) n (SW_refl w _) hJ hJ (by rw [upN_ne _ _ (by omega)]; exact hw))).symm
  rw [hs]
  refine sum_split hw (fun i hi h2 => ?_)
  have a1 := so_sw (w := i) (by omega) n (SW_refl i (upN τ (85 + 3 * w + 2) v)) hJ hJ (by rw [upN_ne _ _ (by omega)]; exact hi)
  have a2 := so_sw (w := i) (by omega) n (SW_upo (v := v) (k := 2) (τ := τ) h2 (by omega)) hJ hI (by rw [upN_ne _ _ (by omega)]; exact hi)
  have a3 := so_sw (w := i) (by omega) n (SW_refl i τ) hI hI hi
  exact (wLoud_sw a2).trans (wLoud_sw a3).symm
theorem i_sub3 {a b c d : Nat} (ha : a < 100000) (hb : b < 100000) (hc : c < 100000) (hd : d < 100000) : (nI d < nI a - (nI b - nI c)) ↔ (d + b < a + c) := by
  rw [Int32.lt_iff_toInt_lt, Int32.toInt_sub, pk_sub_toInt (by omega) (by omega), nI_toInt (by omega), nI_toInt (by omega), Int.bmod_eq_of_le (by omega) (by omega)]
  omega
theorem R_wf_L {x0 m0 : St} (h : REL x0 m0) {w c n : Nat} {τ : Nat → Nat} (hX0 : TX x0 0 τ) (hM0 : TM (m0 26) τ) (hI : IT τ) (hw : w < τ 1) (hc : c < 16) (hn : n ≤ 40) : ∀ (d k F : Nat) (x m : St) (σ : Nat → Nat), d + 2 ≤ F → k + d = 999 → XI x0 x → TX x 2 σ → IT σ → (∀ i, i < 85 → σ i = τ i) → qu σ w 0 = qu τ w 0 → MO (85 + 3 * w + 2) m0 m → EQ (f3_weightFor_L92 F (nI w) (nI c) (nI n) (nI (tr τ c 4) - (nI (sLoud (mins n τ) c) - nI (wLoud (mins n τ) c w))) (nI (k + 1)) x) (f4_weightFor_L42 F (nI w) (nI c) (nI n) (nI (qu τ w 2)) (nI k) 0 m)
  | d, k, 0, x, m, σ, hF, hk, hx, hX, hJ, hlo, hq, hm => by omega
  | 0, k, F + 1, x, m, σ, hF, hk, hx, hX, hJ, hlo, hq, hm => by
    have h8 := hI.1
    have ho : m0 26 (85 + 3 * w + 2) = nI (qu τ w 2) := hM0 _ (by omega) (by omega) (by omega)
    have hr := REL_tr h hx (MO_end hm)
    rw [ho] at hr
    rw [f3_weightFor_L92_s, f4_weightFor_L42_s, nl999, i_lt_t (by omega) (by omega), i_le_t (by omega) (by omega)]
    unfold f4_weightFor_b91
    rw [bd (m_sets2 (by omega)), if_pos rfl]
    exact EQf3 hr (fun _ _ => rfl) (fun _ _ => rfl)
  | d + 1, k, F + 1, x, m, σ, hF, hk, hx, hX, hJ, hlo, hq, hm => by
    have h8 := hI.1
    have hw8 : w < 8 := by omega
    have hqi := it_w hI hw8
    have hXt : TX x 0 τ := TX_fr hX0 (hx _ (by omega)) (hx _ (by omega)) (hx _ (by omega))
    have hJ1 : IT (upN (upN σ (85 + 3 * w + 1) (qu τ w 1)) (85 + 3 * w + 2) (k + 1)) := IT_upq (IT_upq hJ hw8 (by omega) (by simp; omega)) hw8 (by omega) (by simp; omega)
    have hI1 : IT (upN τ (85 + 3 * w + 2) (k + 1)) := IT_upq hI hw8 (by omega) (by simp; omega)
    have q4 := TX_upq (TX_upq hX (w := w) (k := 1) (qu τ w 1) hw8 (by omega)) (w := w) (k := 2) (k + 1) hw8 (by omega)
    obtain ⟨x2, r1, r2, r3⟩ := x_way (n := n) (w := w) hw8 (by omega) q4 hJ1
    have hs : SW w (upN (upN σ (85 + 3 * w + 1) (qu τ w 1)) (85 + 3 * w + 2) (k + 1)) (upN τ (85 + 3 * w + 2) (k + 1)) := by
      refine ⟨fun i a b _ => ?_, fun i hi => ?_⟩
      · rw [upN_ne _ _ (by omega), upN_ne _ _ (by omega), upN_ne _ _ (by omega)]
        exact hlo i b
      · rcases (show i = 0 ∨ i = 1 ∨ i = 2 by omega) with z | z | z <;> subst z
        · rw [qu_up (by omega), qu_up (by omega), qu_up (by omega)]; exact hq
        · rw [qu_up (by omega), qu_upe, qu_up (by omega)]
        · rw [qu_upe, qu_upe]
    have so_eq : ∀ (n : Nat) {α β : Nat → Nat}, SW w α β → IT α → IT β → SW w (solo w n α) (solo w n β) := by
      intro n
      induction n with
      | zero => intro α β a _ _; exact a
      | succ n ih => intro α β a b c; exact ih (SW_sr hw8 a b) (sr_it hw8 b) (sr_it hw8 c)
    have ew : wLoud (solo w n (upN (upN σ (85 + 3 * w + 1) (qu τ w 1)) (85 + 3 * w + 2) (k + 1))) c w = wLoud (solo w n (upN τ (85 + 3 * w + 2) (k + 1))) c w := wLoud_sw (so_eq n hs hJ1 hI1)
    have hJ2 := so_it hw8 n hJ1
    have s1 := MO_tm hm hM0 (k + 1)
    obtain ⟨m3, t1, t2⟩ := m_loudBy s1 hI1 hc (by omega : n < 1000)
    have hm3 := MO_mi (MO_up hm (nI (k + 1))) t2
    have hM3 : TM (m3 26) (upN τ (85 + 3 * w + 2) (k + 1)) := TM_fr s1 t2.1
    have hx2 : XI x0 x2 := XI_trans (XI_trans (XI_trans hx (fun a ha => up_cell _ _ _ (by omega))) (fun a ha => up_cell _ _ _ (by omega))) (XI_roll r3)
    have hb1 := sl_le (ms_it n hI1) c
    have hb2 := sl_le (ms_it n hI) c
    have hb3 := wl_le (ms_it n hI) c hw8
    have hb4 := wl_le (so_it hw8 n hI1) c hw8
    have hb5 := it_t hI hc
    have key := wf_split (c := c) (n := n) (v := k + 1) hI hw (by omega)
    rw [f3_weightFor_L92_s, f4_weightFor_L42_s, nl999, i_lt_f (by omega) (by omega), i_le_f (by omega) (by omega), if_pos rfl, bd (x_its1 hXt hw8), bd (x_setQ1 hw8), bd (x_setQ2 hw8), bd r1, show nI k + 1 = nI (k + 1) by rw [nl1, nI_add], bd (m_sets2 hw8), bd t1]
    show EQ ((f2_weightAt 2 (nI w) (nI c) x2).bind fun v16 => if v16 < _ then f3_weightFor_L92 F (nI w) (nI c) (nI n) _ (nI (k + 1) + 1) x2 else some (nI (k + 1), x2)) ((f4_part (nI c) (4 : Int32) m3).bind fun v8 => _)
    rw [bd (x_wAt r2 hJ2 hw8 hc), bd (m_part4 hM3 hc), tr_up (by omega) hc (by omega), ew]
    unfold f4_weightFor_b86
    by_cases e : wLoud (solo w n (upN τ (85 + 3 * w + 2) (k + 1))) c w + sLoud (mins n τ) c < tr τ c 4 + wLoud (mins n τ) c w
    · rw [if_pos ((i_sub3 (by omega) (by omega) (by omega) (by omega)).mpr e), i_lt_t (by omega) (by omega), show nI (k + 1) + 1 = nI (k + 1 + 1) by rw [nl1, nI_add]]
      refine R_wf_L h hX0 hM0 hI hw hc hn d (k + 1) F x2 m3 _ (by omega) (by omega) hx2 r2 hJ2 (fun i hi => ?_) ?_ hm3
      · have lo : ∀ (n : Nat) (α : Nat → Nat), solo w n α i = α i := by
          intro n
          induction n with
          | zero => intro α; rfl
          | succ n ih => intro α; exact (ih (sRoll w α)).trans (sr_ne (by omega) α)
        rw [lo, upN_ne _ _ (by omega), upN_ne _ _ (by omega)]
        exact hlo i hi
      · have lo : ∀ (n : Nat) (α : Nat → Nat), qu (solo w n α) w 0 = qu α w 0 := by
          intro n
          induction n with
          | zero => intro α; rfl
          | succ n ih => intro α; exact (ih (sRoll w α)).trans (sr_ne (by omega) α)
        rw [lo, qu_up (by omega), qu_up (by omega)]
        exact hq
    · rw [if_neg (fun z => e ((i_sub3 (by omega) (by omega) (by omega) (by omega)).mp z)), i_lt_f (by omega) (by omega)]
      have ho : m0 26 (85 + 3 * w + 2) = nI (qu τ w 2) := hM0 _ (by omega) (by omega) (by omega)
      have hr := REL_tr h hx2 (MO_end hm3)
      rw [ho] at hr
      obtain ⟨F', hF'⟩ : ∃ F', F = F' + 1 := ⟨F - 1, by omega⟩
      rw [hF', f4_weightFor_L42_s]
      unfold f4_weightFor_b91
      rw [bd (m_sets2 hw8), if_neg (by decide : ¬ (1 : Int32) = 0), if_neg (by decide : ¬ (1 : Int32) = 0), ite_self]
      exact EQs hr _
theorem R_weightFor {x m : St} (h : REL x m) (a b n : Int32) : EQ (f3_weightFor a b n x) (f4_weightFor a b n m) := by
  have hh := h
  obtain ⟨⟨τ, hI, hM, hX, ⟨h9, h0, h6⟩, hz, hs⟩, hR⟩ := h
  have h8 := hI.1
  unfold f3_weightFor f4_weightFor f3_weightFor_b28 f4_weightFor_b22
  have ex : f3_isWithin n 0 40 = b01 (wi n 0 (nI 40)) := x_within n 0 40
  rw [x_hasW hX, m_isW hM hI a, x_isCorner, m_isCorner, ex, m_isShort, Option.bind_some]
  rcases clsW hI a with e | ⟨w, hw, e⟩
  · simp only [e, b01_f, n00, if_true]
    exact EQf0 hh (fun _ _ => rfl) (fun _ _ => rfl)
  · subst e
    simp only [isW_t hI hw, b01_t, n10, if_false]
    rcases cls0 b 15 (by omega) with e | ⟨c, hc, e⟩
    · simp only [e, b01_f, n00, if_true]
      exact EQf0 hh (fun _ _ => rfl) (fun _ _ => rfl)
    · subst e
      simp only [wi_t hc (by omega), b01_t, n10, if_false]
      rcases cls0 n 40 (by omega) with e | ⟨k, hk, e⟩
      · simp only [e, b01_f, n00, if_true]
        exact EQf0 hh (fun _ _ => rfl) (fun _ _ => rfl)
      · subst e
        simp only [wi_t hk (by omega), b01_t, n10, if_false]
        obtain ⟨x1, q1, q2, q3⟩ := x_lends hX
        obtain ⟨x2, r1, r2, _, r4, _⟩ := x_pass (n := k) (by omega) q2 hI
        have hx2 := XI_trans q3 (XI_pass r4)
        have hXt : TX x2 0 τ := TX_fr hX (hx2 _ (by omega)) (hx2 _ (by omega)) (hx2 _ (by omega))
        have hJ := ms_it k hI
        rw [bd q1, bd r1, bd (m_its2 hM (by omega))]
        show EQ ((f2_loudAt 2 (nI c) x2).bind fun v4 => (f2_weightAt 2 (nI w) (nI c) x2).bind fun v5 => (f2_trait 0 (nI c) (4 : Int32) x2).bind fun v6 => f3_weightFor_L92 fu (nI w) (nI c) (nI k) (v6 - (v4 - v5)) (1 : Int32) x2) _
        rw [bd (x_loud r2 hJ (by omega)), bd (x_wAt r2 hJ (by omega) (by omega)), bd (x_part4 hXt (by omega))]
        have hq0 : ∀ (n : Nat) (α : Nat → Nat), IT α → w < α 1 → qu (mins n α) w 0 = qu α w 0 := by
          intro n
          induction n with
          | zero => intro α _ _; rfl
          | succ n ih =>
            intro α a b
            have e1 := (sm_sw a b).2 0 (by omega)
            refine (ih (sMin α) (sm_it a) (by rw [sm_lo α (by omega)]; exact b)).trans (e1.trans (sr_ne (by omega) α))
        exact R_wf_L hh hX hM hI hw (by omega) hk 999 0 fu x2 m (mins k τ) (by rw [fu_eq]; omega) (by omega) hx2 r2 hJ (fun i hi => ms_lo k τ hi) (hq0 k τ hI hw) (MO_refl _ m)
