theorem x_cpy80 (x : St) (a b : Nat) : f3_copyRow a 80 b 80 x = some (uR x b (va_cpy (x a) (x b) 0 0 80)) := by
  unfold f3_copyRow
  rw [if_neg (by decide)]
  rfl
theorem x_cpy24 (x : St) (a b : Nat) : f3_copyRow a 24 b 24 x = some (uR x b (va_cpy (x a) (x b) 0 0 24)) := by
  unfold f3_copyRow
  rw [if_neg (by decide)]
  rfl
theorem x_cpy10 (x : St) (a b : Nat) : f3_copyRow a 10 b 10 x = some (uR x b (va_cpy (x a) (x b) 0 0 10)) := by
  unfold f3_copyRow
  rw [if_neg (by decide)]
  rfl
theorem cpy_in {f g : Nat → Int32} {n i : Nat} (h : i < n) : va_cpy f g 0 0 n i = f i := by
  unfold va_cpy
  rw [if_pos ⟨by omega, by omega⟩]
  congr 1
  omega
theorem x_become {t u : Nat} (x : St) (h : t ≠ u) : ∃ x', f2_become t u x = some x' ∧ (∀ i, i < 80 → x' (2 + 4 * t) i = x (2 + 4 * u) i) ∧ (∀ i, i < 24 → x' (3 + 4 * t) i = x (3 + 4 * u) i) ∧ (∀ i, i < 10 → x' (4 + 4 * t) i = x (4 + 4 * u) i) ∧ (∀ i, 3 ≤ i → i < 8 → x' (1 + 4 * t) i = x (1 + 4 * u) i) ∧ ∀ k, k ≠ 1 + 4 * t → k ≠ 2 + 4 * t → k ≠ 3 + 4 * t → k ≠ 4 + 4 * t → x' k = x k := by
  unfold f2_become
  rw [bd (x_cpy80 _ _ _), bd (x_cpy24 _ _ _), bd (x_cpy10 _ _ _)]
  have e1 : 1 + 4 * t ≠ 1 + 4 * u := by omega
  refine ⟨_, rfl, fun i hi => ?_, fun i hi => ?_, fun i hi => ?_, fun i h1 h2 => ?_, fun k a b c d => ?_⟩
  · rw [up_ne1 _ _ _ _ (by omega), up_ne1 _ _ _ _ (by omega), up_ne1 _ _ _ _ (by omega), up_ne1 _ _ _ _ (by omega), up_ne1 _ _ _ _ (by omega), uR_ne _ _ (by omega), uR_ne _ _ (by omega), uR_eq, cpy_in hi]
  · rw [up_ne1 _ _ _ _ (by omega), up_ne1 _ _ _ _ (by omega), up_ne1 _ _ _ _ (by omega), up_ne1 _ _ _ _ (by omega), up_ne1 _ _ _ _ (by omega), uR_ne _ _ (by omega), uR_eq, cpy_in hi, uR_ne _ _ (by omega)]
  · rw [up_ne1 _ _ _ _ (by omega), up_ne1 _ _ _ _ (by omega), up_ne1 _ _ _ _ (by omega), up_ne1 _ _ _ _ (by omega), up_ne1 _ _ _ _ (by omega), uR_eq, cpy_in hi, uR_ne _ _ (by omega), uR_ne _ _ (by omega)]
  · have eu : ∀ (y : St) (j : Nat) (v : Int32), up y (1 + 4 * t) j v (1 + 4 * u) = y (1 + 4 * u) := fun y j v => up_cell _ _ _ (by omega)
    have eb : ∀ f g k : Nat → Int32, uR (uR (uR x (2 + 4 * t) f) (3 + 4 * t) g) (4 + 4 * t) k (1 + 4 * u) = x (1 + 4 * u) := by
      intro f g k
      rw [uR_ne _ _ (by omega), uR_ne _ _ (by omega), uR_ne _ _ (by omega)]
    simp only [eu, eb]
    rcases (show i = 3 ∨ i = 4 ∨ i = 5 ∨ i = 6 ∨ i = 7 by omega) with z | z | z | z | z <;> subst z
    · rw [up_ne2 _ _ (by omega), up_ne2 _ _ (by omega), up_ne2 _ _ (by omega), up_ne2 _ _ (by omega), up_eq]
    · rw [up_ne2 _ _ (by omega), up_ne2 _ _ (by omega), up_ne2 _ _ (by omega), up_eq]
    · rw [up_ne2 _ _ (by omega), up_ne2 _ _ (by omega), up_eq]
    · rw [up_ne2 _ _ (by omega), up_eq]
    · rw [up_eq]
  · rw [up_cell _ _ _ a, up_cell _ _ _ a, up_cell _ _ _ a, up_cell _ _ _ a, up_cell _ _ _ a, uR_ne _ _ d, uR_ne _ _ c, uR_ne _ _ b]
theorem TX_bec {x x' : St} {t u : Nat} {τ : Nat → Nat} (h : TX x u τ) (b1 : ∀ i, i < 80 → x' (2 + 4 * t) i = x (2 + 4 * u) i) (b2 : ∀ i, i < 24 → x' (3 + 4 * t) i = x (3 + 4 * u) i) (b4 : ∀ i, 3 ≤ i → i < 8 → x' (1 + 4 * t) i = x (1 + 4 * u) i) : TX x' t τ :=
  ⟨fun i hi => (b1 i hi).trans (h.1 i hi), fun i hi => (b2 i hi).trans (h.2.1 i hi), (b4 3 (by omega) (by omega)).trans h.2.2.1, (b4 4 (by omega) (by omega)).trans h.2.2.2.1, (b4 5 (by omega) (by omega)).trans h.2.2.2.2⟩
theorem TW_bec {x x' : St} {t u : Nat} {s s' : Nat → Int32} {τ : Nat → Nat} (h : TW x u s τ) (b1 : ∀ i, i < 80 → x' (2 + 4 * t) i = x (2 + 4 * u) i) (b2 : ∀ i, i < 24 → x' (3 + 4 * t) i = x (3 + 4 * u) i) (b3 : ∀ i, i < 10 → x' (4 + 4 * t) i = x (4 + 4 * u) i) (b4 : ∀ i, 3 ≤ i → i < 8 → x' (1 + 4 * t) i = x (1 + 4 * u) i) (e : ∀ i, i < 119 → s' i = s i) : TW x' t s' τ := by
  obtain ⟨hI, hM, hX, ⟨h0, h1, h2⟩, hz, hs⟩ := h
  refine ⟨hI, TM_fr hM e, TX_bec hX b1 b2 b4, ⟨h0, (e 0 (by omega)).trans h1, (b4 6 (by omega) (by omega)).trans h2⟩, ?_, fun i hi => ?_⟩
  · rw [b4 7 (by omega) (by omega), e 4 (by omega), hz]
  · rw [b3 i hi, e _ (by omega)]
    exact hs i hi
theorem m_bec_L {a b : Nat} (hab : a ≠ b) (m0 : St) : ∀ (d k F : Nat) (m : St), d + 1 ≤ F → k + d = 119 → (∀ i, i < k → m b i = m0 a i) → (∀ c, c ≠ b → m c = m0 c) → ∃ m', f4_become_L2 a 119 b 119 F (nI k) m = some m' ∧ (∀ i, i < 119 → m' b i = m0 a i) ∧ ∀ c, c ≠ b → m' c = m0 c
  | d, k, 0, m, hF, hk, h1, h2 => by omega
  | 0, k, F + 1, m, hF, hk, h1, h2 => by
    rw [f4_become_L2_s, show (119 : Int32) = nI 119 from rfl, i_le_t (by omega) (by omega)]
    exact ⟨m, rfl, fun i hi => h1 i (by omega), h2⟩
  | d + 1, k, F + 1, m, hF, hk, h1, h2 => by
    rw [f4_become_L2_s, show (119 : Int32) = nI 119 from rfl, i_le_f (by omega) (by omega), if_neg (nI_in (by omega) (by omega)), if_neg (nI_in (by omega) (by omega)), nI_clamp (by omega), nl1, nI_add]
    refine m_bec_L hab m0 d (k + 1) F _ (by omega) (by omega) (fun i hi => ?_) (fun c hc => ?_)
    · by_cases e : i = k
      · rw [e, up_eq, h2 a hab]
      · rw [up_ne2 _ _ e, h1 i (by omega)]
    · rw [up_cell _ _ _ hc, h2 c hc]
theorem m_become {a b : Nat} (hab : a ≠ b) (m : St) : ∃ m', f4_become a 119 b 119 m = some m' ∧ (∀ i, i < 119 → m' b i = m a i) ∧ ∀ c, c ≠ b → m' c = m c :=
  m_bec_L hab m 119 0 fu m (by rw [fu_eq]; omega) (by omega) (fun i hi => by omega) (fun _ _ => rfl)
-- what is only thought
def XI (x x' : St) : Prop := ∀ k, (k < 9 ∨ 12 < k) → x' k = x k
theorem XI_refl (x : St) : XI x x := fun _ _ => rfl
theorem XI_trans {a b c : St} (h : XI a b) (g : XI b c) : XI a c := fun k hk => (g k hk).trans (h k hk)
def TR (m m' : St) : Prop := (∀ i, i < 119 → m' 28 i = m 26 i) ∧ (∀ k, k ≠ 25 → k ≠ 26 → k ≠ 28 → m' k = m k) ∧ ∀ i, i ≠ 5 → i ≠ 6 → m' 25 i = m 25 i
def MI (m m' : St) : Prop := (∀ i, i < 119 → m' 26 i = m 26 i) ∧ (∀ k, k ≠ 25 → k ≠ 26 → k ≠ 28 → m' k = m k) ∧ ∀ i, i ≠ 5 → i ≠ 6 → m' 25 i = m 25 i
theorem MI_refl (m : St) : MI m m := ⟨fun _ _ => rfl, fun _ _ _ _ => rfl, fun _ _ _ => rfl⟩
theorem MI_trans {a b c : St} (h : MI a b) (g : MI b c) : MI a c := ⟨fun i hi => (g.1 i hi).trans (h.1 i hi), fun k p q r => (g.2.1 k p q r).trans (h.2.1 k p q r), fun i p q => (g.2.2 i p q).trans (h.2.2 i p q)⟩
theorem TR_min {m m1 m2 : St} (h : TR m m1) (g : RMm m1 m2) : TR m m2 := ⟨fun i hi => by rw [g.1 28 (by omega) (by omega)]; exact h.1 i hi, fun k p q r => (g.1 k p q).trans (h.2.1 k p q r), fun i p q => (g.2.1 i p).trans (h.2.2 i p q)⟩
theorem m_lends (m : St) : ∃ m', f4_lends m = some m' ∧ TR m m' ∧ m' 26 = m 26 ∧ m' 25 = m 25 := by
  obtain ⟨m', q1, q2, q3⟩ := m_become (a := 26) (b := 28) (by omega) m
  refine ⟨m', ?_, ⟨q2, fun k _ _ r => q3 k r, fun i _ _ => by rw [q3 25 (by omega)]⟩, q3 26 (by omega), q3 25 (by omega)⟩
  unfold f4_lends
  rw [bd q1]
theorem m_lays {m m1 : St} (h : TR m m1) : ∃ m', f4_laysBack m1 = some m' ∧ MI m m' ∧ m' 25 = m1 25 := by
  obtain ⟨m', q1, q2, q3⟩ := m_become (a := 28) (b := 26) (by omega) m1
  refine ⟨m', ?_, ⟨fun i hi => (q2 i hi).trans (h.1 i hi), fun k p q r => (q3 k q).trans (h.2.1 k p q r), fun i p q => by rw [q3 25 (by omega)]; exact h.2.2 i p q⟩, q3 25 (by omega)⟩
  unfold f4_laysBack
  rw [bd q1]
theorem REL_tr {x m x' m' : St} (h : REL x m) (hx : XI x x') (hm : MI m m') : REL x' m' :=
  REL_fr h hx ⟨fun k a b c _ _ => hm.2.1 k a b c, hm.2.2 3 (by omega) (by omega), hm.2.2 15 (by omega) (by omega)⟩ hm.1
theorem x_lends {x : St} {τ : Nat → Nat} (hX : TX x 0 τ) : ∃ x', f2_become 2 0 x = some x' ∧ TX x' 2 τ ∧ XI x x' := by
  obtain ⟨x', q1, b1, b2, b3, b4, b5⟩ := x_become (t := 2) (u := 0) x (by omega)
  exact ⟨x', q1, TX_bec hX b1 b2 b4, fun k hk => b5 k (by omega) (by omega) (by omega) (by omega)⟩
theorem XI_pass {x x' : St} (h : ∀ k, k ≠ 3 + 4 * 2 → k ≠ 1 + 4 * 2 → x' k = x k) : XI x x' := fun k hk => h k (by omega) (by omega)
theorem XI_roll {x x' : St} (h : ∀ k, k ≠ 3 + 4 * 2 → x' k = x k) : XI x x' := fun k hk => h k (by omega)
-- images
theorem R_image {x m : St} (h : REL x m) : EQ (f3_image x) (f4_image m) := by
  have hh := h
  obtain ⟨⟨τ, hI, hM, hX, ⟨h9, h0, h6⟩, hz, hs⟩, hR⟩ := h
  have hW : TW x 0 (m 26) τ := ⟨hI, hM, hX, ⟨h9, h0, h6⟩, hz, hs⟩
  unfold f3_image f4_image
  obtain ⟨x', q1, b1, b2, b3, b4, b5⟩ := x_become (t := 1) (u := 0) x (by omega)
  obtain ⟨m', p1, p2, p3⟩ := m_become (a := 26) (b := 27) (by omega) m
  rw [bd q1, bd p1]
  refine ⟨1, _, _, rfl, rfl, REL_kept hh 1 (Or.inr ⟨rfl, τ, ?_⟩) (fun a e0 e5 e6 e7 e8 => ?_) (up_eq _ _ _ _) (fun a e1 e2 => ?_) (fun i hi => ?_) (up_eq _ _ _ _)⟩
  · rw [up_cell _ _ _ (by omega)]
    refine TW_fr (TW_bec hW b1 b2 b3 b4 p2) (up_cell _ _ _ (by omega)) (up_cell _ _ _ (by omega)) (up_cell _ _ _ (by omega)) (up_cell _ _ _ (by omega)) (fun _ _ => rfl)
  · rw [up_cell _ _ _ e0, b5 a (by omega) (by omega) (by omega) (by omega)]
  · rw [up_cell _ _ _ e1, p3 a e2]
  · rw [up_ne2 _ _ hi, p3 25 (by omega)]
theorem R_undo {x m : St} (h : REL x m) : EQ (f3_undo x) (f4_undo m) := by
  have hh := h
  obtain ⟨_, hR⟩ := h
  have hR' := hR
  obtain ⟨⟨k1, k2⟩, _⟩ := hR
  unfold f3_undo f4_undo
  rw [k1]
  rcases k2 with k2 | ⟨k2, τ, hK⟩
  · rw [if_pos k2, if_pos k2]
    exact EQf3 hh (fun _ _ => rfl) (fun _ _ => rfl)
  · have e : ¬ m 25 3 = 0 := by rw [k2]; decide
    obtain ⟨x', q1, b1, b2, b3, b4, b5⟩ := x_become (t := 0) (u := 1) x (by omega)
    obtain ⟨m', p1, p2, p3⟩ := m_become (a := 27) (b := 26) (by omega) m
    have hT := TW_bec (t := 0) hK b1 b2 b3 b4 p2
    rw [if_neg e, if_neg e, bd q1, bd p1, if_neg g119_0, cl_0, hT.2.2.2.1.2.1, hT.2.2.2.1.2.2]
    exact EQ_mk hR' hT (fun k a b => b5 k (by omega) (by omega) (by omega) (by omega)) ⟨fun k _ b _ _ _ => p3 k b, by rw [p3 25 (by omega)], by rw [p3 25 (by omega)]⟩
