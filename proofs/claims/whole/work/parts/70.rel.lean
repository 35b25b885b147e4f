def TW (x : St) (t : Nat) (s : Nat → Int32) (τ : Nat → Nat) : Prop := IT τ ∧ TM s τ ∧ TX x t τ ∧ (τ 0 ≤ 99999 ∧ s 0 = nI (τ 0) ∧ x (1 + 4 * t) 6 = nI (τ 0)) ∧ x (1 + 4 * t) 7 = s 4 ∧ ∀ i, i < 10 → x (4 + 4 * t) i = s (109 + i) ∧ (s (109 + i) = -1 ∨ ∃ w, w < 8 ∧ s (109 + i) = nI w)
def KP (x m : St) : Prop := x 0 3 = m 25 3 ∧ (m 25 3 = 0 ∨ m 25 3 = 1 ∧ ∃ τ, TW x 1 (m 27) τ)
def TP (x m : St) : Prop := ∃ n, n ≤ 120 ∧ x 13 1 = nI n ∧ m 25 15 = nI n ∧ ∀ i, i < 120 → ∃ b, b < 256 ∧ x 14 i = nI b ∧ m 31 i = nI b
def SH (x m : St) : Prop := ∀ j, j < 4 → ∃ b n, (b = 0 ∨ b = 8 ∨ b = 16 ∨ b = 32) ∧ n ≤ 40 ∧ x (16 + 2 * j) 1 = nI b ∧ m 32 j = nI b ∧ x (16 + 2 * j) 2 = nI n ∧ m 33 j = nI n ∧ ∀ i, i < 40 → x (17 + 2 * j) i = m 34 (40 * j + i)
def FD (x m : St) : Prop := ∀ i, i < 7 → x 24 i = m 29 i
def RST (x m : St) : Prop := KP x m ∧ FD x m ∧ TP x m ∧ SH x m
def REL (x m : St) : Prop := (∃ τ, TW x 0 (m 26) τ) ∧ RST x m
theorem TM_fr {s s' : Nat → Int32} {τ : Nat → Nat} (h : TM s τ) (e : ∀ i, i < 119 → s' i = s i) : TM s' τ := fun i a b c => (e i (by omega)).trans (h i a b c)
theorem TW_fr {x x' : St} {t : Nat} {s s' : Nat → Int32} {τ : Nat → Nat} (h : TW x t s τ) (e1 : x' (1 + 4 * t) = x (1 + 4 * t)) (e2 : x' (2 + 4 * t) = x (2 + 4 * t)) (e3 : x' (3 + 4 * t) = x (3 + 4 * t)) (e4 : x' (4 + 4 * t) = x (4 + 4 * t)) (e : ∀ i, i < 119 → s' i = s i) : TW x' t s' τ := by
  obtain ⟨hI, hM, hX, ⟨h0, h1, h2⟩, hz, hs⟩ := h
  refine ⟨hI, TM_fr hM e, TX_fr hX e1 e2 e3, ⟨h0, ?_, ?_⟩, ?_, fun i hi => ?_⟩
  · rw [e 0 (by omega), h1]
  · rw [e1, h2]
  · rw [e1, e 4 (by omega), hz]
  · rw [e4, e (109 + i) (by omega)]
    exact hs i hi
def XR (x x' : St) : Prop := ∀ k, (k = 0 ∨ 5 ≤ k) → (k < 9 ∨ 12 < k) → x' k = x k
def MR (m m' : St) : Prop := (∀ k, k ≠ 25 → k ≠ 26 → k ≠ 28 → k ≠ 30 → k ≠ 35 → m' k = m k) ∧ m' 25 3 = m 25 3 ∧ m' 25 15 = m 25 15
theorem XR_refl (x : St) : XR x x := fun _ _ _ => rfl
theorem MR_refl (m : St) : MR m m := ⟨fun _ _ _ _ _ _ => rfl, rfl, rfl⟩
theorem XR_trans {a b c : St} (h : XR a b) (g : XR b c) : XR a c := fun k p q => (g k p q).trans (h k p q)
theorem MR_trans {a b c : St} (h : MR a b) (g : MR b c) : MR a c := ⟨fun k p q r s t => (g.1 k p q r s t).trans (h.1 k p q r s t), g.2.1.trans h.2.1, g.2.2.trans h.2.2⟩
theorem RST_fr {x m x' m' : St} (h : RST x m) (hx : XR x x') (hm : MR m m') : RST x' m' := by
  obtain ⟨⟨k1, k2⟩, f1, ⟨n, t1, t2, t3, t4⟩, s1⟩ := h
  obtain ⟨g, g3, g15⟩ := hm
  refine ⟨⟨?_, ?_⟩, ?_, ⟨n, t1, ?_, ?_, ?_⟩, ?_⟩
  · rw [hx 0 (by omega) (by omega), g3, k1]
  · rw [g3]
    rcases k2 with k2 | ⟨k2, τ, k3⟩
    · exact Or.inl k2
    · refine Or.inr ⟨k2, τ, ?_⟩
      rw [g 27 (by omega) (by omega) (by omega) (by omega) (by omega)]
      exact TW_fr k3 (hx _ (by omega) (by omega)) (hx _ (by omega) (by omega)) (hx _ (by omega) (by omega)) (hx _ (by omega) (by omega)) (fun _ _ => rfl)
  · intro i hi
    rw [hx 24 (by omega) (by omega), g 29 (by omega) (by omega) (by omega) (by omega) (by omega), f1 i hi]
  · rw [hx 13 (by omega) (by omega), t2]
  · rw [g15, t3]
  · rw [hx 14 (by omega) (by omega), g 31 (by omega) (by omega) (by omega) (by omega) (by omega)]
    exact t4
  · intro j hj
    rw [hx (16 + 2 * j) (by omega) (by omega), hx (17 + 2 * j) (by omega) (by omega), g 32 (by omega) (by omega) (by omega) (by omega) (by omega), g 33 (by omega) (by omega) (by omega) (by omega) (by omega), g 34 (by omega) (by omega) (by omega) (by omega) (by omega)]
    exact s1 j hj
theorem REL_mk {x m x' m' : St} {τ : Nat → Nat} (hR : RST x m) (hW : TW x' 0 (m' 26) τ) (hx : XR x x') (hm : MR m m') : REL x' m' := ⟨⟨τ, hW⟩, RST_fr hR hx hm⟩
-- nothing that is seen has changed
theorem REL_fr {x m x' m' : St} (h : REL x m) (hx : ∀ k, (k < 9 ∨ 12 < k) → x' k = x k) (hm : MR m m') (hs : ∀ i, i < 119 → m' 26 i = m 26 i) : REL x' m' := by
  obtain ⟨⟨τ, hW⟩, hR⟩ := h
  exact REL_mk hR (TW_fr hW (hx _ (by omega)) (hx _ (by omega)) (hx _ (by omega)) (hx _ (by omega)) hs) (fun k _ b => hx k b) hm
def EQ {α : Type} (u v : Option (α × St)) : Prop := ∃ r x' m', u = some (r, x') ∧ v = some (r, m') ∧ REL x' m'
theorem EQs {α : Type} {x m : St} (h : REL x m) (v : α) : EQ (some (v, x)) (some (v, m)) := ⟨v, x, m, rfl, rfl, h⟩
theorem REL_fd {x m : St} (h : REL x m) (k : Nat) : REL (up x 24 k (x 24 k + 1)) (up m 29 k (m 29 k + 1)) ∨ ¬ k < 7 := by
  by_cases hk : k < 7
  · left
    obtain ⟨⟨τ, hW⟩, ⟨k1, k2⟩, f1, ⟨n, t1, t2, t3, t4⟩, s1⟩ := h
    have ex : ∀ a, a ≠ 24 → up x 24 k (x 24 k + 1) a = x a := fun a ha => up_cell _ _ _ ha
    have em : ∀ a, a ≠ 29 → up m 29 k (m 29 k + 1) a = m a := fun a ha => up_cell _ _ _ ha
    refine ⟨⟨τ, ?_⟩, ⟨?_, ?_⟩, ?_, ⟨n, t1, ?_, ?_, ?_⟩, ?_⟩
    · rw [em 26 (by omega)]
      exact TW_fr hW (ex _ (by omega)) (ex _ (by omega)) (ex _ (by omega)) (ex _ (by omega)) (fun _ _ => rfl)
    · rw [ex 0 (by omega), em 25 (by omega), k1]
    · rw [em 25 (by omega), em 27 (by omega)]
      rcases k2 with k2 | ⟨k2, τ, k3⟩
      · exact Or.inl k2
      · exact Or.inr ⟨k2, τ, TW_fr k3 (ex _ (by omega)) (ex _ (by omega)) (ex _ (by omega)) (ex _ (by omega)) (fun _ _ => rfl)⟩
    · intro i hi
      by_cases e : i = k
      · rw [e, up_eq, up_eq, f1 k hk]
      · rw [up_ne2 _ _ e, up_ne2 _ _ e, f1 i hi]
    · rw [ex 13 (by omega), t2]
    · rw [em 25 (by omega), t3]
    · rw [ex 14 (by omega), em 31 (by omega)]
      exact t4
    · intro j hj
      rw [ex (16 + 2 * j) (by omega), ex (17 + 2 * j) (by omega), em 32 (by omega), em 33 (by omega), em 34 (by omega)]
      exact s1 j hj
  · exact Or.inr hk
theorem REL_fnd {x m : St} (h : REL x m) {k : Nat} (hk : k < 7) : REL (up x 24 k (x 24 k + 1)) (up m 29 k (m 29 k + 1)) := by
  rcases REL_fd h k with g | g
  · exact g
  · exact absurd hk g
theorem x_find0 (x : St) : f3_finding (-1000001 : Int32) x = some ((-1000001 : Int32), up x 24 0 (x 24 0 + 1)) := by
  unfold f3_finding
  rw [show (-1000001 : Int32) - (-1000001 : Int32) = 0 by decide, if_neg (by decide), if_neg (by decide), if_neg (by decide), if_neg (by decide)]
  rfl
theorem m_find0 (m : St) : f4_finds (0 : Int32) m = some ((-1000001 : Int32), up m 29 0 (m 29 0 + 1)) := by
  unfold f4_finds
  rw [if_neg (by decide), if_neg (by decide), show (-1000001 : Int32) - 0 = (-1000001 : Int32) by decide]
  rfl
theorem EQf0 {x m : St} (h : REL x m) {f g : Int32 × St → Option (Int32 × St)} (hf : ∀ v z, f (v, z) = some (v, z)) (hg : ∀ v z, g (v, z) = some (v, z)) : EQ ((f3_finding (-1000001 : Int32) x).bind f) ((f4_finds (0 : Int32) m).bind g) := by
  rw [bd (x_find0 x), bd (m_find0 m), hf, hg]
  exact EQs (REL_fnd h (by omega)) _
theorem x_find1 (x : St) : f3_finding (-1000002 : Int32) x = some ((-1000002 : Int32), up x 24 1 (x 24 1 + 1)) := by
  unfold f3_finding
  rw [show (-1000001 : Int32) - (-1000002 : Int32) = 1 by decide, if_neg (by decide), if_neg (by decide), if_neg (by decide), if_neg (by decide)]
  rfl
theorem m_find1 (m : St) : f4_finds (1 : Int32) m = some ((-1000002 : Int32), up m 29 1 (m 29 1 + 1)) := by
  unfold f4_finds
  rw [if_neg (by decide), if_neg (by decide), show (-1000001 : Int32) - 1 = (-1000002 : Int32) by decide]
  rfl
theorem EQf1 {x m : St} (h : REL x m) {f g : Int32 × St → Option (Int32 × St)} (hf : ∀ v z, f (v, z) = some (v, z)) (hg : ∀ v z, g (v, z) = some (v, z)) : EQ ((f3_finding (-1000002 : Int32) x).bind f) ((f4_finds (1 : Int32) m).bind g) := by
  rw [bd (x_find1 x), bd (m_find1 m), hf, hg]
  exact EQs (REL_fnd h (by omega)) _
theorem x_find2 (x : St) : f3_finding (-1000003 : Int32) x = some ((-1000003 : Int32), up x 24 2 (x 24 2 + 1)) := by
  unfold f3_finding
  rw [show (-1000001 : Int32) - (-1000003 : Int32) = 2 by decide, if_neg (by decide), if_neg (by decide), if_neg (by decide), if_neg (by decide)]
  rfl
theorem m_find2 (m : St) : f4_finds (2 : Int32) m = some ((-1000003 : Int32), up m 29 2 (m 29 2 + 1)) := by
  unfold f4_finds
  rw [if_neg (by decide), if_neg (by decide), show (-1000001 : Int32) - 2 = (-1000003 : Int32) by decide]
  rfl
theorem EQf2 {x m : St} (h : REL x m) {f g : Int32 × St → Option (Int32 × St)} (hf : ∀ v z, f (v, z) = some (v, z)) (hg : ∀ v z, g (v, z) = some (v, z)) : EQ ((f3_finding (-1000003 : Int32) x).bind f) ((f4_finds (2 : Int32) m).bind g) := by
  rw [bd (x_find2 x), bd (m_find2 m), hf, hg]
  exact EQs (REL_fnd h (by omega)) _
theorem x_find3 (x : St) : f3_finding (-1000004 : Int32) x = some ((-1000004 : Int32), up x 24 3 (x 24 3 + 1)) := by
  unfold f3_finding
  rw [show (-1000001 : Int32) - (-1000004 : Int32) = 3 by decide, if_neg (by decide), if_neg (by decide), if_neg (by decide), if_neg (by decide)]
  rfl
theorem m_find3 (m : St) : f4_finds (3 : Int32) m = some ((-1000004 : Int32), up m 29 3 (m 29 3 + 1)) := by
  unfold f4_finds
  rw [if_neg (by decide), if_neg (by decide), show (-1000001 : Int32) - 3 = (-1000004 : Int32) by decide]
  rfl
theorem EQf3 {x m : St} (h : REL x m) {f g : Int32 × St → Option (Int32 × St)} (hf : ∀ v z, f (v, z) = some (v, z)) (hg : ∀ v z, g (v, z) = some (v, z)) : EQ ((f3_finding (-1000004 : Int32) x).bind f) ((f4_finds (3 : Int32) m).bind g) := by
  rw [bd (x_find3 x), bd (m_find3 m), hf, hg]
  exact EQs (REL_fnd h (by omega)) _
theorem x_find4 (x : St) : f3_finding (-1000005 : Int32) x = some ((-1000005 : Int32), up x 24 4 (x 24 4 + 1)) := by
  unfold f3_finding
  rw [show (-1000001 : Int32) - (-1000005 : Int32) = 4 by decide, if_neg (by decide), if_neg (by decide), if_neg (by decide), if_neg (by decide)]
  rfl
theorem m_find4 (m : St) : f4_finds (4 : Int32) m = some ((-1000005 : Int32), up m 29 4 (m 29 4 + 1)) := by
  unfold f4_finds
  rw [if_neg (by decide), if_neg (by decide), show (-1000001 : Int32) - 4 = (-1000005 : Int32) by decide]
  rfl
theorem EQf4 {x m : St} (h : REL x m) {f g : Int32 × St → Option (Int32 × St)} (hf : ∀ v z, f (v, z) = some (v, z)) (hg : ∀ v z, g (v, z) = some (v, z)) : EQ ((f3_finding (-1000005 : Int32) x).bind f) ((f4_finds (4 : Int32) m).bind g) := by
  rw [bd (x_find4 x), bd (m_find4 m), hf, hg]
  exact EQs (REL_fnd h (by omega)) _
theorem x_find5 (x : St) : f3_finding (-1000006 : Int32) x = some ((-1000006 : Int32), up x 24 5 (x 24 5 + 1)) := by
  unfold f3_finding
  rw [show (-1000001 : Int32) - (-1000006 : Int32) = 5 by decide, if_neg (by decide), if_neg (by decide), if_neg (by decide), if_neg (by decide)]
  rfl
theorem m_find5 (m : St) : f4_finds (5 : Int32) m = some ((-1000006 : Int32), up m 29 5 (m 29 5 + 1)) := by
  unfold f4_finds
  rw [if_neg (by decide), if_neg (by decide), show (-1000001 : Int32) - 5 = (-1000006 : Int32) by decide]
  rfl
theorem EQf5 {x m : St} (h : REL x m) {f g : Int32 × St → Option (Int32 × St)} (hf : ∀ v z, f (v, z) = some (v, z)) (hg : ∀ v z, g (v, z) = some (v, z)) : EQ ((f3_finding (-1000006 : Int32) x).bind f) ((f4_finds (5 : Int32) m).bind g) := by
  rw [bd (x_find5 x), bd (m_find5 m), hf, hg]
  exact EQs (REL_fnd h (by omega)) _
theorem x_find6 (x : St) : f3_finding (-1000007 : Int32) x = some ((-1000007 : Int32), up x 24 6 (x 24 6 + 1)) := by
  unfold f3_finding
  rw [show (-1000001 : Int32) - (-1000007 : Int32) = 6 by decide, if_neg (by decide), if_neg (by decide), if_neg (by decide), if_neg (by decide)]
  rfl
theorem m_find6 (m : St) : f4_finds (6 : Int32) m = some ((-1000007 : Int32), up m 29 6 (m 29 6 + 1)) := by
  unfold f4_finds
  rw [if_neg (by decide), if_neg (by decide), show (-1000001 : Int32) - 6 = (-1000007 : Int32) by decide]
  rfl
theorem EQf6 {x m : St} (h : REL x m) {f g : Int32 × St → Option (Int32 × St)} (hf : ∀ v z, f (v, z) = some (v, z)) (hg : ∀ v z, g (v, z) = some (v, z)) : EQ ((f3_finding (-1000007 : Int32) x).bind f) ((f4_finds (6 : Int32) m).bind g) := by
  rw [bd (x_find6 x), bd (m_find6 m), hf, hg]
  exact EQs (REL_fnd h (by omega)) _
theorem n10 : ((1 : Int32) = 0) = False := by simp
theorem n00 : ((0 : Int32) = 0) = True := by simp
theorem g119_0 : ¬ ((0 : Int32) < 0 ∨ 119 ≤ (0 : Int32).toNatClampNeg) := by decide
theorem cl_0 : (0 : Int32).toNatClampNeg = 0 := rfl
theorem g119_1 : ¬ ((1 : Int32) < 0 ∨ 119 ≤ (1 : Int32).toNatClampNeg) := by decide
theorem cl_1 : (1 : Int32).toNatClampNeg = 1 := rfl
theorem g119_2 : ¬ ((2 : Int32) < 0 ∨ 119 ≤ (2 : Int32).toNatClampNeg) := by decide
theorem cl_2 : (2 : Int32).toNatClampNeg = 2 := rfl
theorem g119_3 : ¬ ((3 : Int32) < 0 ∨ 119 ≤ (3 : Int32).toNatClampNeg) := by decide
theorem cl_3 : (3 : Int32).toNatClampNeg = 3 := rfl
theorem g119_4 : ¬ ((4 : Int32) < 0 ∨ 119 ≤ (4 : Int32).toNatClampNeg) := by decide
theorem cl_4 : (4 : Int32).toNatClampNeg = 4 := rfl
theorem eq_0_0 : (nI 0 = (0 : Int32)) = True := by simp [nl0]
theorem ne_0_1 : (nI 0 = (1 : Int32)) = False := eq_false (by decide)
theorem ne_0_2 : (nI 0 = (2 : Int32)) = False := eq_false (by decide)
theorem ne_0_3 : (nI 0 = (3 : Int32)) = False := eq_false (by decide)
theorem ne_0_4 : (nI 0 = (4 : Int32)) = False := eq_false (by decide)
theorem ne_0_5 : (nI 0 = (5 : Int32)) = False := eq_false (by decide)
theorem ne_0_6 : (nI 0 = (6 : Int32)) = False := eq_false (by decide)
theorem ne_0_7 : (nI 0 = (7 : Int32)) = False := eq_false (by decide)
theorem ne_0_8 : (nI 0 = (8 : Int32)) = False := eq_false (by decide)
theorem ne_0_9 : (nI 0 = (9 : Int32)) = False := eq_false (by decide)
theorem ne_1_0 : (nI 1 = (0 : Int32)) = False := eq_false (by decide)
theorem eq_1_1 : (nI 1 = (1 : Int32)) = True := by simp [nl1]
theorem ne_1_2 : (nI 1 = (2 : Int32)) = False := eq_false (by decide)
theorem ne_1_3 : (nI 1 = (3 : Int32)) = False := eq_false (by decide)
theorem ne_1_4 : (nI 1 = (4 : Int32)) = False := eq_false (by decide)
theorem ne_1_5 : (nI 1 = (5 : Int32)) = False := eq_false (by decide)
theorem ne_1_6 : (nI 1 = (6 : Int32)) = False := eq_false (by decide)
theorem ne_1_7 : (nI 1 = (7 : Int32)) = False := eq_false (by decide)
theorem ne_1_8 : (nI 1 = (8 : Int32)) = False := eq_false (by decide)
theorem ne_1_9 : (nI 1 = (9 : Int32)) = False := eq_false (by decide)
theorem ne_2_0 : (nI 2 = (0 : Int32)) = False := eq_false (by decide)
theorem ne_2_1 : (nI 2 = (1 : Int32)) = False := eq_false (by decide)
theorem eq_2_2 : (nI 2 = (2 : Int32)) = True := by simp [nl2]
theorem ne_2_3 : (nI 2 = (3 : Int32)) = False := eq_false (by decide)
theorem ne_2_4 : (nI 2 = (4 : Int32)) = False := eq_false (by decide)
theorem ne_2_5 : (nI 2 = (5 : Int32)) = False := eq_false (by decide)
theorem ne_2_6 : (nI 2 = (6 : Int32)) = False := eq_false (by decide)
theorem ne_2_7 : (nI 2 = (7 : Int32)) = False := eq_false (by decide)
theorem ne_2_8 : (nI 2 = (8 : Int32)) = False := eq_false (by decide)
theorem ne_2_9 : (nI 2 = (9 : Int32)) = False := eq_false (by decide)
theorem ne_3_0 : (nI 3 = (0 : Int32)) = False := eq_false (by decide)
theorem ne_3_1 : (nI 3 = (1 : Int32)) = False := eq_false (by decide)
theorem ne_3_2 : (nI 3 = (2 : Int32)) = False := eq_false (by decide)
theorem eq_3_3 : (nI 3 = (3 : Int32)) = True := by simp [nl3]
theorem ne_3_4 : (nI 3 = (4 : Int32)) = False := eq_false (by decide)
theorem ne_3_5 : (nI 3 = (5 : Int32)) = False := eq_false (by decide)
theorem ne_3_6 : (nI 3 = (6 : Int32)) = False := eq_false (by decide)
theorem ne_3_7 : (nI 3 = (7 : Int32)) = False := eq_false (by decide)
theorem ne_3_8 : (nI 3 = (8 : Int32)) = False := eq_false (by decide)
theorem ne_3_9 : (nI 3 = (9 : Int32)) = False := eq_false (by decide)
theorem ne_4_0 : (nI 4 = (0 : Int32)) = False := eq_false (by decide)
theorem ne_4_1 : (nI 4 = (1 : Int32)) = False := eq_false (by decide)
theorem ne_4_2 : (nI 4 = (2 : Int32)) = False := eq_false (by decide)
theorem ne_4_3 : (nI 4 = (3 : Int32)) = False := eq_false (by decide)
theorem eq_4_4 : (nI 4 = (4 : Int32)) = True := by simp [nl4]
theorem ne_4_5 : (nI 4 = (5 : Int32)) = False := eq_false (by decide)
theorem ne_4_6 : (nI 4 = (6 : Int32)) = False := eq_false (by decide)
theorem ne_4_7 : (nI 4 = (7 : Int32)) = False := eq_false (by decide)
theorem ne_4_8 : (nI 4 = (8 : Int32)) = False := eq_false (by decide)
theorem ne_4_9 : (nI 4 = (9 : Int32)) = False := eq_false (by decide)
theorem ne_5_0 : (nI 5 = (0 : Int32)) = False := eq_false (by decide)
theorem ne_5_1 : (nI 5 = (1 : Int32)) = False := eq_false (by decide)
theorem ne_5_2 : (nI 5 = (2 : Int32)) = False := eq_false (by decide)
theorem ne_5_3 : (nI 5 = (3 : Int32)) = False := eq_false (by decide)
theorem ne_5_4 : (nI 5 = (4 : Int32)) = False := eq_false (by decide)
theorem eq_5_5 : (nI 5 = (5 : Int32)) = True := by simp [nl5]
theorem ne_5_6 : (nI 5 = (6 : Int32)) = False := eq_false (by decide)
theorem ne_5_7 : (nI 5 = (7 : Int32)) = False := eq_false (by decide)
theorem ne_5_8 : (nI 5 = (8 : Int32)) = False := eq_false (by decide)
theorem ne_5_9 : (nI 5 = (9 : Int32)) = False := eq_false (by decide)
theorem ne_6_0 : (nI 6 = (0 : Int32)) = False := eq_false (by decide)
theorem ne_6_1 : (nI 6 = (1 : Int32)) = False := eq_false (by decide)
theorem ne_6_2 : (nI 6 = (2 : Int32)) = False := eq_false (by decide)
theorem ne_6_3 : (nI 6 = (3 : Int32)) = False := eq_false (by decide)
theorem ne_6_4 : (nI 6 = (4 : Int32)) = False := eq_false (by decide)
theorem ne_6_5 : (nI 6 = (5 : Int32)) = False := eq_false (by decide)
theorem eq_6_6 : (nI 6 = (6 : Int32)) = True := by simp [nl6]
theorem ne_6_7 : (nI 6 = (7 : Int32)) = False := eq_false (by decide)
theorem ne_6_8 : (nI 6 = (8 : Int32)) = False := eq_false (by decide)
theorem ne_6_9 : (nI 6 = (9 : Int32)) = False := eq_false (by decide)
theorem ne_7_0 : (nI 7 = (0 : Int32)) = False := eq_false (by decide)
theorem ne_7_1 : (nI 7 = (1 : Int32)) = False := eq_false (by decide)
theorem ne_7_2 : (nI 7 = (2 : Int32)) = False := eq_false (by decide)
theorem ne_7_3 : (nI 7 = (3 : Int32)) = False := eq_false (by decide)
theorem ne_7_4 : (nI 7 = (4 : Int32)) = False := eq_false (by decide)
theorem ne_7_5 : (nI 7 = (5 : Int32)) = False := eq_false (by decide)
theorem ne_7_6 : (nI 7 = (6 : Int32)) = False := eq_false (by decide)
theorem eq_7_7 : (nI 7 = (7 : Int32)) = True := by simp [nl7]
theorem ne_7_8 : (nI 7 = (8 : Int32)) = False := eq_false (by decide)
theorem ne_7_9 : (nI 7 = (9 : Int32)) = False := eq_false (by decide)
theorem ne_8_0 : (nI 8 = (0 : Int32)) = False := eq_false (by decide)
theorem ne_8_1 : (nI 8 = (1 : Int32)) = False := eq_false (by decide)
theorem ne_8_2 : (nI 8 = (2 : Int32)) = False := eq_false (by decide)
theorem ne_8_3 : (nI 8 = (3 : Int32)) = False := eq_false (by decide)
theorem ne_8_4 : (nI 8 = (4 : Int32)) = False := eq_false (by decide)
theorem ne_8_5 : (nI 8 = (5 : Int32)) = False := eq_false (by decide)
theorem ne_8_6 : (nI 8 = (6 : Int32)) = False := eq_false (by decide)
theorem ne_8_7 : (nI 8 = (7 : Int32)) = False := eq_false (by decide)
theorem eq_8_8 : (nI 8 = (8 : Int32)) = True := by simp [nl8]
theorem ne_8_9 : (nI 8 = (9 : Int32)) = False := eq_false (by decide)
theorem ne_9_0 : (nI 9 = (0 : Int32)) = False := eq_false (by decide)
theorem ne_9_1 : (nI 9 = (1 : Int32)) = False := eq_false (by decide)
theorem ne_9_2 : (nI 9 = (2 : Int32)) = False := eq_false (by decide)
theorem ne_9_3 : (nI 9 = (3 : Int32)) = False := eq_false (by decide)
theorem ne_9_4 : (nI 9 = (4 : Int32)) = False := eq_false (by decide)
theorem ne_9_5 : (nI 9 = (5 : Int32)) = False := eq_false (by decide)
theorem ne_9_6 : (nI 9 = (6 : Int32)) = False := eq_false (by decide)
theorem ne_9_7 : (nI 9 = (7 : Int32)) = False := eq_false (by decide)
theorem ne_9_8 : (nI 9 = (8 : Int32)) = False := eq_false (by decide)
theorem eq_9_9 : (nI 9 = (9 : Int32)) = True := by simp [nl9]
theorem m_part {m : St} {τ : Nat → Nat} (hT : TM (m 26) τ) {c k : Nat} (hc : c < 16) (hk : k < 5) : f4_part (nI c) (nI k) m = some (nI (tr τ c k)) := by
  match k, hk with
  | 0, _ => exact m_part0 hT hc
  | 1, _ => exact m_part1 hT hc
  | 2, _ => exact m_part2 hT hc
  | 3, _ => exact m_part3 hT hc
  | 4, _ => exact m_part4 hT hc
theorem x_part {x : St} {t : Nat} {τ : Nat → Nat} (hT : TX x t τ) {c k : Nat} (hc : c < 16) (hk : k < 5) : f2_trait t (nI c) (nI k) x = some (nI (tr τ c k)) := by
  match k, hk with
  | 0, _ => exact x_part0 hT hc
  | 1, _ => exact x_part1 hT hc
  | 2, _ => exact x_part2 hT hc
  | 3, _ => exact x_part3 hT hc
  | 4, _ => exact x_part4 hT hc
theorem m_its {m : St} {τ : Nat → Nat} (hT : TM (m 26) τ) {c k : Nat} (hc : c < 8) (hk : k < 3) : f4_its (nI c) (nI k) m = some (nI (qu τ c k)) := by
  match k, hk with
  | 0, _ => exact m_its0 hT hc
  | 1, _ => exact m_its1 hT hc
  | 2, _ => exact m_its2 hT hc
theorem x_its {x : St} {t : Nat} {τ : Nat → Nat} (hT : TX x t τ) {c k : Nat} (hc : c < 8) (hk : k < 3) : f2_quality t (nI c) (nI k) x = some (nI (qu τ c k)) := by
  match k, hk with
  | 0, _ => exact x_its0 hT hc
  | 1, _ => exact x_its1 hT hc
  | 2, _ => exact x_its2 hT hc
