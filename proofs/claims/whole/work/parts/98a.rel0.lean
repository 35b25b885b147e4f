-- the two new objects stand in the relation
def tau0 (i : Nat) : Nat := if i < 5 then 0 else if i < 85 then (if (i - 5) % 5 = 0 then 90 - 6 * ((i - 5) / 5) else if (i - 5) % 5 = 1 then min ((i - 5) / 5 + 1) 15 else if (i - 5) % 5 = 2 then 0 else if (i - 5) % 5 = 3 then 1 else 50) else 0
theorem tw0_eq : ∀ i, i < 80 → tw0 i = nI (tau0 (5 + i)) := by decide +kernel
theorem ms0_eq : ∀ i, i < 109 → i ≠ 4 → ms0 i = nI (tau0 i) := by decide +kernel
theorem ms0_sp : ∀ i, i < 10 → ms0 (109 + i) = -1 ∧ sp0 i = -1 := by decide +kernel
theorem ms0_4 : ms0 4 = 1 := by decide +kernel
theorem tau0_t : ∀ c, c < 16 → tr tau0 c 0 ≤ 99 ∧ tr tau0 c 1 ≤ 15 ∧ tr tau0 c 2 ≤ 9 ∧ tr tau0 c 3 ≤ 99 ∧ tr tau0 c 4 ≤ 99 := by decide +kernel
theorem tau0_w : ∀ w, w < 8 → qu tau0 w 0 ≤ 6 ∧ qu tau0 w 1 ≤ 15 ∧ qu tau0 w 2 ≤ 999 := by decide +kernel
theorem tau0_q : ∀ i, i < 24 → tau0 (85 + i) = 0 := by decide +kernel
theorem rel_0 : REL x0 m0 := by
  refine ⟨⟨tau0, ⟨by decide, by decide, by decide, tau0_t, tau0_w⟩, fun i h1 h2 h3 => ms0_eq i h2 h3, ⟨fun i hi => tw0_eq i hi, fun i hi => ?_, rfl, rfl, rfl⟩, ⟨by decide, ms0_eq 0 (by omega) (by omega), rfl⟩, ms0_4.symm, fun i hi => ⟨(ms0_sp i hi).2.trans (ms0_sp i hi).1.symm, Or.inl (ms0_sp i hi).1⟩⟩, ⟨rfl, Or.inl rfl⟩, fun _ _ => rfl, ⟨0, by omega, rfl, rfl, fun i hi => ⟨0, by omega, rfl, rfl⟩⟩, fun j hj => ⟨0, 0, Or.inl rfl, by omega, ?_, rfl, ?_, rfl, fun i hi => ?_⟩⟩
  · show (0 : Int32) = nI (tau0 (85 + i))
    rw [tau0_q i hi]
    rfl
  · rcases (show j = 0 ∨ j = 1 ∨ j = 2 ∨ j = 3 by omega) with z | z | z | z <;> subst z <;> rfl
  · rcases (show j = 0 ∨ j = 1 ∨ j = 2 ∨ j = 3 by omega) with z | z | z | z <;> subst z <;> rfl
  · rcases (show j = 0 ∨ j = 1 ∨ j = 2 ∨ j = 3 by omega) with z | z | z | z <;> subst z <;> rfl
theorem pure_main (L : Nat) (hL : L ≤ 3072) (xs : Nat → Int32) : ∃ n, fL_law_L18 xs L n 0 x0 m0 = some 1 :=
  ⟨512 + 1, pure_loop hL xs 512 0 x0 m0 rel_0 (by omega) (by omega)⟩
