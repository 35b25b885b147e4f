def sOwn : List (String × Nat) := [("DownhillWhispers$Tape", 141), ("DownhillWhispers$Tape", 129), ("DownhillWhispers$Tape", 131), ("DownhillWhispers$Tape", 133), ("DownhillWhispers$Tape", 135), ("DownhillWhispers$Tape", 137), ("DownhillWhispers$Tape", 139), ("DownhillWhispers$Tape", 80), ("DownhillWhispers$Tape", 86), ("DownhillWhispers$Tape", 47), ("DownhillWhispers$Tape", 95), ("DownhillWhispers$Tape", 100), ("DownhillWhispers$Tape", 102), ("DownhillWhispers$Tape", 104), ("DownhillWhispers$Tape", 52), ("DownhillWhispers$Tape", 66), ("DownhillWhispers$Tape", 68), ("DownhillWhispersModel", 350)]
def tmS (i : Nat) : Term := Term.string (sOwn.getD i ("", 0)).1 (sOwn.getD i ("", 0)).2
abbrev PP : Jvm.Cond := Jvm.Cond.and given_1 narrow_1
set_option maxRecDepth 100000 in
theorem pp_tarr : ∀ i, i < 4 → Cond.arrayOf (.static "DownhillWhispers" (tName.getD i "") "[I") .int ∈ flatC PP ∧ Cond.eq (.length (.static "DownhillWhispers" (tName.getD i "") "[I")) (.int (Int32.ofNat (tLen.getD i 0))) ∈ flatC PP ∧ ∀ j, j < tLen.getD i 0 → Cond.eq (.elem (.static "DownhillWhispers" (tName.getD i "") "[I") (.int (Int32.ofNat j))) (.int ((tVal.getD i []).getD j 0)) ∈ flatC PP := by decide +kernel
set_option maxRecDepth 100000 in
theorem pp_lays : ∀ i, i < 4 → Cond.laysStatic "DownhillWhispers" (tName.getD i "") "[I" ∈ lw_tbl := by decide +kernel
set_option maxRecDepth 100000 in
theorem pp_str : ∀ i, i < 18 → Cond.exactly (tmS i) "java/lang/String" ∈ flatC PP ∧ Cond.eq (.field (tmS i) "java/lang/String" "coder" "B") (.int 0) ∈ flatC PP ∧ Cond.arrayOf (.field (tmS i) "java/lang/String" "value" "[B") .byte ∈ flatC PP ∧ Cond.eq (.length (.field (tmS i) "java/lang/String" "value" "[B")) (.int (Int32.ofNat (sLen.getD i 0))) ∈ flatC PP ∧ ∀ j, j < sLen.getD i 0 → Cond.eq (.elem (.field (tmS i) "java/lang/String" "value" "[B") (.int (Int32.ofNat j))) (.int ((sByt.getD i []).getD j 0)) ∈ flatC PP := by decide +kernel
set_option maxRecDepth 100000 in
theorem pp_ref : ∀ q ∈ sRefs, q.2.2 < 18 ∧ Cond.stringRef q.1 q.2.1 (sTx.getD q.2.2 "") ∈ lw_tbl ∧ ((q.1, q.2.1) = sOwn.getD q.2.2 ("", 0) ∨ Cond.eq (tmS q.2.2) (Term.string q.1 q.2.1) ∈ flatC PP) := by decide +kernel
set_option maxRecDepth 100000 in
theorem pp_nest : (∀ q ∈ NWf, Cond.fieldLinkNest q.1 q.2.1 q.2.2.1 q.2.2.2.1 q.2.2.2.2.1 q.2.2.2.2.2 ∈ lw_tbl) ∧ ∀ q ∈ NWm, Cond.methodLinkNest q.1 q.2.1 q.2.2.1 q.2.2.2 ∈ lw_tbl := by decide +kernel
set_option maxRecDepth 100000 in
theorem pp_cs : Cond.laysStatic "java/lang/String" "COMPACT_STRINGS" "Z" ∈ lw_tbl ∧ Cond.initialized "java/lang/String" ∈ lw_tbl ∧ Cond.eq (.static "java/lang/String" "COMPACT_STRINGS" "Z") (.int 1) ∈ flatC PP := by decide +kernel
set_option maxRecDepth 100000 in
theorem pp_si : Cond.laysStatic "jdk/internal/util/Preconditions" "SIOOBE_FORMATTER" "Ljava/util/function/BiFunction;" ∈ lw_tbl ∧ Cond.initialized "jdk/internal/util/Preconditions" ∈ lw_tbl ∧ Cond.isRef (.static "jdk/internal/util/Preconditions" "SIOOBE_FORMATTER" "Ljava/util/function/BiFunction;") ∈ flatC PP := by decide +kernel
set_option maxRecDepth 100000 in
theorem pp_iz : Cond.initialized "DownhillWhispers" ∈ lw_tbl := by decide +kernel
theorem pp_dif : ∀ i, i < 18 → ∀ j, j < 18 → i ≠ j → sLen.getD i 0 ≠ sLen.getD j 0 ∨ ∃ k, k < sLen.getD i 0 ∧ (sByt.getD i []).getD k 0 ≠ (sByt.getD j []).getD k 0 := by decide +kernel
theorem pp_len : ∀ i, i < 18 → sLen.getD i 0 < 8 := by decide +kernel
theorem pp_tlen : ∀ i, i < 4 → tLen.getD i 0 < 8 := by decide +kernel
theorem of_one {o n d : String} {v1 v2 : Value} {t : Nat} {A : Nat → Prop} {U : State} {H : Heap} (h1 : va_OF o n d v1 t A U H) (h2 : va_OF o n d v2 t A U H) : v1 = v2 := by
  obtain ⟨cf, k, i, f, cell, a1, a2, a3, a4, a5, a6⟩ := h1
  obtain ⟨cf', k', i', f', cell', b1, b2, b3, b4, b5, b6⟩ := h2
  have e := a1.symm.trans b1
  simp only [Option.some.injEq, Prod.mk.injEq] at e
  obtain ⟨-, -, -, rfl⟩ := e
  cases a3.symm.trans b3
  exact Option.some.inj (a5.symm.trans b5)
theorem st_strings {args : Array Value} {s : State} {A : Nat → Prop} (hs : ∀ c ∈ flatC PP, c.before args s = true) (hA : ∀ a : Nat, a < s.heap.size → ¬ A a) : ∃ adK adV : Nat → Nat, vk_S 18 sLen sByt adK adV A s s.heap ∧ ∀ i, i < 18 → (tmS i).eval args s none [] s = some (.ref (adK i)) := by
  have h0 : ∀ i : Nat, ∃ q : Nat × Nat, i < 18 → (tmS i).eval args s none [] s = some (.ref q.1) ∧ va_O "java/lang/String" q.1 A s s.heap ∧ va_OF "java/lang/String" "coder" "B" (.int 0) q.1 A s s.heap ∧ va_OF "java/lang/String" "value" "[B" (.ref q.2) q.1 A s s.heap ∧ va_T .byte q.2 (sLen.getD i 0) (fun j => .int ((sByt.getD i []).getD j 0)) A s s.heap := by
    intro i
    by_cases hi : i < 18
    · obtain ⟨p1, p2, p3, p4, p5⟩ := pp_str i hi
      have hl := pp_len i hi
      have one : ∀ {k : Nat}, k < 1 → k = 0 := fun h => Nat.lt_one_iff.mp h
      obtain ⟨aK, aV, g1, g2⟩ := vk_Sof (args := args) (s := s) (N := 1) (tm := fun _ => tmS i) (len := [sLen.getD i 0]) (byt := [sByt.getD i []]) (A := A) (fun k hk => by rw [one hk]; show sLen.getD i 0 < 2 ^ 31; omega) (fun _ _ => hs _ p1) (fun _ _ => hs _ p2) (fun _ _ => hs _ p3) (fun k hk => by rw [one hk]; exact hs _ p4) (fun k hk j hj => by rw [one hk] at hj ⊢; exact hs _ (p5 j hj)) (fun a b ha hb hab => absurd ((one ha).trans (one hb).symm) hab) hA
      exact ⟨(aK 0, aV 0), fun _ => ⟨g2 0 (by omega), g1.1 0 (by omega)⟩⟩
    · exact ⟨(0, 0), fun h => absurd h hi⟩
  obtain ⟨ad, had⟩ := Classical.axiomOfChoice h0
  refine ⟨fun i => (ad i).1, fun i => (ad i).2, ⟨fun i hi => (had i hi).2, fun i j hi hj e => ?_⟩, fun i hi => (had i hi).1⟩
  by_cases hij : i = j
  · exact hij
  · exfalso
    obtain ⟨-, -, -, a4, a5⟩ := had i hi
    obtain ⟨-, -, -, b4, b5⟩ := had j hj
    have e1 : (ad i).1 = (ad j).1 := e
    rw [e1] at a4
    have e2 : (ad i).2 = (ad j).2 := Value.ref.inj (of_one a4 b4)
    rw [e2] at a5
    obtain ⟨cell, c1, -, -, c4, c5, c6, -⟩ := a5
    obtain ⟨cell', d1, -, -, d4, d5, d6, -⟩ := b5
    cases c1.symm.trans d1
    have hl1 := pp_len i hi
    have hl2 := pp_len j hj
    have e3 : sLen.getD i 0 = sLen.getD j 0 := (nI_eq (by omega) (by omega)).mp (c5.symm.trans d5)
    rcases pp_dif i hi j hj hij with h | ⟨k, hk, h⟩
    · exact h e3
    · exact h (Value.int.inj (Option.some.inj ((c6 k hk).symm.trans (d6 k (by omega)))))
theorem st_arr {args : Array Value} {s : State} {A : Nat → Prop} (hs : ∀ c ∈ flatC PP, c.before args s = true) (hts : ∀ w ∈ lw_tbl, w.before args s = true) (hA : ∀ a : Nat, a < s.heap.size → ¬ A a) : ∃ ad : Nat → Nat, ∀ i, i < 4 → va_Z "DownhillWhispers" (tName.getD i "") "[I" (.ref (ad i)) A s s.heap ∧ va_T .int (ad i) (tLen.getD i 0) (fun j => .int ((tVal.getD i []).getD j 0)) A s s.heap := by
  have h0 : ∀ i : Nat, ∃ q : Nat, i < 4 → va_Z "DownhillWhispers" (tName.getD i "") "[I" (.ref q) A s s.heap ∧ va_T .int q (tLen.getD i 0) (fun j => .int ((tVal.getD i []).getD j 0)) A s s.heap := by
    intro i
    by_cases hi : i < 4
    · obtain ⟨p1, p2, p3⟩ := pp_tarr i hi
      have hl := pp_tlen i hi
      obtain ⟨t, ht, hT⟩ := va_Tof (f := fun j => .int ((tVal.getD i []).getD j 0)) (A := A) (by omega) (hs _ p1) (va_eqt (hs _ p2)) (fun j hj => va_eqt (hs _ (p3 j hj))) hA
      exact ⟨t, fun _ => ⟨va_Zof (hts _ (pp_lays i hi)) (hts _ pp_iz) ht hA, hT⟩⟩
    · exact ⟨0, fun h => absurd h hi⟩
  obtain ⟨ad, had⟩ := Classical.axiomOfChoice h0
  exact ⟨ad, had⟩
theorem va_P_upd {D : va_G} {cl : List vw_C} {ws : va_W} {H : Heap} (hP : va_P D cl ws H) {i : Nat} {q : Nat × va_E} (h : va_at D cl q H) : va_P D cl (ws.set i q) H := by
  intro k q2 hk
  rw [List.getElem?_set] at hk
  split at hk
  · split at hk
    · cases hk; exact h
    · cases hk
  · exact hP k q2 hk
theorem va_D_fst {A : Nat → Prop} {ws ws' : va_W} (he : ws'.map Prod.fst = ws.map Prod.fst) (h : va_D A ws) : va_D A ws' := by
  have key : ∀ (i : Nat) (p : Nat × va_E), ws'[i]? = some p → ∃ p', ws[i]? = some p' ∧ p'.1 = p.1 := by
    intro i p hp
    have h1 : (ws'.map Prod.fst)[i]? = some p.1 := by rw [List.getElem?_map, hp]; rfl
    rw [he, List.getElem?_map] at h1
    cases hw : ws[i]? with
    | none => rw [hw] at h1; cases h1
    | some p' => rw [hw] at h1; exact ⟨p', rfl, Option.some.inj h1⟩
  refine ⟨fun i j p q hp hq e => ?_, fun k q hq => ?_⟩
  · obtain ⟨p', h1, h2⟩ := key i p hp
    obtain ⟨q', h3, h4⟩ := key j q hq
    exact h.1 i j p' q' h1 h3 (by rw [h2, h4, e])
  · obtain ⟨q', h3, h4⟩ := key k q hq
    rw [← h4]
    exact h.2 k q' h3
def tf0 : Nat → Int32 := fun i => match i with
  | 7 => 1
  | _ => 0
def x0 : St := fun k => match k with
  | 1 => tf0
  | 5 => tf0
  | 9 => tf0
  | 2 => tw0
  | 6 => tw0
  | 10 => tw0
  | 4 => sp0
  | 8 => sp0
  | 12 => sp0
  | _ => fun _ => 0
def m0 : St := fun k => match k with
  | 26 => ms0
  | _ => fun _ => 0
