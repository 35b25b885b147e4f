set_option maxHeartbeats 4000000 in
set_option maxRecDepth 100000 in
/-- the law, from its entry -/
theorem whole_start {p : Program} {e : Env} {s : State} {m : MethodId} {below : List Frame} {meth : Method} {c : Code} (l : Launch) (hflags : l.flags = flags0) {b L : Nat} {xs : Nat → Int32} (hL : L ≤ 3072) (C0 : lw_At p s m meth c b L xs) : W p l e room_1 s m #[Value.ref b] below meth c s.heap [] 0 0 (lw_Z below #[Value.ref b] s) (entryFrame m ([Value.ref b] : List Value).toArray 4) := by
  obtain ⟨hx, hb, hr, hml, hown, hts, hX, hbl, hlocks, hgv⟩ := id C0
  have htg : ∀ w ∈ TG, w.before #[Value.ref b] s = true := fun w h => hts w (List.mem_filter.mp h).1
  have hs := flat_of_before _ hgv
  have hA : ∀ q : Nat, s.heap.size ≤ q → (fun q : Nat => s.heap.size ≤ q) q := fun _ h => h
  have hnA : ∀ a : Nat, a < s.heap.size → ¬ (fun q : Nat => s.heap.size ≤ q) a := fun a h => Nat.not_le.mpr h
  obtain ⟨d0, e0, hKn0⟩ := u_known (C := RX0) (T := TX0) (N := 3) (n := 3) htg it_0 (htg _ q_in_X0)
  obtain ⟨d1, e1, hKn1⟩ := u_known (C := RX1) (T := TX1) (N := 6) (n := 6) htg it_1 (htg _ q_in_X1)
  obtain ⟨d2, e2, hKn2⟩ := u_known (C := RX2) (T := TX2) (N := 8) (n := 8) htg it_2 (htg _ q_in_X2)
  obtain ⟨d3, e3, hKn3⟩ := u_known (C := RX3) (T := TX3) (N := 7) (n := 7) htg it_3 (htg _ q_in_X3)
  obtain ⟨d4, e4, hKn4⟩ := u_known (C := RX4) (T := TX4) (N := 23) (n := 23) htg it_4 (htg _ q_in_X4)
  obtain ⟨D, hKc⟩ : ∃ (D : va_G), ∀ (k : Nat) (q : vw_C), kcl[k]? = some q → u_Kn s q.1 q.2.1 q.2.2 (D.1 k) (D.2 k) := by
    refine ⟨(fun k => match k with | 0 => d0 | 1 => d1 | 2 => d2 | 3 => d3 | _ => d4, fun k => match k with | 0 => e0 | 1 => e1 | 2 => e2 | 3 => e3 | _ => e4), ?_⟩
    intro k q hq
    match k, hq with
    | 0, hq => cases hq; exact hKn0
    | 1, hq => cases hq; exact hKn1
    | 2, hq => cases hq; exact hKn2
    | 3, hq => cases hq; exact hKn3
    | 4, hq => cases hq; exact hKn4
    | k + 5, hq => simp [kcl] at hq
  obtain ⟨cI, hI1, hI2⟩ := k_arrI (htg _ q_ac)
  have hK : va_K D kcl [(cI, .int)] s := ⟨hKc, fun k q h => by
    match k, h with
    | 0, h => cases h; exact ⟨hI1, hI2⟩
    | k + 1, h => simp at h⟩
  have hN : NW s := ⟨fun q hq => va_Nw.of rfl (hts _ (pp_nest.1 q hq)), fun q hq => va_Nw.of rfl (hts _ (pp_nest.2 q hq))⟩
  have hO : va_AO "DownhillWhispers$Sheet" s := va_AO.of (hts _ q_ao)
  have hS : va_S (fun q : Nat => s.heap.size ≤ q) s.heap s.heap [] := va_S.rf
  have hP : va_P D kcl [] s.heap := fun k q h => by simp at h
  have hD : va_D (fun q : Nat => s.heap.size ≤ q) [] := ⟨fun i j p q h => by simp at h, fun k q h => by simp at h⟩
  have hl := lv_entry ([.ref b]) (n := 4) (Nat.le_of_ble_eq_true rfl)
  rw [lg_entry_eq]
  generalize (lg_sl ([.ref b]) ++ List.replicate (4 - (lg_sl ([.ref b])).length) Slot.unset).toArray = ls at hl ⊢
  have hl : lv_has ls 4 [(0, .ref b)] := hl
  obtain ⟨aT, hET⟩ := st_arr (A := fun q : Nat => s.heap.size ≤ q) hs hts hnA
  obtain ⟨aK, aV, hSS, hSe⟩ := st_strings (A := fun q : Nat => s.heap.size ≤ q) hs hnA
  have hZc := va_Zof (A := fun q : Nat => s.heap.size ≤ q) (hts _ pp_cs.1) (hts _ pp_cs.2.1) (va_eqt (hs _ pp_cs.2.2)) hnA
  obtain ⟨vF, hZf, hvF⟩ : ∃ v : Value, va_Z "jdk/internal/util/Preconditions" "SIOOBE_FORMATTER" "Ljava/util/function/BiFunction;" v (fun q : Nat => s.heap.size ≤ q) s s.heap ∧ (v = .null ∨ ∃ a, v = .ref a) := by
    rcases va_Zqof (A := fun q : Nat => s.heap.size ≤ q) (hts _ pp_si.1) (hts _ pp_si.2.1) (hs _ pp_si.2.2) hnA with h | ⟨t, h⟩
    · exact ⟨_, h, Or.inl rfl⟩
    · exact ⟨_, h, Or.inr ⟨t, rfl⟩⟩
  have hRf : ∀ q ∈ sRefs, vk_R q.1 q.2.1 (sTx.getD q.2.2 "") (aK q.2.2) s := by
    intro q hq
    obtain ⟨r1, r2, r3⟩ := pp_ref q hq
    have h1 := hSe _ r1
    refine vk_R.of (hts _ r2) ?_
    rcases r3 with r3 | r3
    · unfold tmS at h1
      rw [← r3] at h1
      exact h1
    · exact va_eqR (hs _ r3) h1
  refine va_new (ci := 3) (fs := [.null, .null, .null, .int 0, .null, .null, .null]) (C := RX3) (T := TX3) (N := 7) hx hb htg it_3 tyX3 tyX3_ok hown (htg _ q_cl_L_7) (htg _ q_in_X3) (htg _ q_iz_X3) hK hP hD hS hA rfl (fun j hj => by rcases (show j = 0 ∨ j = 1 ∨ j = 2 ∨ j = 3 ∨ j = 4 ∨ j = 5 ∨ j = 6 by omega) with rfl | rfl | rfl | rfl | rfl | rfl | rfl <;> rfl) (Nat.le_of_ble_eq_true rfl) (Nat.le_of_ble_eq_true rfl) dL_law_0 (fun a0 H hP hD hS => ?_)
  have hP : va_P D kcl [(a0, .inr (3, [.null, .null, .null, .int 0, .null, .null, .null]))] H := hP
  have hD : va_D (fun q : Nat => s.heap.size ≤ q) [(a0, .inr (3, [.null, .null, .null, .int 0, .null, .null, .null]))] := hD
  refine lv_dup hx hb dL_law_3 rfl ?_
  refine u_end (wr := []) (va_runI (As := []) (rest := [.ref a0]) ⟨hx, hb, hml, hown, htg⟩ (k_main l D cI a0 _) (cwI 0 htg (gi_wm ki_X3_init.1) rfl rfl rfl (htg _ ki_X3_init.2.1) (htg _ ml_L_9) (htg _ ki_X3_init.2.2.1) ki_X3_init.2.2.2.1 ki_X3_init.2.2.2.2 ⟨Nat.le_of_ble_eq_true rfl, Nat.le_of_ble_eq_true rfl⟩) ⟨UC.blind, u_pre hK hN hO (hP.sub [0] rfl) (hD.sub [0] (by decide) rfl)⟩ rfl rfl hl.1 rfl (lv_room (Nat.le_of_ble_eq_true rfl)) dL_law_4 ⟨Nat.le_of_ble_eq_true rfl, Nat.le_of_ble_eq_true rfl⟩) hP hD hS hA [0] [] rfl rfl (by decide) (by decide) (fun w1 t1 H locs hB hK1 hP hD hS => ?_)
  obtain ⟨cR, t0, t0a, t0b, t0c, t1, t1a, t1b, t1c, t2, t2a, t2b, t2c, tp, tpa, sh, s0, s0a, s1, s1a, s2, s2a, s3, s3a, fi, rfl, rfl⟩ := hB
  have hKR := hK1
  have hP : va_P D kcl (mainW cI cR a0 t0 t0a t0b t0c t1 t1a t1b t1c t2 t2a t2b t2c tp tpa sh s0 s0a s1 s1a s2 s2a s3 s3a fi) H := hP
  have hD : va_D (fun q : Nat => s.heap.size ≤ q) (mainW cI cR a0 t0 t0a t0b t0c t1 t1a t1b t1c t2 t2a t2b t2c tp tpa sh s0 s0a s1 s1a s2 s2a s3 s3a fi) := hD
  refine lv_astore_n (lv' := [(1, .ref a0), (0, .ref b)]) hx hb dL_law_7 rfl hl (by decide) rfl (fun ls hl => ?_)
  refine va_new (ci := 4) (fs := [.null, .null, .null, .int 0, .null, .int 0, .int 0, .int 0, .int 0, .int 0, .int 0, .null, .int 0, .int 0, .null, .int 0, .int 0, .int 0, .int 0, .null, .null, .null, .null]) (C := RX4) (T := TX4) (N := 23) hx hb htg it_4 tyX4 tyX4_ok hown (htg _ q_cl_L_10) (htg _ q_in_X4) (htg _ q_iz_X4) hK hP hD hS hA rfl (fun j hj => by rcases (show j = 0 ∨ j = 1 ∨ j = 2 ∨ j = 3 ∨ j = 4 ∨ j = 5 ∨ j = 6 ∨ j = 7 ∨ j = 8 ∨ j = 9 ∨ j = 10 ∨ j = 11 ∨ j = 12 ∨ j = 13 ∨ j = 14 ∨ j = 15 ∨ j = 16 ∨ j = 17 ∨ j = 18 ∨ j = 19 ∨ j = 20 ∨ j = 21 ∨ j = 22 by omega) with rfl | rfl | rfl | rfl | rfl | rfl | rfl | rfl | rfl | rfl | rfl | rfl | rfl | rfl | rfl | rfl | rfl | rfl | rfl | rfl | rfl | rfl | rfl <;> rfl) (Nat.le_of_ble_eq_true rfl) (Nat.le_of_ble_eq_true rfl) dL_law_8 (fun c0 H hP hD hS => ?_)
  refine lv_dup hx hb dL_law_11 rfl ?_
  refine u_end (wr := mainW cI cR a0 t0 t0a t0b t0c t1 t1a t1b t1c t2 t2a t2b t2c tp tpa sh s0 s0a s1 s1a s2 s2a s3 s3a fi) (va_runI (As := []) (rest := [.ref c0]) ⟨hx, hb, hml, hown, htg⟩ (k_model l D cI c0 _) (cwI 0 htg (gi_wm ki_X4_init.1) rfl rfl rfl (htg _ ki_X4_init.2.1) (htg _ ml_L_12) (htg _ ki_X4_init.2.2.1) ki_X4_init.2.2.2.1 ki_X4_init.2.2.2.2 ⟨Nat.le_of_ble_eq_true rfl, Nat.le_of_ble_eq_true rfl⟩) ⟨UC.blind, u_pre hK hN hO (hP.sub [25] rfl) (hD.sub [25] (by decide) rfl)⟩ rfl rfl hl.1 rfl (lv_room (Nat.le_of_ble_eq_true rfl)) dL_law_12 ⟨Nat.le_of_ble_eq_true rfl, Nat.le_of_ble_eq_true rfl⟩) hP hD hS hA [25] [0, 1, 2, 3, 4, 5, 6, 7, 8, 9, 10, 11, 12, 13, 14, 15, 16, 17, 18, 19, 20, 21, 22, 23, 24] rfl rfl (by decide) (by decide) (fun w1 t1 H locs hB hK1 hP hD hS => ?_)
  obtain ⟨a_s, a_kept, a_aside, a_found, a_sandWas, a_tape, a_bitsOf, a_sizeOf, a_number, a_moved, rfl, rfl⟩ := hB
  refine lv_astore_n (lv' := [(2, .ref c0), (1, .ref a0), (0, .ref b)]) hx hb dL_law_15 rfl hl (by decide) rfl (fun ls hl => ?_)
  refine lv_iconst (v := (0 : Int32)) hx hb dL_law_16 (by decide) ?_
  refine lv_istore_n (lv' := [(3, .int (0 : Int32)), (2, .ref c0), (1, .ref a0), (0, .ref b)]) hx hb dL_law_17 rfl hl (by decide) rfl (fun ls hl => ?_)
  refine W.widen (k := 600000) (n := 7302250) (Nat.le_of_ble_eq_true rfl) (Nat.le_of_ble_eq_true rfl) ?_
  obtain ⟨G, hG⟩ : ∃ G : GT, G = (D, (fun k => ([a0, t0, t0a, t0b, t0c, t1, t1a, t1b, t1c, t2, t2a, t2b, t2c, tp, tpa, sh, s0, s0a, s1, s1a, s2, s2a, s3, s3a, fi, c0, a_s, a_kept, a_aside, a_found, a_sandWas, a_tape, a_bitsOf, a_sizeOf, a_number, a_moved] : List Nat).getD k 0), cI, cR, (fun q : Nat => s.heap.size ≤ q), aT, aK, aV, vF) := ⟨_, rfl⟩
  have hGA : gA G = fun q => s.heap.size ≤ q := by rw [hG]
  have hWW : (mainW cI cR a0 t0 t0a t0b t0c t1 t1a t1b t1c t2 t2a t2b t2c tp tpa sh s0 s0a s1 s1a s2 s2a s3 s3a fi ++ modelW cI c0 a_s a_kept a_aside a_found a_sandWas a_tape a_bitsOf a_sizeOf a_number a_moved).set 15 (sh, .inl (cR, 4, .inr (.inr (.inr (.inr (gsh G)))))) = WW G x0 m0 := by
    subst hG
    rfl
  have hc15 : va_at D kcl (sh, .inl (cR, 4, .inr (.inr (.inr (.inr (gsh G)))))) H := by
    have h15 : va_at D kcl (sh, .inl (cR, 4, .inr (.inr (.inr (.inr (va_up (va_up (va_up (va_up (fun _ => none) ((0 : Int32)).toNatClampNeg (some s0)) ((1 : Int32)).toNatClampNeg (some s1)) ((2 : Int32)).toNatClampNeg (some s2)) ((3 : Int32)).toNatClampNeg (some s3))))))) H := hP 15 _ rfl
    have e15 : vp_cell cR (4, .inr (.inr (.inr (.inr (gsh G))))) = vp_cell cR (4, .inr (.inr (.inr (.inr (va_up (va_up (va_up (va_up (fun _ => none) ((0 : Int32)).toNatClampNeg (some s0)) ((1 : Int32)).toNatClampNeg (some s1)) ((2 : Int32)).toNatClampNeg (some s2)) ((3 : Int32)).toNatClampNeg (some s3)))))) := by
      subst hG
      rw [vp_cell_q, vp_cell_q]
      refine arrV_congr (fun j hj => ?_)
      rcases (show j = 0 ∨ j = 1 ∨ j = 2 ∨ j = 3 by omega) with rfl | rfl | rfl | rfl <;> rfl
    show H[sh]? = some (vp_cell cR _)
    rw [e15]
    exact h15
  have hP2 : va_P (gD G) kcl (WW G x0 m0) H := by
    have h := va_P_upd (i := 15) hP hc15
    rw [hWW] at h
    have hgD : gD G = D := by rw [hG]
    rw [hgD]
    exact h
  have hD2 : ∀ x m : St, va_D (gA G) (WW G x m) := by
    intro x m
    rw [hGA]
    refine va_D_fst ?_ hD
    subst hG
    rfl
  have hK2 : va_K (gD G) kcl (kty G) s := by
    subst hG
    refine ⟨hKc, fun k q h => ?_⟩
    match k, h with
    | 0, h => cases h; exact ⟨hI1, hI2⟩
    | 1, h => exact hKR.2 1 q h
    | k + 2, h => simp at h
  have hEV : EV G s s.heap := by
    refine ⟨hK2, hN, ?_, ⟨?_, ?_, ?_, ?_, ?_⟩, hD2⟩
    · subst hG; exact hET
    · subst hG; exact hSS
    · subst hG; exact hRf
    · subst hG; exact hZc
    · subst hG; exact hZf
    · subst hG; exact hvF
  have hq0 : gq G 0 = a0 := by rw [hG]; rfl
  have hq25 : gq G 25 = c0 := by rw [hG]; rfl
  obtain ⟨nf, hf⟩ := pure_main L hL xs
  refine law_loop l G hGA ⟨hx, hb, hr, hml, hown, htg, hlocks, hEV⟩ hX hbl nf 0 x0 m0 H _ ls (by rw [hq0, hq25]; exact lv_sub hl [3, 2, 1, 0] rfl) ⟨hP2, by rw [hGA]; exact hS⟩ hf
