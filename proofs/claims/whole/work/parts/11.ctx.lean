def NWf : List (String × Nat × String × String × String × String) := [("DownhillWhispers", 262, "DownhillWhispers$Town", "whispers", "I", "DownhillWhispers"), ("DownhillWhispers$Tape", 62, "DownhillWhispers$Town", "aunts", "I", "DownhillWhispers"), ("DownhillWhispers", 110, "DownhillWhispers$Town", "aunts", "I", "DownhillWhispers"), ("DownhillWhispers$Tape", 70, "DownhillWhispers$Town", "frost", "I", "DownhillWhispers"), ("DownhillWhispers", 114, "DownhillWhispers$Town", "frost", "I", "DownhillWhispers"), ("DownhillWhispers", 117, "DownhillWhispers$Town", "minute", "I", "DownhillWhispers"), ("DownhillWhispers", 211, "DownhillWhispers$Town", "z", "I", "DownhillWhispers"), ("DownhillWhispers", 214, "DownhillWhispers$Tape", "length", "I", "DownhillWhispers"), ("DownhillWhispers", 249, "DownhillWhispers$Sheet", "numbers", "[I", "DownhillWhispers"), ("DownhillWhispers", 243, "DownhillWhispers$Sheet", "bits", "I", "DownhillWhispers"), ("DownhillWhispers", 199, "DownhillWhispers$Sheet", "length", "I", "DownhillWhispers")]
def NWm : List (String × Nat × MethodName × String) := [("DownhillWhispers$Town", 51, ⟨"DownhillWhispers", "put", "([III)V"⟩, "DownhillWhispers"), ("DownhillWhispers$Town", 85, ⟨"DownhillWhispers", "isIn", "(II)Z"⟩, "DownhillWhispers"), ("DownhillWhispers$Town", 35, ⟨"DownhillWhispers", "copyRow", "([I[I)V"⟩, "DownhillWhispers"), ("DownhillWhispers$Tape", 88, ⟨"DownhillWhispers", "isQuality", "(II)Z"⟩, "DownhillWhispers"), ("DownhillWhispers$Tape", 112, ⟨"DownhillWhispers", "isWithin", "(III)Z"⟩, "DownhillWhispers"), ("DownhillWhispers$Tape", 106, ⟨"DownhillWhispers", "isTrait", "(II)Z"⟩, "DownhillWhispers"), ("DownhillWhispers$Sheet", 22, ⟨"DownhillWhispers", "put", "([III)V"⟩, "DownhillWhispers")]
def NW (U : State) : Prop := (∀ q ∈ NWf, va_Nw (.fieldLinkNest q.1 q.2.1 q.2.2.1 q.2.2.2.1 q.2.2.2.2.1 q.2.2.2.2.2) U) ∧ ∀ q ∈ NWm, va_Nw (.methodLinkNest q.1 q.2.1 q.2.2.1 q.2.2.2) U
theorem NW.warm {s U : State} (hW : s.WarmedH U.vm) (h : NW s) : NW U := ⟨fun q hq => va_Nw.warmF hW (h.1 q hq), fun q hq => va_Nw.warmM hW (h.2 q hq)⟩
theorem NW.same {u U : State} (hv : u.vm = U.vm) (h : NW u) : NW U := ⟨fun q hq => va_Nw.same rfl hv (h.1 q hq), fun q hq => va_Nw.same rfl hv (h.2 q hq)⟩
-- the static arrays, the texts
def tName : List String := ["MOST_OF_TRAIT", "LEAST_OF_QUALITY", "MOST_OF_QUALITY", "KIND_ABOVE"]
def tLen : List Nat := [5, 3, 3, 7]
def tVal : List (List Int32) := [[99, 15, 9, 99, 99], [0, 0, 1], [6, 15, 999], [-1, 0, 0, 2, 3, 0, 1]]
def tv (i : Nat) (k : Int32) : Int32 := (tVal.getD i []).getD k.toNatClampNeg 0
def ET (G : GT) (U : State) (H : Heap) : Prop := ∀ i, i < 4 → va_Z "DownhillWhispers" (tName.getD i "") "[I" (.ref (gT G i)) (gA G) U H ∧ va_T .int (gT G i) (tLen.getD i 0) (fun j => .int ((tVal.getD i []).getD j 0)) (gA G) U H
def sTx : List String := ["whisper", "lie", "rumour", "slander", "scandal", "secret", "fib", "at", "weight", "corner", "height", "gutter", "sand", "ears", "aunts", "frost", "thaw", ";"]
def sLen : List Nat := [7, 3, 6, 7, 7, 6, 3, 2, 6, 6, 6, 6, 4, 4, 5, 5, 4, 1]
def sByt : List (List Int32) := [[119, 104, 105, 115, 112, 101, 114], [108, 105, 101], [114, 117, 109, 111, 117, 114], [115, 108, 97, 110, 100, 101, 114], [115, 99, 97, 110, 100, 97, 108], [115, 101, 99, 114, 101, 116], [102, 105, 98], [97, 116], [119, 101, 105, 103, 104, 116], [99, 111, 114, 110, 101, 114], [104, 101, 105, 103, 104, 116], [103, 117, 116, 116, 101, 114], [115, 97, 110, 100], [101, 97, 114, 115], [97, 117, 110, 116, 115], [102, 114, 111, 115, 116], [116, 104, 97, 119], [59]]
def sRefs : List (String × Nat × Nat) := [("DownhillWhispers$Tape", 129, 1), ("DownhillWhispers$Tape", 131, 2), ("DownhillWhispers$Tape", 133, 3), ("DownhillWhispers$Tape", 135, 4), ("DownhillWhispers$Tape", 137, 5), ("DownhillWhispers$Tape", 139, 6), ("DownhillWhispers$Tape", 141, 0), ("DownhillWhispers$Tape", 80, 7), ("DownhillWhispers$Tape", 86, 8), ("DownhillWhispers$Tape", 47, 9), ("DownhillWhispers$Tape", 95, 10), ("DownhillWhispers$Tape", 100, 11), ("DownhillWhispers$Tape", 102, 12), ("DownhillWhispers$Tape", 104, 13), ("DownhillWhispers$Tape", 52, 14), ("DownhillWhispers$Tape", 66, 15), ("DownhillWhispers$Tape", 68, 16), ("DownhillWhispersModel", 296, 0), ("DownhillWhispersModel", 298, 1), ("DownhillWhispersModel", 300, 2), ("DownhillWhispersModel", 302, 3), ("DownhillWhispersModel", 304, 4), ("DownhillWhispersModel", 306, 5), ("DownhillWhispersModel", 308, 6), ("DownhillWhispersModel", 310, 7), ("DownhillWhispersModel", 318, 8), ("DownhillWhispersModel", 326, 9), ("DownhillWhispersModel", 328, 10), ("DownhillWhispersModel", 334, 11), ("DownhillWhispersModel", 336, 12), ("DownhillWhispersModel", 338, 13), ("DownhillWhispersModel", 340, 14), ("DownhillWhispersModel", 343, 15), ("DownhillWhispersModel", 345, 16), ("DownhillWhispersModel", 350, 17)]
def ES (G : GT) (U : State) (H : Heap) : Prop := vk_S 18 sLen sByt (gK G) (gV G) (gA G) U H ∧ (∀ q ∈ sRefs, vk_R q.1 q.2.1 (sTx.getD q.2.2 "") (gK G q.2.2) U) ∧ va_Z "java/lang/String" "COMPACT_STRINGS" "Z" (.int 1) (gA G) U H ∧ va_Z "jdk/internal/util/Preconditions" "SIOOBE_FORMATTER" "Ljava/util/function/BiFunction;" (gF G) (gA G) U H ∧ (gF G = .null ∨ ∃ a, gF G = .ref a)
def EV (G : GT) (U : State) (H : Heap) : Prop := va_K (gD G) kcl (kty G) U ∧ NW U ∧ ET G U H ∧ ES G U H ∧ ∀ x m : St, va_D (gA G) (WW G x m)
theorem EV.to {G : GT} {u U : State} {H H1 : Heap} (hvm : u.vm.Alike U.vm) (hn : NW u → NW U) (hr : ∀ (own : String) (k : Nat) (tx : String) (a : Nat), vk_R own k tx a u → vk_R own k tx a U) (hq : ∀ a : Nat, a < H.size → ¬ gA G a → H1[a]? = H[a]?) (h : EV G u H) : EV G U H1 := by
  obtain ⟨h1, h2, h3, ⟨h4, h5, h6, h7, h8⟩, h9⟩ := h
  exact ⟨va_K.moved hvm h1, hn h2, fun i hi => ⟨((h3 i hi).1.moved hvm).kept hq, ((h3 i hi).2.moved hvm).kept hq⟩, ⟨(h4.moved hvm).kept hq, fun q hq2 => hr _ _ _ _ (h5 q hq2), (h6.moved hvm).kept hq, (h7.moved hvm).kept hq, h8⟩, h9⟩
theorem EV.call {G : GT} {s U : State} {H : Heap} {locs : List Loc} (h : EV G s s.heap) (hS : va_S (gA G) s.heap H locs) (hU : U.heap = H) (hW : s.WarmedH U.vm) : EV G U U.heap := by
  rw [hU]
  exact h.to hW.alike (NW.warm hW) (fun _ _ _ _ => vk_R.warm hW) hS.2.1
theorem EV.blind {G : GT} {U : State} (g : JFrame) (mk : MethodId) (a : Array Value) (h : EV G U U.heap) : EV G (U.calling g mk a) (U.calling g mk a).heap :=
  h.to (U := U.calling g mk a) (Vm.Alike.refl U.vm) (NW.same rfl) (fun _ _ _ _ => vk_R.same rfl) (fun _ _ _ => rfl)
-- contracts
def PC (G : GT) (x m : St) (av : List Value) : Array Value → State → Prop := va_Pc av (fun U => va_P (gD G) kcl (WW G x m) U.heap ∧ EV G U U.heap)
def QG (G : GT) (ov : Option Value) (x m : St) : Array Value → State → Outcome → State → Prop := fun _ st oc t => oc = .returned ov ∧ va_P (gD G) kcl (WW G x m) t.heap ∧ va_F (gA G) st t
def QE (below : List Frame) (G : GT) (ov : Option Value) (x m : St) (args : Array Value) (s : State) : State → Prop := MQ below (QG G ov x m) args s 0 0 (gA G)
abbrev rmF (f k : Nat) : Room := { frames := f, cells := 0, slots := 0, locals := k }
def Mt (l : Launch) (y : MethodName) (b : ByteArray) (n : Nat) (r : Option FieldType) (rm : Room) (G : GT) (x m : St) (av : List Value) (ov : Option Value) (x' m' : St) : Prop := Met l y (wm y b n r) rm (PC G x m av) (QG G ov x' m') 0 0 (gA G)
def Wd (G : GT) (s : State) (x m : St) (H : Heap) (locs : List Loc) : Prop := va_P (gD G) kcl (WW G x m) H ∧ va_S (gA G) s.heap H locs
abbrev Cx (G : GT) (p : Program) (s : State) (mm : MethodId) (meth : Method) (c : Code) (args : Array Value) (cc : ByteArray) (n : Nat) (y : MethodName) (r : Option FieldType) : Prop :=
  p.tables.exec = Jvm.exec ∧ c.code = cc ∧ meth.sig.returnType = r ∧ c.maxLocals = n ∧ s.vm.findClass y.cls = some mm.cls ∧ (∀ w ∈ TG, w.before args s = true) ∧ meth.locks = false ∧ EV G s s.heap
theorem PC.blind {G : GT} {x m : St} {av : List Value} : FrameBlind (PC G x m av) := fun a U g mk q => ⟨q.1, q.2.1, q.2.2.blind g mk a⟩
theorem Mt.of {l : Launch} {y : MethodName} {b : ByteArray} {n : Nat} {r : Option FieldType} {rm : Room} {G : GT} {x m : St} {av : List Value} {ov : Option Value} {x' m' : St} (hy : plainName y.cls = true) (hn : (lg_sl av).length ≤ n)
    (body : ∀ (p : Program) (e : Env) (s : State) (mm : MethodId) (args : Array Value) (below : List Frame) (meth : Method) (c : Code), Cx G p s mm meth c args b n y r → ∀ ls : Array Slot, lv_has ls n (lv_args 0 av) → Wd G s x m s.heap [] →
      W p l e rm s mm args below meth c s.heap [] 0 0 (QE below G ov x' m' args s) (F0 mm 0 ls [])) : Mt l y b n r rm G x m av ov x' m' := by
  refine Met.ofW (cc := b) (maxL := n) (ret := r) hy rfl ?_
  intro p e s mm args below meth c s₁ B hml hv
  obtain ⟨rfl, hP, hE⟩ := hv
  have hl := lv_entry av (n := n) hn
  rw [lg_entry_eq]
  exact body p e s mm _ below meth c ⟨B.exec, B.bytes, B.returns, hml, findClass_of_methodNamed B.named, fun w hw => atoms_spec (ws := wm y b n r) B.pre w (List.mem_cons_of_mem _ hw), B.notSynchronized, hE⟩ _ hl ⟨hP, va_S.rf⟩
section RW
variable {p : Program} {l : Launch} {e : Env} {R : Room} {s : State} {mm : MethodId} {args : Array Value} {below : List Frame} {meth : Method} {c : Code} {H : Heap} {locs : List Loc} {cells slots : Nat} {Q : State → Prop}
variable {cc : ByteArray} {pc n : Nat} {ls : Array Slot} {rest st0 : List Value} {G : GT} {x m x' m' : St} {y : MethodName} {r : Option FieldType}
theorem Cx.w (C : Cx G p s mm meth c args cc n y r) {q : Cond} (h : q ∈ TG) : q.before args s = true := C.2.2.2.2.2.1 q h
theorem w_end {a : Array Value} {ov : Option Value} (hr : va_Run p l e R s mm args below meth c H locs cells slots 0 0 (F0 mm pc ls st0) rest (QG G ov x' m' a) (gA G)) (hw : Wd G s x m H locs)
    (kk : ∀ (H1 : Heap) (locs1 : List Loc), Wd G s x' m' H1 locs1 → W p l e R s mm args below meth c H1 locs1 cells slots Q (F0 mm (pc + 3) ls (ov.toList ++ rest))) : W p l e R s mm args below meth c H locs cells slots Q (F0 mm pc ls st0) := by
  intro T hT X
  obtain ⟨v, st₀, t, T', L, h0, X', hL, e1, e2, ⟨hv, hp, hz, hk⟩, st⟩ := hr T hT X
  cases hv
  rw [h0] at hz hk
  obtain ⟨hP, hS⟩ := hw
  obtain ⟨t2, a1, b1⟩ := kk T'.heap (locs ++ L) ⟨by rw [e1]; exact hp, Nat.le_trans hS.1 (by rw [e1]; exact hz), fun q h1 h2 => by rw [e1, hk q (Nat.lt_of_lt_of_le h1 hS.1) h2]; exact hS.2.1 q h1 h2, fun q hq => by
    rcases List.mem_append.mp hq with h | h
    · exact hS.2.2 q h
    · exact hL q h⟩ T' rfl X'
  exact ⟨t2, st t2 a1, b1⟩
-- what a callee brings: of an instance's method, of a static one
abbrev hd0 (y : MethodName) (k : Nat) : Prop := y.cls ≠ "java/lang/invoke/MethodHandle" ∧ y.cls ≠ "java/lang/invoke/VarHandle" ∧ (parseMethodDescriptor y.desc).map (fun d => d.parameters.length) = some k
abbrev KV (C : String) (y : MethodName) (b : ByteArray) (n : Nat) (r : Option FieldType) (k : Nat) : Prop := (Cond.instanceMethod y ∈ TG ∧ Cond.selects C y y ∈ TG ∧ Cond.initialized C ∈ TG ∧ Cond.code y b n r ∈ TG) ∧ y.cls = C ∧ hd0 y k
abbrev KS (y : MethodName) (b : ByteArray) (n : Nat) (r : Option FieldType) (k : Nat) : Prop := (Cond.static y ∈ TG ∧ Cond.initialized y.cls ∈ TG ∧ Cond.code y b n r ∈ TG) ∧ hd0 y k
theorem tg_inT {L : List Cond} (hL : ∀ w ∈ L, w ∈ TG) : GoodIn TG L := fun w h => ⟨hL w h, good_of_word (tg_good w (hL w h))⟩
theorem gi_wm {y2 : MethodName} {b2 : ByteArray} {n2 : Nat} {r2 : Option FieldType} (h : Cond.code y2 b2 n2 r2 ∈ TG) : GoodIn TG (wm y2 b2 n2 r2) := tg_inT (fun w hw => (List.mem_cons.mp hw).elim (fun e => e ▸ h) id)
theorem w_V (C : Cx G p s mm meth c args cc n y r) (hw : Wd G s x m H locs) {CN : String} {y2 : MethodName} {b2 : ByteArray} {n2 k idx : Nat} {r2 : Option FieldType} {rm : Room} {a : Nat} {As : List Value} {ov : Option Value}
    (hM : Mt l y2 b2 n2 r2 rm G x m (.ref a :: As) ov x' m') (hk : KV CN y2 b2 n2 r2 k) (hl : Cond.methodLink y.cls idx y2 ∈ TG) (hrm : rm.cells = 0 ∧ rm.slots = 0) (hR : rm.frames + 1 ≤ R.frames ∧ 8 + (n2 + 11) + rm.locals ≤ R.locals) (hcs : cells ≤ R.cells ∧ slots ≤ R.slots)
    (hrecv : ∃ cellB : Cell, H[a]? = some cellB ∧ cellB.vm.isStatics = false ∧ s.vm.findClass CN = some cellB.cls) (hn : As.length = k) (hst : st0 = As.reverse ++ .ref a :: rest) (hcat : (rest.map fun v => v.category).sum ≤ 8) (hls : lv_has ls n []) (hdg : decode cc pc = .ok (.invokevirtual idx, 3))
    (kk : ∀ (H1 : Heap) (locs1 : List Loc), Wd G s x' m' H1 locs1 → W p l e R s mm args below meth c H1 locs1 cells slots Q (F0 mm (pc + 3) ls (ov.toList ++ rest))) : W p l e R s mm args below meth c H locs cells slots Q (F0 mm pc ls st0) := by
  obtain ⟨hx, hb, hr, hml, hown, hts, hlocks, hE⟩ := id C
  obtain ⟨⟨k1, k2, k3, k4⟩, k5, k6⟩ := hk
  have hT : GoodIn TG (wsV y.cls idx CN y2 (wm y2 b2 n2 r2)) := by
    refine tg_inT (fun w hw2 => ?_)
    rcases List.mem_append.mp hw2 with h | h
    · simp only [List.mem_cons, List.not_mem_nil, or_false] at h
      rcases h with rfl | rfl | rfl | rfl <;> assumption
    · exact (List.mem_cons.mp h).elim (fun e => e ▸ k4) id
  refine w_end (va_runV (As := As) (rest := rest) ⟨hx, hb, hml, hown, hts⟩ hM (cwV k hts hT rfl hrm.1 hrm.2 ⟨k5, k6⟩ hR) ⟨PC.blind, hrecv, fun U hU hW => ⟨rfl, by rw [hU]; exact hw.1, hE.call hw.2 hU hW⟩⟩ rfl hn hls.1 hst (lv_room hcat) hdg hcs) hw kk
theorem w_S (C : Cx G p s mm meth c args cc n y r) (hw : Wd G s x m H locs) {y2 : MethodName} {b2 : ByteArray} {n2 k idx : Nat} {r2 : Option FieldType} {rm : Room} {As : List Value} {ov : Option Value}
    (hM : Mt l y2 b2 n2 r2 rm G x m As ov x' m') (hk : KS y2 b2 n2 r2 k) (hl : Cond.methodLink y.cls idx y2 ∈ TG) (hrm : rm.cells = 0 ∧ rm.slots = 0) (hR : rm.frames + 1 ≤ R.frames ∧ 8 + (n2 + 11) + rm.locals ≤ R.locals) (hcs : cells ≤ R.cells ∧ slots ≤ R.slots)
    (hn : As.length = k) (hst : st0 = As.reverse ++ rest) (hcat : (rest.map fun v => v.category).sum ≤ 8) (hls : lv_has ls n []) (hdg : decode cc pc = .ok (.invokestatic idx, 3))
    (kk : ∀ (H1 : Heap) (locs1 : List Loc), Wd G s x' m' H1 locs1 → W p l e R s mm args below meth c H1 locs1 cells slots Q (F0 mm (pc + 3) ls (ov.toList ++ rest))) : W p l e R s mm args below meth c H locs cells slots Q (F0 mm pc ls st0) := by
  obtain ⟨hx, hb, hr, hml, hown, hts, hlocks, hE⟩ := id C
  obtain ⟨⟨k1, k2, k3⟩, k6⟩ := hk
  have hT : GoodIn TG (va_wsS y.cls idx y2 (wm y2 b2 n2 r2)) := by
    refine tg_inT (fun w hw2 => ?_)
    rcases List.mem_append.mp hw2 with h | h
    · simp only [List.mem_cons, List.not_mem_nil, or_false] at h
      rcases h with rfl | rfl | rfl <;> assumption
    · exact (List.mem_cons.mp h).elim (fun e => e ▸ k3) id
  refine w_end (va_runS (As := As) (rest := rest) ⟨hx, hb, hml, hown, hts⟩ hM (va_cwS k hts hT rfl hrm.1 hrm.2 k6 hR) ⟨PC.blind, fun U hU hW => ⟨rfl, by rw [hU]; exact hw.1, hE.call hw.2 hU hW⟩⟩ rfl hn hls.1 hst (lv_room hcat) hdg hcs) hw kk
theorem w_SN (C : Cx G p s mm meth c args cc n y r) (hw : Wd G s x m H locs) {host : String} {y2 : MethodName} {b2 : ByteArray} {n2 k idx : Nat} {r2 : Option FieldType} {rm : Room} {As : List Value} {ov : Option Value}
    (hM : Mt l y2 b2 n2 r2 rm G x m As ov x' m') (hk : KS y2 b2 n2 r2 k) (hl : (y.cls, idx, y2, host) ∈ NWm) (hrm : rm.cells = 0 ∧ rm.slots = 0) (hR : rm.frames + 1 ≤ R.frames ∧ 8 + (n2 + 11) + rm.locals ≤ R.locals) (hcs : cells ≤ R.cells ∧ slots ≤ R.slots)
    (hn : As.length = k) (hst : st0 = As.reverse ++ rest) (hcat : (rest.map fun v => v.category).sum ≤ 8) (hls : lv_has ls n []) (hdg : decode cc pc = .ok (.invokestatic idx, 3))
    (kk : ∀ (H1 : Heap) (locs1 : List Loc), Wd G s x' m' H1 locs1 → W p l e R s mm args below meth c H1 locs1 cells slots Q (F0 mm (pc + 3) ls (ov.toList ++ rest))) : W p l e R s mm args below meth c H locs cells slots Q (F0 mm pc ls st0) := by
  have hCw : ∀ {q : Cond}, q ∈ TG → q.before args s = true := fun h => C.w h
  obtain ⟨hx, hb, hr, hml, hown, hts, hlocks, hE⟩ := id C
  obtain ⟨⟨k1, k2, k3⟩, k6⟩ := hk
  refine w_end (va_runSN (host := host) (As := As) (rest := rest) ⟨hx, hb, hml, hown, hts⟩ hM ⟨va_cnB k hts (gi_wm k3) rfl hrm.1 hrm.2 (hE.2.1.2 _ hl) (hCw k2) k6 hR, hCw k1, trivial⟩ ⟨PC.blind, fun U hU hW => ⟨rfl, by rw [hU]; exact hw.1, hE.call hw.2 hU hW⟩⟩ rfl hn hls.1 hst (lv_room hcat) hdg hcs) hw kk
-- fields
theorem w_get (C : Cx G p s mm meth c args cc n y r) (hw : Wd G s x m H locs) {CN : String} {T : u_T} {N ci idx a k0 k : Nat} {fs : List Value} {v : Value} (he : (WW G x m)[k0]? = some (a, .inr (ci, fs))) (hc : kcl[ci]? = some (CN, T, N)) (hin : ∀ w ∈ u_ws CN T N, w ∈ TG) (hk : k < N)
    (hl : Cond.fieldLink y.cls idx (T k).1 (T k).2.1 (T k).2.2.1 ∈ TG) (hv : fs[k]? = some v) (hdg : decode cc pc = .ok (.getfield idx, 3))
    (kk : W p l e R s mm args below meth c H locs cells slots Q (F0 mm (pc + 3) ls (v :: rest))) : W p l e R s mm args below meth c H locs cells slots Q (F0 mm pc ls (.ref a :: rest)) :=
  va_get C.1 C.2.1 C.2.2.2.2.2.1 hin C.2.2.2.2.1 C.2.2.2.2.2.2.2.1 hw.1 k0 he hc k hk (C.w hl) (fun _ h => h) hv hdg kk
theorem w_getN (C : Cx G p s mm meth c args cc n y r) (hw : Wd G s x m H locs) {CN host : String} {T : u_T} {N ci idx a k0 k : Nat} {fs : List Value} {v : Value} (he : (WW G x m)[k0]? = some (a, .inr (ci, fs))) (hc : kcl[ci]? = some (CN, T, N)) (hin : ∀ w ∈ u_ws CN T N, w ∈ TG) (hk : k < N)
    (hl : (y.cls, idx, (T k).1, (T k).2.1, (T k).2.2.1, host) ∈ NWf) (hv : fs[k]? = some v) (hdg : decode cc pc = .ok (.getfield idx, 3))
    (kk : W p l e R s mm args below meth c H locs cells slots Q (F0 mm (pc + 3) ls (v :: rest))) : W p l e R s mm args below meth c H locs cells slots Q (F0 mm pc ls (.ref a :: rest)) :=
  va_getN (host := host) C.1 C.2.1 C.2.2.2.2.2.1 hin C.2.2.2.2.1 C.2.2.2.2.2.2.2.1 hw.1 k0 he hc k hk (va_Nw.use rfl (C.2.2.2.2.2.2.2.2.1.1 _ hl)) (fun _ h => h) hv hdg kk
theorem w_put (C : Cx G p s mm meth c args cc n y r) (hw : Wd G s x m H locs) {CN : String} {T : u_T} {N ci idx a k0 k : Nat} {fs : List Value} {v : Int32} (ty0 : Nat → FieldType) (hty : ∀ k, k < N → parseFieldDescriptor (T k).2.2.1 = some (ty0 k)) (hnm : ∀ a, a < N → ∀ b, b < N → a ≠ b → (T a).2.1 ≠ (T b).2.1) (he : (WW G x m)[k0]? = some (a, .inr (ci, fs))) (hc : kcl[ci]? = some (CN, T, N)) (hin : ∀ w ∈ u_ws CN T N, w ∈ TG) (hk : k < N)
    (hl : Cond.fieldLink y.cls idx (T k).1 (T k).2.1 (T k).2.2.1 ∈ TG) (hfin : (T k).2.2.2 = false) {ty : FieldType} (hd : parseFieldDescriptor (T k).2.2.1 = some ty) (hn : narrow ty (.int v) = .int v) (hfit : fits ty (.int v) = true) (hlen : k < fs.length) (hset : (WW G x m).set k0 (a, .inr (ci, fs.set k (.int v))) = WW G x' m') (hdg : decode cc pc = .ok (.putfield idx, 3))
    (kk : ∀ (H1 : Heap) (locs1 : List Loc), Wd G s x' m' H1 locs1 → W p l e R s mm args below meth c H1 locs1 cells slots Q (F0 mm (pc + 3) ls rest)) : W p l e R s mm args below meth c H locs cells slots Q (F0 mm pc ls (.int v :: .ref a :: rest)) :=
  va_put C.1 C.2.1 C.2.2.2.2.2.1 hin ty0 hty hnm C.2.2.2.2.1 C.2.2.2.2.2.2.2.1 hw.1 (C.2.2.2.2.2.2.2.2.2.2.2 x m) hw.2 k0 he hc k hk (C.w hl) (fun _ h => h) hfin hd hn hfit hlen hdg (fun H1 locs1 hP _ hS => kk H1 locs1 ⟨by rw [← hset]; exact hP, hS⟩)
theorem w_putN (C : Cx G p s mm meth c args cc n y r) (hw : Wd G s x m H locs) {CN host : String} {T : u_T} {N ci idx a k0 k : Nat} {fs : List Value} {v : Int32} (ty0 : Nat → FieldType) (hty : ∀ k, k < N → parseFieldDescriptor (T k).2.2.1 = some (ty0 k)) (hnm : ∀ a, a < N → ∀ b, b < N → a ≠ b → (T a).2.1 ≠ (T b).2.1) (he : (WW G x m)[k0]? = some (a, .inr (ci, fs))) (hc : kcl[ci]? = some (CN, T, N)) (hin : ∀ w ∈ u_ws CN T N, w ∈ TG) (hk : k < N)
    (hl : (y.cls, idx, (T k).1, (T k).2.1, (T k).2.2.1, host) ∈ NWf) (hfin : (T k).2.2.2 = false) {ty : FieldType} (hd : parseFieldDescriptor (T k).2.2.1 = some ty) (hn : narrow ty (.int v) = .int v) (hfit : fits ty (.int v) = true) (hlen : k < fs.length) (hset : (WW G x m).set k0 (a, .inr (ci, fs.set k (.int v))) = WW G x' m') (hdg : decode cc pc = .ok (.putfield idx, 3))
    (kk : ∀ (H1 : Heap) (locs1 : List Loc), Wd G s x' m' H1 locs1 → W p l e R s mm args below meth c H1 locs1 cells slots Q (F0 mm (pc + 3) ls rest)) : W p l e R s mm args below meth c H locs cells slots Q (F0 mm pc ls (.int v :: .ref a :: rest)) :=
  va_putN (host := host) C.1 C.2.1 C.2.2.2.2.2.1 hin ty0 hty hnm C.2.2.2.2.1 C.2.2.2.2.2.2.2.1 hw.1 (C.2.2.2.2.2.2.2.2.2.2.2 x m) hw.2 k0 he hc k hk (va_Nw.use rfl (C.2.2.2.2.2.2.2.2.1.1 _ hl)) (fun _ h => h) hfin hd hn hfit hlen hdg (fun H1 locs1 hP _ hS => kk H1 locs1 ⟨by rw [← hset]; exact hP, hS⟩)
theorem w_recv (C : Cx G p s mm meth c args cc n y r) (hw : Wd G s x m H locs) {CN : String} {T : u_T} {N ci a k0 : Nat} {fs : List Value} (he : (WW G x m)[k0]? = some (a, .inr (ci, fs))) (hc : kcl[ci]? = some (CN, T, N)) : ∃ cellB : Cell, H[a]? = some cellB ∧ cellB.vm.isStatics = false ∧ s.vm.findClass CN = some cellB.cls := va_recv C.2.2.2.2.2.2.2.1 hw.1 hc he
-- rows of numbers
theorem w_ald (C : Cx G p s mm meth c args cc n y r) (hw : Wd G s x m H locs) {a k0 k : Nat} {f : Nat → Int32} (ha : (WW G x m)[k0]? = some (a, .inl (gI G, k, .inl f))) {i : Int32} (hi : ¬ (i < 0 ∨ k ≤ i.toNatClampNeg)) (hdg : decode cc pc = .ok (.iaload, 1))
    (kk : W p l e R s mm args below meth c H locs cells slots Q (F0 mm (pc + 1) ls (.int (f i.toNatClampNeg) :: rest))) : W p l e R s mm args below meth c H locs cells slots Q (F0 mm pc ls (.int i :: .ref a :: rest)) :=
  va_iald C.1 C.2.1 C.2.2.2.2.2.2.2.1 hw.1 k0 0 ha rfl hi hdg kk
theorem w_alen (C : Cx G p s mm meth c args cc n y r) (hw : Wd G s x m H locs) {a k0 k : Nat} {f : Nat → Int32} (ha : (WW G x m)[k0]? = some (a, .inl (gI G, k, .inl f))) {v : Int32} (hv : Int32.ofNat k = v) (hdg : decode cc pc = .ok (.arraylength, 1))
    (kk : W p l e R s mm args below meth c H locs cells slots Q (F0 mm (pc + 1) ls (.int v :: rest))) : W p l e R s mm args below meth c H locs cells slots Q (F0 mm pc ls (.ref a :: rest)) :=
  va_alen C.1 C.2.1 C.2.2.2.2.2.2.2.1 hw.1 k0 0 ha (x := (k, .inl f)) rfl hv hdg kk
theorem w_astX (C : Cx G p s mm meth c args cc n y r) (hw : Wd G s x m H locs) {k0 k : Nat} (hA : AX k0 k) {i v : Int32} (hi : ¬ (i < 0 ∨ k ≤ i.toNatClampNeg)) (hdg : decode cc pc = .ok (.iastore, 1))
    (kk : ∀ (H1 : Heap) (locs1 : List Loc), Wd G s (up x k0 i.toNatClampNeg v) m H1 locs1 → W p l e R s mm args below meth c H1 locs1 cells slots Q (F0 mm (pc + 1) ls rest)) : W p l e R s mm args below meth c H locs cells slots Q (F0 mm pc ls (.int v :: .int i :: .ref (gq G k0) :: rest)) :=
  va_iast C.1 C.2.1 C.2.2.2.2.2.2.2.1 hw.1 (C.2.2.2.2.2.2.2.2.2.2.2 x m) hw.2 k0 0 (hA G x m).1 rfl hi hdg (fun H1 locs1 hP _ hS => kk H1 locs1 ⟨by unfold up; rw [← (hA G x m).2]; exact hP, hS⟩)
theorem w_astM (C : Cx G p s mm meth c args cc n y r) (hw : Wd G s x m H locs) {k0 k : Nat} (hA : AM k0 k) {i v : Int32} (hi : ¬ (i < 0 ∨ k ≤ i.toNatClampNeg)) (hdg : decode cc pc = .ok (.iastore, 1))
    (kk : ∀ (H1 : Heap) (locs1 : List Loc), Wd G s x (up m k0 i.toNatClampNeg v) H1 locs1 → W p l e R s mm args below meth c H1 locs1 cells slots Q (F0 mm (pc + 1) ls rest)) : W p l e R s mm args below meth c H locs cells slots Q (F0 mm pc ls (.int v :: .int i :: .ref (gq G k0) :: rest)) :=
  va_iast C.1 C.2.1 C.2.2.2.2.2.2.2.1 hw.1 (C.2.2.2.2.2.2.2.2.2.2.2 x m) hw.2 k0 0 (hA G x m).1 rfl hi hdg (fun H1 locs1 hP _ hS => kk H1 locs1 ⟨by unfold up; rw [← (hA G x m).2]; exact hP, hS⟩)
-- a row of references: the sheets
theorem w_aldS (C : Cx G p s mm meth c args cc n y r) (hw : Wd G s x m H locs) {i : Int32} (hi : ¬ (i < 0 ∨ 4 ≤ i.toNatClampNeg)) (hdg : decode cc pc = .ok (.aaload, 1))
    (kk : W p l e R s mm args below meth c H locs cells slots Q (F0 mm (pc + 1) ls (.ref (gq G (16 + 2 * i.toNatClampNeg)) :: rest))) : W p l e R s mm args below meth c H locs cells slots Q (F0 mm pc ls (.int i :: .ref (gq G 15) :: rest)) :=
  va_aldq C.1 C.2.1 C.2.2.2.2.2.2.2.1 hw.1 15 1 (wk_shs G x m) rfl hi hdg kk
theorem w_alenS (C : Cx G p s mm meth c args cc n y r) (hw : Wd G s x m H locs) (hdg : decode cc pc = .ok (.arraylength, 1))
    (kk : W p l e R s mm args below meth c H locs cells slots Q (F0 mm (pc + 1) ls (.int 4 :: rest))) : W p l e R s mm args below meth c H locs cells slots Q (F0 mm pc ls (.ref (gq G 15) :: rest)) :=
  va_alen C.1 C.2.1 C.2.2.2.2.2.2.2.1 hw.1 15 1 (wk_shs G x m) rfl rfl hdg kk
-- the static arrays
theorem w_gets (C : Cx G p s mm meth c args cc n y r) (hw : Wd G s x m H locs) {idx i : Nat} (hi : i < 4) (hl : Cond.fieldLink y.cls idx "DownhillWhispers" (tName.getD i "") "[I" ∈ TG) (hdg : decode cc pc = .ok (.getstatic idx, 3))
    (kk : W p l e R s mm args below meth c H locs cells slots Q (F0 mm (pc + 3) ls (.ref (gT G i) :: rest))) : W p l e R s mm args below meth c H locs cells slots Q (F0 mm pc ls rest) :=
  va_gets C.1 C.2.1 (C.2.2.2.2.2.2.2.2.2.1 i hi).1 hw.2 C.2.2.2.2.1 (C.w hl) (fun _ h => h) hdg kk
theorem w_tald (C : Cx G p s mm meth c args cc n y r) (hw : Wd G s x m H locs) {i : Nat} (hi : i < 4) {k : Int32} (hk : ¬ (k < 0 ∨ tLen.getD i 0 ≤ k.toNatClampNeg)) (hdg : decode cc pc = .ok (.iaload, 1))
    (kk : W p l e R s mm args below meth c H locs cells slots Q (F0 mm (pc + 1) ls (.int (tv i k) :: rest))) : W p l e R s mm args below meth c H locs cells slots Q (F0 mm pc ls (.int k :: .ref (gT G i) :: rest)) :=
  va_ti C.1 C.2.1 (C.2.2.2.2.2.2.2.2.2.1 i hi).2 hw.2 hk rfl hdg kk
theorem w_tlen (C : Cx G p s mm meth c args cc n y r) (hw : Wd G s x m H locs) {i : Nat} (hi : i < 4) {v : Int32} (hv : Int32.ofNat (tLen.getD i 0) = v) (hdg : decode cc pc = .ok (.arraylength, 1))
    (kk : W p l e R s mm args below meth c H locs cells slots Q (F0 mm (pc + 1) ls (.int v :: rest))) : W p l e R s mm args below meth c H locs cells slots Q (F0 mm pc ls (.ref (gT G i) :: rest)) :=
  va_tlen C.1 C.2.1 (C.2.2.2.2.2.2.2.2.2.1 i hi).2 hw.2 hv hdg kk
-- texts, numbers of the pool, Math
theorem w_ldcS (C : Cx G p s mm meth c args cc n y r) {idx i : Nat} (hi : (y.cls, idx, i) ∈ sRefs) (hdg : decode cc pc = .ok (.ldc idx, 2))
    (kk : W p l e R s mm args below meth c H locs cells slots Q (F0 mm (pc + 2) ls (.ref (gK G i) :: rest))) : W p l e R s mm args below meth c H locs cells slots Q (F0 mm pc ls rest) :=
  va_ldcS C.1 C.2.1 C.2.2.2.2.1 (C.2.2.2.2.2.2.2.2.2.2.1.2.1 _ hi) hdg kk
theorem w_max (C : Cx G p s mm meth c args cc n y r) {idx : Nat} (hls : lv_has ls n []) (hl : Cond.methodLink y.cls idx Lib.Math.max.name ∈ TG) (hk : Cond.static Lib.Math.max.name ∈ TG ∧ Cond.initialized "java/lang/Math" ∈ TG ∧ Cond.code Lib.Math.max.name Lib.Math.max.code 2 (some .int) ∈ TG) (hR : 1 ≤ R.frames ∧ 21 ≤ R.locals) (hcs : cells ≤ R.cells ∧ slots ≤ R.slots) (hcat : (rest.map fun v => v.category).sum ≤ 8) {a b : Int32} (hdg : decode cc pc = .ok (.invokestatic idx, 3))
    (kk : W p l e R s mm args below meth c H locs cells slots Q (F0 mm (pc + 3) ls (.int (if a < b then b else a) :: rest))) : W p l e R s mm args below meth c H locs cells slots Q (F0 mm pc ls (.int b :: .int a :: rest)) :=
  va_mmax C.1 C.2.1 (C.2.2.2.1.trans hls.1.symm) C.2.2.2.2.1 (C.w hl) (C.w hk.1) (C.w hk.2.1) (C.w hk.2.2) hR.1 (by omega) hcs.1 hcs.2 hdg kk
theorem w_min (C : Cx G p s mm meth c args cc n y r) {idx : Nat} (hls : lv_has ls n []) (hl : Cond.methodLink y.cls idx Lib.Math.min.name ∈ TG) (hk : Cond.static Lib.Math.min.name ∈ TG ∧ Cond.initialized "java/lang/Math" ∈ TG ∧ Cond.code Lib.Math.min.name Lib.Math.min.code 2 (some .int) ∈ TG) (hR : 1 ≤ R.frames ∧ 21 ≤ R.locals) (hcs : cells ≤ R.cells ∧ slots ≤ R.slots) (hcat : (rest.map fun v => v.category).sum ≤ 8) {a b : Int32} (hdg : decode cc pc = .ok (.invokestatic idx, 3))
    (kk : W p l e R s mm args below meth c H locs cells slots Q (F0 mm (pc + 3) ls (.int (if b < a then b else a) :: rest))) : W p l e R s mm args below meth c H locs cells slots Q (F0 mm pc ls (.int b :: .int a :: rest)) :=
  va_mmin C.1 C.2.1 (C.2.2.2.1.trans hls.1.symm) C.2.2.2.2.1 (C.w hl) (C.w hk.1) (C.w hk.2.1) (C.w hk.2.2) hR.1 (by omega) hcs.1 hcs.2 hdg kk
-- ends
theorem w_iret (C : Cx G p s mm meth c args cc n y r) (hw : Wd G s x m H locs) {v : Int32} {ty : FieldType} (hr : r = some ty) (hn : narrow ty (.int v) = .int v) (hdg : decode cc pc = .ok (.ireturn, 1)) : W p l e R s mm args below meth c H locs 0 0 (QE below G (some (.int v)) x m args s) (F0 mm pc ls [.int v]) :=
  W.zret (ty := ty) C.1 C.2.1 (C.2.2.1.trans hr) hn (fun t ht _ => ⟨rfl, by rw [ht]; exact hw.1, hw.2.F ht⟩) hw.2.2.2 hdg C.2.2.2.2.2.2.1
theorem w_vret (C : Cx G p s mm meth c args cc n y r) (hw : Wd G s x m H locs) (hr : r = none) (hdg : decode cc pc = .ok (.return_, 1)) : W p l e R s mm args below meth c H locs 0 0 (QE below G none x m args s) (F0 mm pc ls []) :=
  W.vret C.1 C.2.1 (C.2.2.1.trans hr) (fun t ht _ => ⟨rfl, by rw [ht]; exact hw.1, hw.2.F ht⟩) hw.2.2.2 hdg C.2.2.2.2.2.2.1
theorem w_lret (C : Cx G p s mm meth c args cc n y r) (hw : Wd G s x m H locs) {v : Int64} (hr : r = some .long) (hdg : decode cc pc = .ok (.lreturn, 1)) : W p l e R s mm args below meth c H locs 0 0 (QE below G (some (.long v)) x m args s) (F0 mm pc ls [.long v]) :=
  W.lret C.1 C.2.1 (C.2.2.1.trans hr) (fun t ht _ => ⟨rfl, by rw [ht]; exact hw.1, hw.2.F ht⟩) hw.2.2.2 hdg C.2.2.2.2.2.2.1
theorem w_aret (C : Cx G p s mm meth c args cc n y r) (hw : Wd G s x m H locs) {v : Value} {ty : FieldType} (hr : r = some ty) (hty : (∃ n, ty = .object n) ∨ ∃ t, ty = .array t) (hv : v = .null ∨ ∃ a, v = .ref a) (hdg : decode cc pc = .ok (.areturn, 1)) : W p l e R s mm args below meth c H locs 0 0 (QE below G (some v) x m args s) (F0 mm pc ls [v]) :=
  W.aret (rt := ty) C.1 C.2.1 (C.2.2.1.trans hr) hty hv (fun t ht _ => ⟨rfl, by rw [ht]; exact hw.1, hw.2.F ht⟩) hw.2.2.2 hdg C.2.2.2.2.2.2.1
end RW
-- the pure side
theorem p_if {α : Type} {c : Prop} [Decidable c] {a : Option α} {r : α} (h : (if c then none else a) = some r) : ¬ c ∧ a = some r := by
  by_cases hc : c
  · rw [if_pos hc] at h; cases h
  · rw [if_neg hc] at h; exact ⟨hc, h⟩
theorem p_ck {α : Type} {c : Prop} [Decidable c] {a : Option α} {r : α} (h : (if c then a else none) = some r) : c ∧ a = some r := by
  by_cases hc : c
  · rw [if_pos hc] at h; exact ⟨hc, h⟩
  · rw [if_neg hc] at h; cases h
theorem p_bd {α β : Type} {a : Option α} {f : α → Option β} {r : β} (h : a.bind f = some r) : ∃ v, a = some v ∧ f v = some r := by
  cases a with
  | none => cases h
  | some v => exact ⟨v, rfl, h⟩
theorem nz_b {v : Int32} (h : v = 0 ∨ v = 1) : narrow .boolean (.int v) = .int v := by rcases h with rfl | rfl <;> rfl
theorem ft_b {v : Int32} (h : v = 0 ∨ v = 1) : fits .boolean (.int v) = true := by rcases h with rfl | rfl <;> rfl
