def fu : Nat := 1100
theorem p_t {α : Type} {c : Prop} [Decidable c] {a b r : α} (hc : c) (h : (if c then a else b) = r) : a = r := by rw [if_pos hc] at h; exact h
theorem p_f {α : Type} {c : Prop} [Decidable c] {a b r : α} (hc : ¬ c) (h : (if c then a else b) = r) : b = r := by rw [if_neg hc] at h; exact h
theorem k_max : Cond.static Lib.Math.max.name ∈ TG ∧ Cond.initialized "java/lang/Math" ∈ TG ∧ Cond.code Lib.Math.max.name Lib.Math.max.code 2 (some .int) ∈ TG := ⟨tg_mem (i := 227) (by decide +kernel) rfl, tg_mem (i := 68) (by decide +kernel) rfl, tg_mem (i := 228) (by decide +kernel) rfl⟩
theorem k_min : Cond.static Lib.Math.min.name ∈ TG ∧ Cond.initialized "java/lang/Math" ∈ TG ∧ Cond.code Lib.Math.min.name Lib.Math.min.code 2 (some .int) ∈ TG := ⟨tg_mem (i := 100) (by decide +kernel) rfl, tg_mem (i := 68) (by decide +kernel) rfl, tg_mem (i := 101) (by decide +kernel) rfl⟩
theorem k_copy : Cond.native arraycopyName ∈ TG ∧ Cond.static arraycopyName ∈ TG ∧ Cond.initialized "java/lang/System" ∈ TG := ⟨tg_mem (i := 388) (by decide +kernel) rfl, tg_mem (i := 387) (by decide +kernel) rfl, tg_mem (i := 72) (by decide +kernel) rfl⟩
def sch (i : Nat) (k : Int32) : Int32 := (sByt.getD i []).getD k.toNatClampNeg 0
section RO
variable {p : Program} {l : Launch} {e : Env} {R : Room} {s : State} {mm : MethodId} {args : Array Value} {below : List Frame} {meth : Method} {c : Code} {H : Heap} {locs : List Loc} {Q : State → Prop}
variable {cc : ByteArray} {pc n : Nat} {ls : Array Slot} {rest st0 : List Value} {G : GT} {x m x' m' : St} {y : MethodName} {r : Option FieldType}
theorem w_Vi (C : Cx G p s mm meth c args cc n y r) (hw : Wd G s x m H locs) {CN : String} {y2 : MethodName} {b2 : ByteArray} {n2 k idx : Nat} {r2 : Option FieldType} {rm : Room} {a : Nat} {As : List Value} {v : Int32}
    (hM : Mt l y2 b2 n2 r2 rm G x m (.ref a :: As) (some (.int v)) x' m') (hk : KV CN y2 b2 n2 r2 k) (hl : Cond.methodLink y.cls idx y2 ∈ TG) (hrm : rm.cells = 0 ∧ rm.slots = 0) (hR : rm.frames + 1 ≤ R.frames ∧ 8 + (n2 + 11) + rm.locals ≤ R.locals)
    (hrecv : ∃ cellB : Cell, H[a]? = some cellB ∧ cellB.vm.isStatics = false ∧ s.vm.findClass CN = some cellB.cls) (hn : As.length = k) (hst : st0 = As.reverse ++ .ref a :: rest) (hcat : (rest.map fun v => v.category).sum ≤ 8) (hls : lv_has ls n []) (hdg : decode cc pc = .ok (.invokevirtual idx, 3))
    (kk : ∀ (H1 : Heap) (locs1 : List Loc), Wd G s x' m' H1 locs1 → W p l e R s mm args below meth c H1 locs1 0 0 Q (F0 mm (pc + 3) ls (.int v :: rest))) : W p l e R s mm args below meth c H locs 0 0 Q (F0 mm pc ls st0) := w_V C hw hM hk hl hrm hR hrecv hn hst hcat hls hdg kk
theorem w_Si (C : Cx G p s mm meth c args cc n y r) (hw : Wd G s x m H locs) {y2 : MethodName} {b2 : ByteArray} {n2 k idx : Nat} {r2 : Option FieldType} {rm : Room} {As : List Value} {v : Int32}
    (hM : Mt l y2 b2 n2 r2 rm G x m As (some (.int v)) x' m') (hk : KS y2 b2 n2 r2 k) (hl : Cond.methodLink y.cls idx y2 ∈ TG) (hrm : rm.cells = 0 ∧ rm.slots = 0) (hR : rm.frames + 1 ≤ R.frames ∧ 8 + (n2 + 11) + rm.locals ≤ R.locals)
    (hn : As.length = k) (hst : st0 = As.reverse ++ rest) (hcat : (rest.map fun v => v.category).sum ≤ 8) (hls : lv_has ls n []) (hdg : decode cc pc = .ok (.invokestatic idx, 3))
    (kk : ∀ (H1 : Heap) (locs1 : List Loc), Wd G s x' m' H1 locs1 → W p l e R s mm args below meth c H1 locs1 0 0 Q (F0 mm (pc + 3) ls (.int v :: rest))) : W p l e R s mm args below meth c H locs 0 0 Q (F0 mm pc ls st0) := w_S C hw hM hk hl hrm hR hn hst hcat hls hdg kk
theorem w_SNi (C : Cx G p s mm meth c args cc n y r) (hw : Wd G s x m H locs) {host : String} {y2 : MethodName} {b2 : ByteArray} {n2 k idx : Nat} {r2 : Option FieldType} {rm : Room} {As : List Value} {v : Int32}
    (hM : Mt l y2 b2 n2 r2 rm G x m As (some (.int v)) x' m') (hk : KS y2 b2 n2 r2 k) (hl : (y.cls, idx, y2, host) ∈ NWm) (hrm : rm.cells = 0 ∧ rm.slots = 0) (hR : rm.frames + 1 ≤ R.frames ∧ 8 + (n2 + 11) + rm.locals ≤ R.locals)
    (hn : As.length = k) (hst : st0 = As.reverse ++ rest) (hcat : (rest.map fun v => v.category).sum ≤ 8) (hls : lv_has ls n []) (hdg : decode cc pc = .ok (.invokestatic idx, 3))
    (kk : ∀ (H1 : Heap) (locs1 : List Loc), Wd G s x' m' H1 locs1 → W p l e R s mm args below meth c H1 locs1 0 0 Q (F0 mm (pc + 3) ls (.int v :: rest))) : W p l e R s mm args below meth c H locs 0 0 Q (F0 mm pc ls st0) := w_SN C hw hM hk hl hrm hR hn hst hcat hls hdg kk
theorem w_Vl (C : Cx G p s mm meth c args cc n y r) (hw : Wd G s x m H locs) {CN : String} {y2 : MethodName} {b2 : ByteArray} {n2 k idx : Nat} {r2 : Option FieldType} {rm : Room} {a : Nat} {As : List Value} {v : Int64}
    (hM : Mt l y2 b2 n2 r2 rm G x m (.ref a :: As) (some (.long v)) x' m') (hk : KV CN y2 b2 n2 r2 k) (hl : Cond.methodLink y.cls idx y2 ∈ TG) (hrm : rm.cells = 0 ∧ rm.slots = 0) (hR : rm.frames + 1 ≤ R.frames ∧ 8 + (n2 + 11) + rm.locals ≤ R.locals)
    (hrecv : ∃ cellB : Cell, H[a]? = some cellB ∧ cellB.vm.isStatics = false ∧ s.vm.findClass CN = some cellB.cls) (hn : As.length = k) (hst : st0 = As.reverse ++ .ref a :: rest) (hcat : (rest.map fun v => v.category).sum ≤ 8) (hls : lv_has ls n []) (hdg : decode cc pc = .ok (.invokevirtual idx, 3))
    (kk : ∀ (H1 : Heap) (locs1 : List Loc), Wd G s x' m' H1 locs1 → W p l e R s mm args below meth c H1 locs1 0 0 Q (F0 mm (pc + 3) ls (.long v :: rest))) : W p l e R s mm args below meth c H locs 0 0 Q (F0 mm pc ls st0) := w_V C hw hM hk hl hrm hR hrecv hn hst hcat hls hdg kk
theorem w_Sl (C : Cx G p s mm meth c args cc n y r) (hw : Wd G s x m H locs) {y2 : MethodName} {b2 : ByteArray} {n2 k idx : Nat} {r2 : Option FieldType} {rm : Room} {As : List Value} {v : Int64}
    (hM : Mt l y2 b2 n2 r2 rm G x m As (some (.long v)) x' m') (hk : KS y2 b2 n2 r2 k) (hl : Cond.methodLink y.cls idx y2 ∈ TG) (hrm : rm.cells = 0 ∧ rm.slots = 0) (hR : rm.frames + 1 ≤ R.frames ∧ 8 + (n2 + 11) + rm.locals ≤ R.locals)
    (hn : As.length = k) (hst : st0 = As.reverse ++ rest) (hcat : (rest.map fun v => v.category).sum ≤ 8) (hls : lv_has ls n []) (hdg : decode cc pc = .ok (.invokestatic idx, 3))
    (kk : ∀ (H1 : Heap) (locs1 : List Loc), Wd G s x' m' H1 locs1 → W p l e R s mm args below meth c H1 locs1 0 0 Q (F0 mm (pc + 3) ls (.long v :: rest))) : W p l e R s mm args below meth c H locs 0 0 Q (F0 mm pc ls st0) := w_S C hw hM hk hl hrm hR hn hst hcat hls hdg kk
theorem w_SNl (C : Cx G p s mm meth c args cc n y r) (hw : Wd G s x m H locs) {host : String} {y2 : MethodName} {b2 : ByteArray} {n2 k idx : Nat} {r2 : Option FieldType} {rm : Room} {As : List Value} {v : Int64}
    (hM : Mt l y2 b2 n2 r2 rm G x m As (some (.long v)) x' m') (hk : KS y2 b2 n2 r2 k) (hl : (y.cls, idx, y2, host) ∈ NWm) (hrm : rm.cells = 0 ∧ rm.slots = 0) (hR : rm.frames + 1 ≤ R.frames ∧ 8 + (n2 + 11) + rm.locals ≤ R.locals)
    (hn : As.length = k) (hst : st0 = As.reverse ++ rest) (hcat : (rest.map fun v => v.category).sum ≤ 8) (hls : lv_has ls n []) (hdg : decode cc pc = .ok (.invokestatic idx, 3))
    (kk : ∀ (H1 : Heap) (locs1 : List Loc), Wd G s x' m' H1 locs1 → W p l e R s mm args below meth c H1 locs1 0 0 Q (F0 mm (pc + 3) ls (.long v :: rest))) : W p l e R s mm args below meth c H locs 0 0 Q (F0 mm pc ls st0) := w_SN C hw hM hk hl hrm hR hn hst hcat hls hdg kk
theorem w_Vv (C : Cx G p s mm meth c args cc n y r) (hw : Wd G s x m H locs) {CN : String} {y2 : MethodName} {b2 : ByteArray} {n2 k idx : Nat} {r2 : Option FieldType} {rm : Room} {a : Nat} {As : List Value} 
    (hM : Mt l y2 b2 n2 r2 rm G x m (.ref a :: As) none x' m') (hk : KV CN y2 b2 n2 r2 k) (hl : Cond.methodLink y.cls idx y2 ∈ TG) (hrm : rm.cells = 0 ∧ rm.slots = 0) (hR : rm.frames + 1 ≤ R.frames ∧ 8 + (n2 + 11) + rm.locals ≤ R.locals)
    (hrecv : ∃ cellB : Cell, H[a]? = some cellB ∧ cellB.vm.isStatics = false ∧ s.vm.findClass CN = some cellB.cls) (hn : As.length = k) (hst : st0 = As.reverse ++ .ref a :: rest) (hcat : (rest.map fun v => v.category).sum ≤ 8) (hls : lv_has ls n []) (hdg : decode cc pc = .ok (.invokevirtual idx, 3))
    (kk : ∀ (H1 : Heap) (locs1 : List Loc), Wd G s x' m' H1 locs1 → W p l e R s mm args below meth c H1 locs1 0 0 Q (F0 mm (pc + 3) ls (rest))) : W p l e R s mm args below meth c H locs 0 0 Q (F0 mm pc ls st0) := w_V C hw hM hk hl hrm hR hrecv hn hst hcat hls hdg kk
theorem w_Sv (C : Cx G p s mm meth c args cc n y r) (hw : Wd G s x m H locs) {y2 : MethodName} {b2 : ByteArray} {n2 k idx : Nat} {r2 : Option FieldType} {rm : Room} {As : List Value} 
    (hM : Mt l y2 b2 n2 r2 rm G x m As none x' m') (hk : KS y2 b2 n2 r2 k) (hl : Cond.methodLink y.cls idx y2 ∈ TG) (hrm : rm.cells = 0 ∧ rm.slots = 0) (hR : rm.frames + 1 ≤ R.frames ∧ 8 + (n2 + 11) + rm.locals ≤ R.locals)
    (hn : As.length = k) (hst : st0 = As.reverse ++ rest) (hcat : (rest.map fun v => v.category).sum ≤ 8) (hls : lv_has ls n []) (hdg : decode cc pc = .ok (.invokestatic idx, 3))
    (kk : ∀ (H1 : Heap) (locs1 : List Loc), Wd G s x' m' H1 locs1 → W p l e R s mm args below meth c H1 locs1 0 0 Q (F0 mm (pc + 3) ls (rest))) : W p l e R s mm args below meth c H locs 0 0 Q (F0 mm pc ls st0) := w_S C hw hM hk hl hrm hR hn hst hcat hls hdg kk
theorem w_SNv (C : Cx G p s mm meth c args cc n y r) (hw : Wd G s x m H locs) {host : String} {y2 : MethodName} {b2 : ByteArray} {n2 k idx : Nat} {r2 : Option FieldType} {rm : Room} {As : List Value} 
    (hM : Mt l y2 b2 n2 r2 rm G x m As none x' m') (hk : KS y2 b2 n2 r2 k) (hl : (y.cls, idx, y2, host) ∈ NWm) (hrm : rm.cells = 0 ∧ rm.slots = 0) (hR : rm.frames + 1 ≤ R.frames ∧ 8 + (n2 + 11) + rm.locals ≤ R.locals)
    (hn : As.length = k) (hst : st0 = As.reverse ++ rest) (hcat : (rest.map fun v => v.category).sum ≤ 8) (hls : lv_has ls n []) (hdg : decode cc pc = .ok (.invokestatic idx, 3))
    (kk : ∀ (H1 : Heap) (locs1 : List Loc), Wd G s x' m' H1 locs1 → W p l e R s mm args below meth c H1 locs1 0 0 Q (F0 mm (pc + 3) ls (rest))) : W p l e R s mm args below meth c H locs 0 0 Q (F0 mm pc ls st0) := w_SN C hw hM hk hl hrm hR hn hst hcat hls hdg kk
theorem w_Va (C : Cx G p s mm meth c args cc n y r) (hw : Wd G s x m H locs) {CN : String} {y2 : MethodName} {b2 : ByteArray} {n2 k idx : Nat} {r2 : Option FieldType} {rm : Room} {a : Nat} {As : List Value} {v : Nat}
    (hM : Mt l y2 b2 n2 r2 rm G x m (.ref a :: As) (some (.ref v)) x' m') (hk : KV CN y2 b2 n2 r2 k) (hl : Cond.methodLink y.cls idx y2 ∈ TG) (hrm : rm.cells = 0 ∧ rm.slots = 0) (hR : rm.frames + 1 ≤ R.frames ∧ 8 + (n2 + 11) + rm.locals ≤ R.locals)
    (hrecv : ∃ cellB : Cell, H[a]? = some cellB ∧ cellB.vm.isStatics = false ∧ s.vm.findClass CN = some cellB.cls) (hn : As.length = k) (hst : st0 = As.reverse ++ .ref a :: rest) (hcat : (rest.map fun v => v.category).sum ≤ 8) (hls : lv_has ls n []) (hdg : decode cc pc = .ok (.invokevirtual idx, 3))
    (kk : ∀ (H1 : Heap) (locs1 : List Loc), Wd G s x' m' H1 locs1 → W p l e R s mm args below meth c H1 locs1 0 0 Q (F0 mm (pc + 3) ls (.ref v :: rest))) : W p l e R s mm args below meth c H locs 0 0 Q (F0 mm pc ls st0) := w_V C hw hM hk hl hrm hR hrecv hn hst hcat hls hdg kk
theorem w_Sa (C : Cx G p s mm meth c args cc n y r) (hw : Wd G s x m H locs) {y2 : MethodName} {b2 : ByteArray} {n2 k idx : Nat} {r2 : Option FieldType} {rm : Room} {As : List Value} {v : Nat}
    (hM : Mt l y2 b2 n2 r2 rm G x m As (some (.ref v)) x' m') (hk : KS y2 b2 n2 r2 k) (hl : Cond.methodLink y.cls idx y2 ∈ TG) (hrm : rm.cells = 0 ∧ rm.slots = 0) (hR : rm.frames + 1 ≤ R.frames ∧ 8 + (n2 + 11) + rm.locals ≤ R.locals)
    (hn : As.length = k) (hst : st0 = As.reverse ++ rest) (hcat : (rest.map fun v => v.category).sum ≤ 8) (hls : lv_has ls n []) (hdg : decode cc pc = .ok (.invokestatic idx, 3))
    (kk : ∀ (H1 : Heap) (locs1 : List Loc), Wd G s x' m' H1 locs1 → W p l e R s mm args below meth c H1 locs1 0 0 Q (F0 mm (pc + 3) ls (.ref v :: rest))) : W p l e R s mm args below meth c H locs 0 0 Q (F0 mm pc ls st0) := w_S C hw hM hk hl hrm hR hn hst hcat hls hdg kk
theorem w_SNa (C : Cx G p s mm meth c args cc n y r) (hw : Wd G s x m H locs) {host : String} {y2 : MethodName} {b2 : ByteArray} {n2 k idx : Nat} {r2 : Option FieldType} {rm : Room} {As : List Value} {v : Nat}
    (hM : Mt l y2 b2 n2 r2 rm G x m As (some (.ref v)) x' m') (hk : KS y2 b2 n2 r2 k) (hl : (y.cls, idx, y2, host) ∈ NWm) (hrm : rm.cells = 0 ∧ rm.slots = 0) (hR : rm.frames + 1 ≤ R.frames ∧ 8 + (n2 + 11) + rm.locals ≤ R.locals)
    (hn : As.length = k) (hst : st0 = As.reverse ++ rest) (hcat : (rest.map fun v => v.category).sum ≤ 8) (hls : lv_has ls n []) (hdg : decode cc pc = .ok (.invokestatic idx, 3))
    (kk : ∀ (H1 : Heap) (locs1 : List Loc), Wd G s x' m' H1 locs1 → W p l e R s mm args below meth c H1 locs1 0 0 Q (F0 mm (pc + 3) ls (.ref v :: rest))) : W p l e R s mm args below meth c H locs 0 0 Q (F0 mm pc ls st0) := w_SN C hw hM hk hl hrm hR hn hst hcat hls hdg kk
theorem w_VaN (C : Cx G p s mm meth c args cc n y r) (hw : Wd G s x m H locs) {CN : String} {y2 : MethodName} {b2 : ByteArray} {n2 k idx : Nat} {r2 : Option FieldType} {rm : Room} {a : Nat} {As : List Value} 
    (hM : Mt l y2 b2 n2 r2 rm G x m (.ref a :: As) (some .null) x' m') (hk : KV CN y2 b2 n2 r2 k) (hl : Cond.methodLink y.cls idx y2 ∈ TG) (hrm : rm.cells = 0 ∧ rm.slots = 0) (hR : rm.frames + 1 ≤ R.frames ∧ 8 + (n2 + 11) + rm.locals ≤ R.locals)
    (hrecv : ∃ cellB : Cell, H[a]? = some cellB ∧ cellB.vm.isStatics = false ∧ s.vm.findClass CN = some cellB.cls) (hn : As.length = k) (hst : st0 = As.reverse ++ .ref a :: rest) (hcat : (rest.map fun v => v.category).sum ≤ 8) (hls : lv_has ls n []) (hdg : decode cc pc = .ok (.invokevirtual idx, 3))
    (kk : ∀ (H1 : Heap) (locs1 : List Loc), Wd G s x' m' H1 locs1 → W p l e R s mm args below meth c H1 locs1 0 0 Q (F0 mm (pc + 3) ls (.null :: rest))) : W p l e R s mm args below meth c H locs 0 0 Q (F0 mm pc ls st0) := w_V C hw hM hk hl hrm hR hrecv hn hst hcat hls hdg kk
theorem w_SaN (C : Cx G p s mm meth c args cc n y r) (hw : Wd G s x m H locs) {y2 : MethodName} {b2 : ByteArray} {n2 k idx : Nat} {r2 : Option FieldType} {rm : Room} {As : List Value} 
    (hM : Mt l y2 b2 n2 r2 rm G x m As (some .null) x' m') (hk : KS y2 b2 n2 r2 k) (hl : Cond.methodLink y.cls idx y2 ∈ TG) (hrm : rm.cells = 0 ∧ rm.slots = 0) (hR : rm.frames + 1 ≤ R.frames ∧ 8 + (n2 + 11) + rm.locals ≤ R.locals)
    (hn : As.length = k) (hst : st0 = As.reverse ++ rest) (hcat : (rest.map fun v => v.category).sum ≤ 8) (hls : lv_has ls n []) (hdg : decode cc pc = .ok (.invokestatic idx, 3))
    (kk : ∀ (H1 : Heap) (locs1 : List Loc), Wd G s x' m' H1 locs1 → W p l e R s mm args below meth c H1 locs1 0 0 Q (F0 mm (pc + 3) ls (.null :: rest))) : W p l e R s mm args below meth c H locs 0 0 Q (F0 mm pc ls st0) := w_S C hw hM hk hl hrm hR hn hst hcat hls hdg kk
theorem w_SNaN (C : Cx G p s mm meth c args cc n y r) (hw : Wd G s x m H locs) {host : String} {y2 : MethodName} {b2 : ByteArray} {n2 k idx : Nat} {r2 : Option FieldType} {rm : Room} {As : List Value} 
    (hM : Mt l y2 b2 n2 r2 rm G x m As (some .null) x' m') (hk : KS y2 b2 n2 r2 k) (hl : (y.cls, idx, y2, host) ∈ NWm) (hrm : rm.cells = 0 ∧ rm.slots = 0) (hR : rm.frames + 1 ≤ R.frames ∧ 8 + (n2 + 11) + rm.locals ≤ R.locals)
    (hn : As.length = k) (hst : st0 = As.reverse ++ rest) (hcat : (rest.map fun v => v.category).sum ≤ 8) (hls : lv_has ls n []) (hdg : decode cc pc = .ok (.invokestatic idx, 3))
    (kk : ∀ (H1 : Heap) (locs1 : List Loc), Wd G s x' m' H1 locs1 → W p l e R s mm args below meth c H1 locs1 0 0 Q (F0 mm (pc + 3) ls (.null :: rest))) : W p l e R s mm args below meth c H locs 0 0 Q (F0 mm pc ls st0) := w_SN C hw hM hk hl hrm hR hn hst hcat hls hdg kk
theorem w_srecv (C : Cx G p s mm meth c args cc n y r) (hw : Wd G s x m H locs) {i : Nat} (hi : i < 18) : ∃ cellB : Cell, H[gK G i]? = some cellB ∧ cellB.vm.isStatics = false ∧ s.vm.findClass "java/lang/String" = some cellB.cls := vk_recv C.2.2.2.2.2.2.2.2.2.2.1.1 hi hw.2
theorem w_copy (C : Cx G p s mm meth c args cc n y r) (hw : Wd G s x m H locs) (hls : lv_has ls n []) {ks ns kd nd idx : Nat} (hs : AX ks ns) (hd : AX kd nd) {sp dp q : Int32} (hq : ¬ (sp < 0 ∨ dp < 0 ∨ q < 0 ∨ ns < sp.toNatClampNeg + q.toNatClampNeg ∨ nd < dp.toNatClampNeg + q.toNatClampNeg)) (hl : Cond.methodLink y.cls idx arraycopyName ∈ TG) (hR : 1 ≤ R.frames ∧ 60 ≤ R.locals) (hcat : (rest.map fun v => v.category).sum ≤ 8) (hdg : decode cc pc = .ok (.invokestatic idx, 3))
    (kk : ∀ (H1 : Heap) (locs1 : List Loc), Wd G s (uR x kd (va_cpy (x ks) (x kd) sp.toNatClampNeg dp.toNatClampNeg q.toNatClampNeg)) m H1 locs1 → W p l e R s mm args below meth c H1 locs1 0 0 Q (F0 mm (pc + 3) ls rest)) : W p l e R s mm args below meth c H locs 0 0 Q (F0 mm pc ls (.int q :: .int dp :: .ref (gq G kd) :: .int sp :: .ref (gq G ks) :: rest)) := by
  have hnat : nativeFrameWords "java/lang/System" "arraycopy" 5 + 11 ≤ 52 := by decide +kernel
  exact va_copyi C.1 C.2.1 (C.2.2.2.1.trans hls.1.symm) C.2.2.2.2.1 (C.w hl) (C.w k_copy.1) (C.w k_copy.2.1) (C.w k_copy.2.2) C.2.2.2.2.2.2.2.1 hw.1 (C.2.2.2.2.2.2.2.2.2.2.2 x m) hw.2 ks kd 0 0 (hs G x m).1 (hd G x m).1 rfl rfl rfl (fun z => hq (Or.inl z)) (fun z => hq (Or.inr (Or.inl z))) (fun z => hq (Or.inr (Or.inr (Or.inl z)))) (Nat.le_of_not_lt fun z => hq (Or.inr (Or.inr (Or.inr (Or.inl z))))) (Nat.le_of_not_lt fun z => hq (Or.inr (Or.inr (Or.inr (Or.inr z))))) (fun _ _ => rfl) hR.1 (by omega) hdg (fun H1 locs1 hP _ hS => kk H1 locs1 ⟨by rw [← (hd G x m).2]; exact hP, hS⟩)
theorem w_ldcW0 {T : State} {cells slots : Nat} (X : Stand p l e R s mm args below meth c T locs cells slots) (hexec : p.tables.exec = Jvm.exec) {own tx : String} {index a : Nat} (hown : s.vm.findClass own = some mm.cls)
    (hZ : vk_R own index tx a s) {g : JFrame} (hg : g.method = mm) (hdg : decode c.code g.pc = .ok (.ldc_w index, 3)) :
    ∀ target, Steps p.tables e below (T.setTop { g with pc := g.pc + 3, stack := .ref a :: g.stack }) target → Steps p.tables e below (T.setTop g) target := by
  obtain ⟨k, cf, i, a', hk, hcf, hcp, -, hr, hev'⟩ := Cond.stringRef_spec hown hZ.1
  cases hZ.2.symm.trans hev'
  obtain ⟨k', hk', he⟩ := X.warmed.alike.2.2 _ _ hk
  have hr' : k'.resolved[index]? = some (some (.string a)) := by
    rcases X.warmed.entry hk hk' index with h | ⟨h, -⟩
    · rw [h]; exact hr
    · rw [hr] at h; cases h
  intro target hrest
  subst hg
  jvm_step X.here [hexec, hdg, ldc_w.wp_string (e := e) (s := T) (f := g) X.here.top hk' (by rw [he]; exact hcf) hcp hr']
  exact hrest
theorem w_ldcSw (C : Cx G p s mm meth c args cc n y r) {idx i : Nat} (hi : (y.cls, idx, i) ∈ sRefs) (hdg : decode cc pc = .ok (.ldc_w idx, 3))
    (kk : W p l e R s mm args below meth c H locs 0 0 Q (F0 mm (pc + 3) ls (.ref (gK G i) :: rest))) : W p l e R s mm args below meth c H locs 0 0 Q (F0 mm pc ls rest) := by
  intro T hT X
  obtain ⟨t, a, b⟩ := kk T hT X
  exact ⟨t, w_ldcW0 X C.1 C.2.2.2.2.1 (C.2.2.2.2.2.2.2.2.2.2.1.2.1 _ hi) (g := F0 mm pc ls rest) rfl (by rw [C.2.1]; exact hdg) t a, b⟩
end RO
