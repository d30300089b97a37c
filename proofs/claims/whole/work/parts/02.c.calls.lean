section Gen2
variable {D : va_G} {tys : List (ClassId × FieldType)} {cell : St → Nat → va_E} {ad : Nat → Nat} {n : Nat}
variable {p : Program} {l : Launch} {e : Env} {R : Room} {s : State} {m : MethodId} {args : Array Value} {below : List Frame} {meth : Method} {c : Code} {H : Heap} {locs : List Loc} {Q : State → Prop}
variable {cc : ByteArray} {nL : Nat} {ret : Option FieldType} {own : String} {pc : Nat} {ls : Array Slot} {rest : List Value} {σ : St}
variable {y : MethodName} {bytes : ByteArray} {maxL : Nat} {rt : Option FieldType} {rm : Room} {As : List Value} {idx : Nat} {Qc : Array Value → State → Outcome → State → Prop}
/-- the words of a virtual call -/
theorem gdV {C' : String} (h1 : Cond.methodLink own idx y ∈ gT) (h2 : Cond.instanceMethod y ∈ gT) (h3 : Cond.selects C' y y ∈ gT) (h4 : Cond.initialized C' ∈ gT) (h5 : Cond.code y bytes maxL rt ∈ gT) : GoodIn gT (wsV own idx C' y (wsOf y bytes maxL rt)) := by
  have k : ∀ w ∈ wsV own idx C' y (wsOf y bytes maxL rt), w ∈ gT := by
    intro w hw
    simp only [wsV, wsOf, List.mem_append, List.mem_cons, List.mem_nil_iff, or_false] at hw
    rcases hw with (rfl | rfl | rfl | rfl) | rfl | h
    · exact h1
    · exact h2
    · exact h3
    · exact h4
    · exact h5
    · exact h
  exact fun w hw => ⟨k w hw, gT_good (k w hw)⟩
theorem gdS (h1 : Cond.methodLink own idx y ∈ gT) (h2 : Cond.static y ∈ gT) (h4 : Cond.initialized y.cls ∈ gT) (h5 : Cond.code y bytes maxL rt ∈ gT) : GoodIn gT (va_wsS own idx y (wsOf y bytes maxL rt)) := by
  have k : ∀ w ∈ va_wsS own idx y (wsOf y bytes maxL rt), w ∈ gT := by
    intro w hw
    simp only [va_wsS, wsOf, List.mem_append, List.mem_cons, List.mem_nil_iff, or_false] at hw
    rcases hw with (rfl | rfl | rfl) | rfl | h
    · exact h1
    · exact h2
    · exact h4
    · exact h5
    · exact h
  exact fun w hw => ⟨k w hw, gT_good (k w hw)⟩
theorem gdC (h5 : Cond.code y bytes maxL rt ∈ gT) : GoodIn gT (wsOf y bytes maxL rt) := by
  have k : ∀ w ∈ wsOf y bytes maxL rt, w ∈ gT := by
    intro w hw
    rcases List.mem_cons.mp hw with rfl | h
    · exact h5
    · exact h
  exact fun w hw => ⟨k w hw, gT_good (k w hw)⟩
abbrev nmOK (y : MethodName) (k : Nat) : Prop := y.cls ≠ "java/lang/invoke/MethodHandle" ∧ y.cls ≠ "java/lang/invoke/VarHandle" ∧ (parseMethodDescriptor y.desc).map (fun d => d.parameters.length) = some k
theorem gRunV {C' : String} {k ci : Nat} {q : vw_C} {fs : List Value} (C : Cx p s m args meth c cc nL ret own) (wd : gWd D tys cell ad n s H locs σ)
    (hM : gMet D tys cell ad n l y bytes maxL rt rm (.ref (ad k) :: As) σ H.size Qc) (hrm : rm.cells = 0 ∧ rm.slots = 0) (hG : GoodIn gT (wsV own idx C' y (wsOf y bytes maxL rt))) (hd : y.cls = C' ∧ nmOK y As.length) (hR : rm.frames + 1 ≤ R.frames ∧ 8 + (maxL + 11) + rm.locals ≤ R.locals)
    (hk : k < n) (hcell : cell σ k = .inr (ci, fs)) (hc : vwCl[ci]? = some q) (hq : q.1 = C') (hls : ls.size = nL) (hsk : (rest.map fun v => v.category).sum ≤ 8) (hdg : decode cc pc = .ok (.invokevirtual idx, 3)) {st : List Value} (hst : st = As.reverse ++ .ref (ad k) :: rest) :
    va_Run p l e R s m args below meth c H locs 0 0 0 0 (F0 m pc ls st) rest (Qc (Value.ref (ad k) :: As).toArray) (gA ad n H.size) := by
  obtain ⟨hx, hb, hr, hml, hown, hts, hlk⟩ := C
  obtain ⟨hK, hN, hP, hD, hS⟩ := wd
  have hg : (gW cell ad n σ)[k]? = some (ad k, .inr (ci, fs)) := by rw [gW_get hk, hcell]
  subst hq
  exact va_runV ⟨hx, hb, hml, hown, hts⟩ hM (cwV As.length hts hG rfl hrm.1 hrm.2 hd hR) ⟨gPre_blind, va_recv hK hP hc hg, fun U hU hW => ⟨rfl, by rw [hU], by rw [hU]; exact hP, va_K.moved hW.alike hK, ns.warm hW hN, hD.weaken (fun _ _ _ _ => trivial)⟩⟩ rfl rfl hls hst (lv_room hsk) hdg ⟨Nat.zero_le _, Nat.zero_le _⟩
theorem gRunS (C : Cx p s m args meth c cc nL ret own) (wd : gWd D tys cell ad n s H locs σ)
    (hM : gMet D tys cell ad n l y bytes maxL rt rm As σ H.size Qc) (hrm : rm.cells = 0 ∧ rm.slots = 0) (hG : GoodIn gT (va_wsS own idx y (wsOf y bytes maxL rt))) (hd : nmOK y As.length) (hR : rm.frames + 1 ≤ R.frames ∧ 8 + (maxL + 11) + rm.locals ≤ R.locals)
    (hls : ls.size = nL) (hsk : (rest.map fun v => v.category).sum ≤ 8) (hdg : decode cc pc = .ok (.invokestatic idx, 3)) {st : List Value} (hst : st = As.reverse ++ rest) :
    va_Run p l e R s m args below meth c H locs 0 0 0 0 (F0 m pc ls st) rest (Qc As.toArray) (gA ad n H.size) := by
  obtain ⟨hx, hb, hr, hml, hown, hts, hlk⟩ := C
  obtain ⟨hK, hN, hP, hD, hS⟩ := wd
  exact va_runS ⟨hx, hb, hml, hown, hts⟩ hM (va_cwS As.length hts hG rfl hrm.1 hrm.2 hd hR) ⟨gPre_blind, fun U hU hW => ⟨rfl, by rw [hU], by rw [hU]; exact hP, va_K.moved hW.alike hK, ns.warm hW hN, hD.weaken (fun _ _ _ _ => trivial)⟩⟩ rfl rfl hls hst (lv_room hsk) hdg ⟨Nat.zero_le _, Nat.zero_le _⟩
theorem gRunSN {host : String} (C : Cx p s m args meth c cc nL ret own) (wd : gWd D tys cell ad n s H locs σ)
    (hM : gMet D tys cell ad n l y bytes maxL rt rm As σ H.size Qc) (hrm : rm.cells = 0 ∧ rm.slots = 0) (hG : GoodIn gT (wsOf y bytes maxL rt)) (hlink : Cond.methodLinkNest own idx y host ∈ nsT) (hini : Cond.initialized y.cls ∈ gT) (hst0 : Cond.static y ∈ gT) (hd : nmOK y As.length) (hR : rm.frames + 1 ≤ R.frames ∧ 8 + (maxL + 11) + rm.locals ≤ R.locals)
    (hls : ls.size = nL) (hsk : (rest.map fun v => v.category).sum ≤ 8) (hdg : decode cc pc = .ok (.invokestatic idx, 3)) {st : List Value} (hst : st = As.reverse ++ rest) :
    va_Run p l e R s m args below meth c H locs 0 0 0 0 (F0 m pc ls st) rest (Qc As.toArray) (gA ad n H.size) := by
  obtain ⟨hx, hb, hr, hml, hown, hts, hlk⟩ := C
  obtain ⟨hK, hN, hP, hD, hS⟩ := wd
  exact va_runSN ⟨hx, hb, hml, hown, hts⟩ hM ⟨va_cnB As.length hts hG rfl hrm.1 hrm.2 (hN _ hlink) (hts _ hini) hd hR, hts _ hst0, trivial⟩ ⟨gPre_blind, fun U hU hW => ⟨rfl, by rw [hU], by rw [hU]; exact hP, va_K.moved hW.alike hK, ns.warm hW hN, hD.weaken (fun _ _ _ _ => trivial)⟩⟩ rfl rfl hls hst (lv_room hsk) hdg ⟨Nat.zero_le _, Nat.zero_le _⟩
/-- behind a call: the world that came back -/
theorem gCi {Φ : Int32 → St → Prop} {a : Array Value} {st : List Value} (wd : gWd D tys cell ad n s H locs σ) (hr : va_Run p l e R s m args below meth c H locs 0 0 0 0 (F0 m pc ls st) rest (gQi D cell ad n H.size Φ a) (gA ad n H.size))
    (kk : ∀ (r : Int32) (τ : St) (H1 : Heap) (locs1 : List Loc), Φ r τ → gWd D tys cell ad n s H1 locs1 τ → W p l e R s m args below meth c H1 locs1 0 0 Q (F0 m (pc + 3) ls (.int r :: rest))) : W p l e R s m args below meth c H locs 0 0 Q (F0 m pc ls st) := by
  obtain ⟨hK, hN, hP, hD, hS⟩ := wd
  refine va_calli (A0 := gA ad n s.heap.size) hr hS (fun q _ h => gA_mono hS.1 h) (fun q h => gA_mono hS.1 h) (fun r τ t H1 locs1 ht hvm hw hB hz hk hS1 => ?_)
  obtain ⟨hP1, hD1⟩ := hB
  rw [ht] at hP1
  exact kk r τ H1 locs1 hw ⟨hK, hN, hP1, gW_D hD1, hS1⟩
theorem gCl {Φ : Int64 → St → Prop} {a : Array Value} {st : List Value} (wd : gWd D tys cell ad n s H locs σ) (hr : va_Run p l e R s m args below meth c H locs 0 0 0 0 (F0 m pc ls st) rest (gQl D cell ad n H.size Φ a) (gA ad n H.size))
    (kk : ∀ (r : Int64) (τ : St) (H1 : Heap) (locs1 : List Loc), Φ r τ → gWd D tys cell ad n s H1 locs1 τ → W p l e R s m args below meth c H1 locs1 0 0 Q (F0 m (pc + 3) ls (.long r :: rest))) : W p l e R s m args below meth c H locs 0 0 Q (F0 m pc ls st) := by
  obtain ⟨hK, hN, hP, hD, hS⟩ := wd
  refine va_calll (A0 := gA ad n s.heap.size) hr hS (fun q _ h => gA_mono hS.1 h) (fun q h => gA_mono hS.1 h) (fun r τ t H1 locs1 ht hvm hw hB hz hk hS1 => ?_)
  obtain ⟨hP1, hD1⟩ := hB
  rw [ht] at hP1
  exact kk r τ H1 locs1 hw ⟨hK, hN, hP1, gW_D hD1, hS1⟩
theorem gCv {Φ : St → Prop} {a : Array Value} {st : List Value} (wd : gWd D tys cell ad n s H locs σ) (hr : va_Run p l e R s m args below meth c H locs 0 0 0 0 (F0 m pc ls st) rest (gQv D cell ad n H.size Φ a) (gA ad n H.size))
    (kk : ∀ (τ : St) (H1 : Heap) (locs1 : List Loc), Φ τ → gWd D tys cell ad n s H1 locs1 τ → W p l e R s m args below meth c H1 locs1 0 0 Q (F0 m (pc + 3) ls rest)) : W p l e R s m args below meth c H locs 0 0 Q (F0 m pc ls st) := by
  obtain ⟨hK, hN, hP, hD, hS⟩ := wd
  refine va_callv (A0 := gA ad n s.heap.size) hr hS (fun q _ h => gA_mono hS.1 h) (fun q h => gA_mono hS.1 h) (fun τ t H1 locs1 ht hvm hw hB hz hk hS1 => ?_)
  obtain ⟨hP1, hD1⟩ := hB
  rw [ht] at hP1
  exact kk τ H1 locs1 hw ⟨hK, hN, hP1, gW_D hD1, hS1⟩
theorem gCr {Φ : Nat → St → Prop} {a : Array Value} {st : List Value} (wd : gWd D tys cell ad n s H locs σ) (hr : va_Run p l e R s m args below meth c H locs 0 0 0 0 (F0 m pc ls st) rest (gQr D cell ad n H.size Φ a) (gA ad n H.size))
    (kk : ∀ (k : Nat) (τ : St) (H1 : Heap) (locs1 : List Loc), 5 ≤ k → k < 10 → Φ k τ → gWd D tys cell ad n s H1 locs1 τ → W p l e R s m args below meth c H1 locs1 0 0 Q (F0 m (pc + 3) ls (.ref (ad k) :: rest))) : W p l e R s m args below meth c H locs 0 0 Q (F0 m pc ls st) := by
  obtain ⟨hK, hN, hP, hD, hS⟩ := wd
  refine va_callr (A0 := gA ad n s.heap.size) hr hS (fun q _ h => gA_mono hS.1 h) (fun q h => gA_mono hS.1 h) (fun u ra t H1 locs1 ht hvm hw hB hz hk hS1 => ?_)
  obtain ⟨τ, k⟩ := u
  obtain ⟨⟨hra, h1, h2⟩, hP1, hD1⟩ := hB
  rw [ht] at hP1
  dsimp only at hra h1 h2 hP1 hD1
  subst hra
  exact kk k τ H1 locs1 h1 h2 hw ⟨hK, hN, hP1, gW_D hD1, hS1⟩
/-- Math.max, Math.min -/
theorem gMax (C : Cx p s m args meth c cc nL ret own) (hls : ls.size = nL) (hlink : Cond.methodLink own idx Lib.Math.max.name ∈ gT) (h2 : Cond.static Lib.Math.max.name ∈ gT) (h3 : Cond.initialized "java/lang/Math" ∈ gT) (h4 : Cond.code Lib.Math.max.name Lib.Math.max.code 2 (some .int) ∈ gT) (hf : 1 ≤ R.frames) (ho : (rest.map fun v => v.category).sum + 13 ≤ R.locals) {x z : Int32} (hdg : decode cc pc = .ok (.invokestatic idx, 3))
    (kk : W p l e R s m args below meth c H locs 0 0 Q (F0 m (pc + 3) ls (.int (if x < z then z else x) :: rest))) : W p l e R s m args below meth c H locs 0 0 Q (F0 m pc ls (.int z :: .int x :: rest)) := by
  obtain ⟨hx, hb, hr, hml, hown, hts, hlk⟩ := C
  exact va_mmax hx hb (hml.trans hls.symm) hown (hts _ hlink) (hts _ h2) (hts _ h3) (hts _ h4) hf ho (Nat.zero_le _) (Nat.zero_le _) hdg kk
theorem gMin (C : Cx p s m args meth c cc nL ret own) (hls : ls.size = nL) (hlink : Cond.methodLink own idx Lib.Math.min.name ∈ gT) (h2 : Cond.static Lib.Math.min.name ∈ gT) (h3 : Cond.initialized "java/lang/Math" ∈ gT) (h4 : Cond.code Lib.Math.min.name Lib.Math.min.code 2 (some .int) ∈ gT) (hf : 1 ≤ R.frames) (ho : (rest.map fun v => v.category).sum + 13 ≤ R.locals) {x z : Int32} (hdg : decode cc pc = .ok (.invokestatic idx, 3))
    (kk : W p l e R s m args below meth c H locs 0 0 Q (F0 m (pc + 3) ls (.int (if z < x then z else x) :: rest))) : W p l e R s m args below meth c H locs 0 0 Q (F0 m pc ls (.int z :: .int x :: rest)) := by
  obtain ⟨hx, hb, hr, hml, hown, hts, hlk⟩ := C
  exact va_mmin hx hb (hml.trans hls.symm) hown (hts _ hlink) (hts _ h2) (hts _ h3) (hts _ h4) hf ho (Nat.zero_le _) (Nat.zero_le _) hdg kk
end Gen2
