-- constructors: explicit worlds, in the order of making
def iPre (D : va_G) (cyI cyO : ClassId) (ws : va_W) (sz : Nat) (U : State) : Prop :=
  U.heap.size = sz ∧ va_P D vwCl ws U.heap ∧ va_K D vwCl (tyL cyI cyO) U ∧ ns U ∧ va_AO "OrphanLogs$Clerk" U ∧ va_D (fun _ => True) ws
def iWd (D : va_G) (cyI cyO : ClassId) (ws0 : va_W) (s : State) (H : Heap) (locs : List Loc) (ws : va_W) : Prop :=
  va_K D vwCl (tyL cyI cyO) s ∧ ns s ∧ va_AO "OrphanLogs$Clerk" s ∧ va_P D vwCl ws H ∧ va_D (va_A ws0 s.heap.size) ws ∧ va_S (va_A ws0 s.heap.size) s.heap H locs
def iQ (D : va_G) (ws0 : va_W) (sz : Nat) {S : Type} (post : S → Prop) (blk : S → va_W) : Array Value → State → Outcome → State → Prop := va_Qv post (fun u t => va_P D vwCl (blk u) t.heap ∧ va_D (va_A ws0 sz) (blk u)) (va_A ws0 sz)
def iMet (D : va_G) (cyI cyO : ClassId) (l : Launch) (y : MethodName) (cc : ByteArray) (nL : Nat) (rm : Room) (av : List Value) (ws0 : va_W) (sz : Nat) {S : Type} (post : S → Prop) (blk : S → va_W) (mc ms : Nat) : Prop :=
  Met l y (wsOf y cc nL none) rm (va_Pc av (iPre D cyI cyO ws0 sz)) (iQ D ws0 sz post blk) mc ms (va_A ws0 sz)
theorem iPre_blind {D : va_G} {cyI cyO : ClassId} {ws : va_W} {sz : Nat} {av : List Value} : FrameBlind (va_Pc av (iPre D cyI cyO ws sz)) := by
  intro a U g mk q
  obtain ⟨q0, q1, qP, qK, qN, qO, qD⟩ := q
  exact ⟨q0, q1, qP, va_K.moved (u := U) (U := U.calling g mk a) (Vm.Alike.refl U.vm) qK, ns.same (u := U) (U := U.calling g mk a) rfl qN, va_AO.moved (u := U) (U := U.calling g mk a) (Vm.Alike.refl U.vm) qO, qD⟩
section Ini
variable {D : va_G} {cyI cyO : ClassId} {ws0 ws : va_W}
variable {p : Program} {l : Launch} {e : Env} {R : Room} {s : State} {m : MethodId} {args : Array Value} {below : List Frame} {meth : Method} {c : Code} {H : Heap} {locs : List Loc} {Q : State → Prop} {cells slots : Nat}
variable {cc : ByteArray} {nL : Nat} {ret : Option FieldType} {own : String} {pc : Nat} {ls : Array Slot} {rest : List Value}
theorem iMet.of {y : MethodName} {rm : Room} {av : List Value} {sz mc ms : Nat} {S : Type} {post : S → Prop} {blk : S → va_W} (hy : plainName y.cls = true) (hyn : y.name = "<init>") (hlen : (lg_sl av).length ≤ nL)
    (body : ∀ (p : Program) (e : Env) (s : State) (m : MethodId) (below : List Frame) (meth : Method) (c : Code) (ls : Array Slot), s.heap.size = sz → meth.name = "<init>" → Cx p s m av.toArray meth c cc nL none y.cls → lv_has ls nL (lv_args 0 av) → iWd D cyI cyO ws0 s s.heap [] ws0 → W p l e rm s m av.toArray below meth c s.heap [] 0 0 (MQ below (iQ D ws0 s.heap.size post blk) av.toArray s mc ms (va_A ws0 s.heap.size)) (F0 m 0 ls [])) :
    iMet D cyI cyO l y cc nL rm av ws0 sz post blk mc ms := by
  refine Met.ofW (cc := cc) (maxL := nL) (ret := none) hy rfl ?_
  intro p e s m args below meth c s₁ B hml hv
  obtain ⟨rfl, hsz, hP, hK, hN, hO, hD⟩ := hv
  have hts := atoms_spec (ws := wsOf y cc nL none) B.pre
  have hl := lv_entry av (n := nL) hlen
  have hin : meth.name = "<init>" := ((name_of_methodNamed B.named B.method).1).trans hyn
  rw [lg_entry_eq]
  subst hsz
  exact body p e s m below meth c _ rfl hin ⟨B.exec, B.bytes, B.returns, hml, findClass_of_methodNamed B.named, fun w hw => hts w (List.mem_cons_of_mem _ hw), B.notSynchronized⟩ hl ⟨hK, hN, hO, hP, hD.self, va_S.rf⟩
theorem iObj (C : Cx p s m args meth c cc nL ret own) {idx a : Nat} (hls : ls.size = nL) (hlink : Cond.methodLink own idx Lib.objectInit ∈ gT) (hf : 1 ≤ R.frames) (ho : (rest.map fun v => v.category).sum + 12 ≤ R.locals) (hdg : decode cc pc = .ok (.invokespecial idx, 3))
    (kk : W p l e R s m args below meth c H locs cells slots Q (F0 m (pc + 3) ls rest)) : W p l e R s m args below meth c H locs cells slots Q (F0 m pc ls (.ref a :: rest)) := by
  obtain ⟨hx, hb, hr, hml, hown, hts, hlk⟩ := C
  refine W.objInit hx hb hown (hts _ hlink) (hts _ tw1_19) (hts _ tw1_20) rfl (by rw [hml]; exact hls) rfl hdg hf ?_ ?_
  · show 2 * 0 + _ + 12 ≤ _
    omega
  · exact W.eq (g2 := F0 m (pc + 3) ls rest) rfl kk
theorem iNewA (C : Cx p s m args meth c cc nL ret own) (wd : iWd D cyI cyO ws0 s H locs ws) {x : Int32} {N : Nat} (hn : ¬ x < 0) (hN : x.toNatClampNeg = N) (h4 : N * 4 ≤ 536870912) (hc : cells + 1 ≤ R.cells) (hs : slots + N ≤ R.slots) (hdg : decode cc pc = .ok (.newarray .int, 2))
    (kk : ∀ (q : Nat) (H1 : Heap), iWd D cyI cyO ws0 s H1 locs (ws ++ [(q, .inl (cyI, N, .inl (fun _ => 0)))]) → W p l e R s m args below meth c H1 locs (cells + 1) (slots + N) Q (F0 m (pc + 2) ls (.ref q :: rest))) : W p l e R s m args below meth c H locs cells slots Q (F0 m pc ls (.int x :: rest)) := by
  obtain ⟨hx, hb, hr, hml, hown, hts, hlk⟩ := C
  obtain ⟨hK, hN', hO, hP, hD, hS⟩ := wd
  refine va_newa (atype := .int) (ty := .int) (a0 := (N, .inl (fun _ => 0))) hx hb (hts _ tw1_54) rfl hK hP hD hS (fun q h => Or.inr h) (fun cA => rfl) hn hN h4 hc hs hdg (fun q cA H1 hK1 hP1 hD1 hS1 => ?_)
  have e1 : s.vm.findClass ("[" ++ FieldType.int.toString) = some cA := (hK1.2 2 (cA, .int) rfl).2
  have e2 : s.vm.findClass ("[" ++ FieldType.int.toString) = some cyI := (hK.2 0 (cyI, .int) rfl).2
  have e3 : cA = cyI := Option.some.inj (e1.symm.trans e2)
  rw [e3] at hP1 hD1
  exact kk q H1 ⟨hK, hN', hO, hP1, hD1, hS1⟩
theorem iNewQ (C : Cx p s m args meth c cc nL ret own) (wd : iWd D cyI cyO ws0 s H locs ws) {x : Int32} {N idx : Nat} (hlink : Cond.classLink own idx "OrphanLogs$Clerk" ∈ gT) (hn : ¬ x < 0) (hN : x.toNatClampNeg = N) (h4 : N * 4 ≤ 536870912) (hc : cells + 1 ≤ R.cells) (hs : slots + N ≤ R.slots) (hdg : decode cc pc = .ok (.anewarray idx, 3))
    (kk : ∀ (q : Nat) (H1 : Heap), iWd D cyI cyO ws0 s H1 locs (ws ++ [(q, .inl (cyO, N, .inr (.inr (.inr (.inr (fun _ => none))))))]) → W p l e R s m args below meth c H1 locs (cells + 1) (slots + N) Q (F0 m (pc + 3) ls (.ref q :: rest))) : W p l e R s m args below meth c H locs cells slots Q (F0 m pc ls (.int x :: rest)) := by
  obtain ⟨hx, hb, hr, hml, hown, hts, hlk⟩ := C
  obtain ⟨hK, hN', hO, hP, hD, hS⟩ := wd
  refine va_newq hx hb hown (hts _ hlink) hO hK hP hD hS (fun q h => Or.inr h) hn hN h4 hc hs hdg (fun q cA H1 hK1 hP1 hD1 hS1 => ?_)
  obtain ⟨k1, c1, -, -, -, e1⟩ := (hK1.2 2 (cA, .object "OrphanLogs$Clerk") rfl).2
  obtain ⟨k2, c2, -, -, -, e2⟩ := (hK.2 1 (cyO, .object "OrphanLogs$Clerk") rfl).2
  have e3 : cA = cyO := Option.some.inj (e1.symm.trans e2)
  rw [e3] at hP1 hD1
  exact kk q H1 ⟨hK, hN', hO, hP1, hD1, hS1⟩
theorem iNew (C : Cx p s m args meth c cc nL ret own) (wd : iWd D cyI cyO ws0 s H locs ws) {Cn : String} {T : u_T} {N ci idx : Nat} {ty : Nat → FieldType} {fs : List Value} (hin : ∀ w ∈ u_ws Cn T N, w ∈ gT) (hty : ∀ k, k < N → parseFieldDescriptor (T k).2.2.1 = some (ty k)) (hcl : Cond.classLink own idx Cn ∈ gT) (hinst : Cond.instantiable Cn N ∈ gT) (hini : Cond.initialized Cn ∈ gT) (hc : vwCl[ci]? = some (Cn, T, N)) (hfs : ∀ j, j < N → defaultValue (ty j) = vp_V fs j) (hce : cells + 1 ≤ R.cells) (hsl : slots + N ≤ R.slots) (hdg : decode cc pc = .ok (.new idx, 3))
    (kk : ∀ (q : Nat) (H1 : Heap), iWd D cyI cyO ws0 s H1 locs (ws ++ [(q, .inr (ci, fs))]) → W p l e R s m args below meth c H1 locs (cells + 1) (slots + N) Q (F0 m (pc + 3) ls (.ref q :: rest))) : W p l e R s m args below meth c H locs cells slots Q (F0 m pc ls rest) := by
  obtain ⟨hx, hb, hr, hml, hown, hts, hlk⟩ := C
  obtain ⟨hK, hN', hO, hP, hD, hS⟩ := wd
  exact va_new hx hb hts hin ty hty hown (hts _ hcl) (hts _ hinst) (hts _ hini) hK hP hD hS (fun q h => Or.inr h) hc hfs hce hsl hdg (fun q H1 hP1 hD1 hS1 => kk q H1 ⟨hK, hN', hO, hP1, hD1, hS1⟩)
theorem iPutF (C : Cx p s m args meth c cc nL ret own) (wd : iWd D cyI cyO ws0 s H locs ws) (hin2 : meth.name = "<init>") {a k ci N idx : Nat} {fs : List Value} {Cn : String} {T : u_T} {v : Value} {ty : FieldType} (he : ws[k]? = some (a, .inr (ci, fs))) (hc : vwCl[ci]? = some (Cn, T, N)) {ty0 : Nat → FieldType} (hty : ∀ k, k < N → parseFieldDescriptor (T k).2.2.1 = some (ty0 k)) (hnm : ∀ a, a < N → ∀ b, b < N → a ≠ b → (T a).2.1 ≠ (T b).2.1) (f : Nat) (hf : f < N) (hfin : (T f).2.2.2 = true) (hdecl : (T f).1 = own) (hd : parseFieldDescriptor (T f).2.2.1 = some ty) (hn : narrow ty v = v) (hfit : fits ty v = true) (hfl : f < fs.length) (hin : ∀ w ∈ u_ws Cn T N, w ∈ gT) (hlink : Cond.fieldLink own idx (T f).1 (T f).2.1 (T f).2.2.1 ∈ gT) (hdg : decode cc pc = .ok (.putfield idx, 3))
    (kk : ∀ (H1 : Heap) (locs1 : List Loc), iWd D cyI cyO ws0 s H1 locs1 (ws.set k (a, .inr (ci, fs.set f v))) → W p l e R s m args below meth c H1 locs1 cells slots Q (F0 m (pc + 3) ls rest)) : W p l e R s m args below meth c H locs cells slots Q (F0 m pc ls (v :: .ref a :: rest)) := by
  obtain ⟨hx, hb, hr, hml, hown, hts, hlk⟩ := C
  obtain ⟨hK, hN', hO, hP, hD, hS⟩ := wd
  exact va_putF (ty := ty) hx hb hts hin ty0 hty hnm hown hK hP hD hS k he hc f hf (hts _ hlink) (fun _ h => h) hfin hin2 hdecl hd hn hfit hfl hdg (fun H1 locs1 hP1 hD1 hS1 => kk H1 locs1 ⟨hK, hN', hO, hP1, hD1, hS1⟩)
theorem iPut (C : Cx p s m args meth c cc nL ret own) (wd : iWd D cyI cyO ws0 s H locs ws) {a k ci N idx : Nat} {fs : List Value} {Cn : String} {T : u_T} {v : Value} {ty : FieldType} (he : ws[k]? = some (a, .inr (ci, fs))) (hc : vwCl[ci]? = some (Cn, T, N)) {ty0 : Nat → FieldType} (hty : ∀ k, k < N → parseFieldDescriptor (T k).2.2.1 = some (ty0 k)) (hnm : ∀ a, a < N → ∀ b, b < N → a ≠ b → (T a).2.1 ≠ (T b).2.1) (f : Nat) (hf : f < N) (hfin : (T f).2.2.2 = false) (hd : parseFieldDescriptor (T f).2.2.1 = some ty) (hn : narrow ty v = v) (hfit : fits ty v = true) (hfl : f < fs.length) (hin : ∀ w ∈ u_ws Cn T N, w ∈ gT) (hlink : Cond.fieldLink own idx (T f).1 (T f).2.1 (T f).2.2.1 ∈ gT) (hdg : decode cc pc = .ok (.putfield idx, 3))
    (kk : ∀ (H1 : Heap) (locs1 : List Loc), iWd D cyI cyO ws0 s H1 locs1 (ws.set k (a, .inr (ci, fs.set f v))) → W p l e R s m args below meth c H1 locs1 cells slots Q (F0 m (pc + 3) ls rest)) : W p l e R s m args below meth c H locs cells slots Q (F0 m pc ls (v :: .ref a :: rest)) := by
  obtain ⟨hx, hb, hr, hml, hown, hts, hlk⟩ := C
  obtain ⟨hK, hN', hO, hP, hD, hS⟩ := wd
  exact va_put (ty := ty) hx hb hts hin ty0 hty hnm hown hK hP hD hS k he hc f hf (hts _ hlink) (fun _ h => h) hfin hd hn hfit hfl hdg (fun H1 locs1 hP1 hD1 hS1 => kk H1 locs1 ⟨hK, hN', hO, hP1, hD1, hS1⟩)
theorem iRetV {S : Type} {post : S → Prop} {blk : S → va_W} (C : Cx p s m args meth c cc nL none own) (wd : iWd D cyI cyO ws0 s H locs ws) (u : S) (hu : post u) (hw : ws = blk u) (hdg : decode cc pc = .ok (.return_, 1)) : W p l e R s m args below meth c H locs cells slots (MQ below (iQ D ws0 s.heap.size post blk) args s cells slots (va_A ws0 s.heap.size)) (F0 m pc ls []) := by
  obtain ⟨hx, hb, hr, hml, hown, hts, hlk⟩ := C
  obtain ⟨hK, hN', hO, hP, hD, hS⟩ := wd
  subst hw
  exact W.vret hx hb hr (fun t ht hW => ⟨⟨u, rfl, hu, by rw [ht]; exact hP, hD⟩, hS.F ht⟩) hS.2.2 hdg hlk
/-- a constructor's call on the cell made last: its block takes that cell's place -/
theorem iJoin {A0 : Nat → Prop} {q : Nat} {e0 : va_E} {w1 : va_W} {H1 : Heap} (hP : va_P D vwCl (ws ++ [(q, e0)]) H) (hD : va_D A0 (ws ++ [(q, e0)])) (hk : ∀ x : Nat, x < H.size → ¬ va_A [(q, e0)] H.size x → H1[x]? = H[x]?) (hF : ∀ x, va_A [(q, e0)] H.size x → A0 x) (hP1 : va_P D vwCl w1 H1) (hD1 : va_D (va_A [(q, e0)] H.size) w1) : va_P D vwCl (ws ++ w1) H1 ∧ va_D A0 (ws ++ w1) := by
  have hl : ∀ (k : Nat) (x : Nat × va_E), ws[k]? = some x → (ws ++ [(q, e0)])[k]? = some x := fun k x hx => by
    rw [List.getElem?_append_left (List.getElem?_eq_some_iff.mp hx).1]
    exact hx
  have hq : (ws ++ [(q, e0)])[ws.length]? = some (q, e0) := by simp
  have hne : ∀ (k : Nat) (x : Nat × va_E), ws[k]? = some x → ¬ va_A [(q, e0)] H.size x.1 := fun k x hx h => by
    rcases h with ⟨j, e1, hj⟩ | h
    · have hj0 : j = 0 := by
        have := (List.getElem?_eq_some_iff.mp hj).1
        simp at this
        omega
      subst hj0
      have hx1 : x.1 = q := by
        have h2 : some (q, e0) = some (x.1, e1) := hj
        cases h2
        rfl
      have := hD.1 k ws.length x (q, e0) (hl k x hx) hq hx1
      have h3 := (List.getElem?_eq_some_iff.mp hx).1
      omega
    · have := (hP k x (hl k x hx)).lt
      omega
  have hPw : va_P D vwCl ws H := fun k x hx => hP k x (hl k x hx)
  refine ⟨(hPw.kept (fun k x hx => hk x.1 (hPw k x hx).lt (hne k x hx))).app hP1, ?_⟩
  refine va_D.app ⟨fun i j x y hi hj h => hD.1 i j x y (hl i x hi) (hl j y hj) h, fun k x hx => hD.2 k x (hl k x hx)⟩ ⟨hD1.1, fun k x hx => hF _ (hD1.2 k x hx)⟩ (fun i j x y hi hj h => ?_)
  exact hne i x hi (h ▸ hD1.2 j y hj)
theorem iAfree {A0 : Nat → Prop} {q : Nat} {e0 : va_E} (hD : va_D A0 (ws ++ [(q, e0)])) {H0 : Heap} (hS : va_S A0 H0 H locs) (hA : ∀ x, H0.size ≤ x → A0 x) : ∀ x, va_A [(q, e0)] H.size x → A0 x := by
  intro x h
  rcases h with ⟨j, e1, hj⟩ | h
  · have hj0 : j = 0 := by
      have := (List.getElem?_eq_some_iff.mp hj).1
      simp at this
      omega
    subst hj0
    have h2 : some (q, e0) = some (x, e1) := hj
    cases h2
    exact hD.2 ws.length (q, e0) (by simp)
  · exact hA x (Nat.le_trans hS.1 h)
theorem iCall {y : MethodName} {bytes : ByteArray} {maxL mc ms q idx : Nat} {rm : Room} {As : List Value} {e0 : va_E} {S : Type} {post : S → Prop} {blk : S → va_W} (C : Cx p s m args meth c cc nL ret own) (wd : iWd D cyI cyO ws0 s H locs (ws ++ [(q, e0)])) (hM : iMet D cyI cyO l y bytes maxL rm (.ref q :: As) [(q, e0)] H.size post blk mc ms) (hrm : rm.cells = mc ∧ rm.slots = ms)
    (hG : GoodIn gT (wsOf y bytes maxL none)) (hyn : y.name = "<init>") (hini : Cond.initialized y.cls ∈ gT) (hinm : Cond.instanceMethod y ∈ gT) (hlink : Cond.methodLink own idx y ∈ gT ∨ ∃ host, Cond.methodLinkNest own idx y host ∈ nsT) (hd : nmOK y As.length) (hR : rm.frames + 1 ≤ R.frames ∧ 8 + (maxL + 11) + rm.locals ≤ R.locals)
    (hls : ls.size = nL) (hsk : (rest.map fun v => v.category).sum ≤ 8) (hdg : decode cc pc = .ok (.invokespecial idx, 3)) {st : List Value} (hst : st = As.reverse ++ .ref q :: rest) (hf : cells + mc ≤ R.cells ∧ slots + ms ≤ R.slots)
    (kk : ∀ (u : S) (H1 : Heap) (locs1 : List Loc), post u → iWd D cyI cyO ws0 s H1 locs1 (ws ++ blk u) → W p l e R s m args below meth c H1 locs1 (cells + mc) (slots + ms) Q (F0 m (pc + 3) ls rest)) : W p l e R s m args below meth c H locs cells slots Q (F0 m pc ls st) := by
  obtain ⟨hx, hb, hr, hml, hown, hts, hlk⟩ := C
  obtain ⟨hK, hN, hO, hP, hD, hS⟩ := wd
  have hF : ∀ x, va_A [(q, e0)] H.size x → va_A ws0 s.heap.size x := iAfree hD hS (fun x h => Or.inr h)
  have hq : (ws ++ [(q, e0)])[ws.length]? = some (q, e0) := by simp
  have hPq : va_P D vwCl [(q, e0)] H := fun k x hx => by
    have hk0 : k = 0 := by
      have := (List.getElem?_eq_some_iff.mp hx).1
      simp at this
      omega
    subst hk0
    have h2 : some (q, e0) = some x := hx
    cases h2
    exact hP ws.length _ hq
  have hDq : va_D (fun _ => True) [(q, e0)] := ⟨fun i j x y hi hj _ => by
    have h1 := (List.getElem?_eq_some_iff.mp hi).1
    have h2 := (List.getElem?_eq_some_iff.mp hj).1
    simp at h1 h2
    omega, fun _ _ _ => trivial⟩
  have hpre : PreS s H (va_Pc (.ref q :: As) (iPre D cyI cyO [(q, e0)] H.size)) (.ref q :: As) := ⟨iPre_blind, fun U hU hW => ⟨rfl, by rw [hU], by rw [hU]; exact hPq, va_K.moved hW.alike hK, ns.warm hW hN, va_AO.moved hW.alike hO, hDq⟩⟩
  have hrun : va_Run p l e R s m args below meth c H locs cells slots mc ms (F0 m pc ls st) rest (iQ D [(q, e0)] H.size post blk (Value.ref q :: As).toArray) (va_A [(q, e0)] H.size) := by
    rcases hlink with h | ⟨host, h⟩
    · exact va_runI ⟨hx, hb, hml, hown, hts⟩ hM (cwI As.length hts hG rfl hrm.1 hrm.2 (hts _ hini) (hts _ h) (hts _ hinm) hyn hd hR) hpre rfl rfl hls hst (lv_room hsk) hdg hf
    · exact va_runIN ⟨hx, hb, hml, hown, hts⟩ hM ⟨va_cnB As.length hts hG rfl hrm.1 hrm.2 (hN _ h) (hts _ hini) hd hR, hyn, hts _ hinm⟩ hpre rfl rfl hls hst (lv_room hsk) hdg hf
  refine va_callv (A0 := va_A ws0 s.heap.size) hrun hS (fun x _ h => hF x h) hF (fun u t H1 locs1 ht hvm hw hB hz hk hS1 => ?_)
  obtain ⟨hP1, hD1⟩ := hB
  rw [ht] at hP1
  obtain ⟨hP2, hD2⟩ := iJoin hP hD hk hF hP1 hD1
  exact kk u H1 locs1 hw ⟨hK, hN, hO, hP2, hD2, hS1⟩
end Ini
theorem vpq_congr {cA : ClassId} {N : Nat} {f g : Nat → Option Nat} (h : ∀ j, j < N → f j = g j) : vp_cell cA (N, .inr (.inr (.inr (.inr f)))) = vp_cell cA (N, .inr (.inr (.inr (.inr g)))) := by
  have e : (fun j : Fin N => va_rf (f j.val)) = (fun j : Fin N => va_rf (g j.val)) := funext (fun j => by rw [h j.val j.isLt])
  show arrV cA N (fun j => va_rf (f j)) = arrV cA N (fun j => va_rf (g j))
  unfold arrV
  rw [e]
