/-- the state of a system: int fields by 32 times the place and the field's slot, int rows by the place -/
abbrev St : Type := (Nat → Int32) × (Nat → Nat → Int32)
def setI (σ : St) (k : Nat) (v : Int32) : St := (fun j => if j = k then v else σ.1 j, σ.2)
def wr (σ : St) (j : Nat) (i v : Int32) : St := (σ.1, fun b => if b = j then upd (σ.2 j) i.toNatClampNeg v else σ.2 b)
def rd (σ : St) (j : Nat) (i : Int32) : Int32 := σ.2 j i.toNatClampNeg
def gW (cell : St → Nat → va_E) (ad : Nat → Nat) (n : Nat) (σ : St) : va_W := (List.range n).map (fun k => (ad k, cell σ k))
def gA (ad : Nat → Nat) (n sz : Nat) : Nat → Prop := fun q => (∃ k, k < n ∧ q = ad k) ∨ sz ≤ q
theorem gW_get {cell : St → Nat → va_E} {ad : Nat → Nat} {n k : Nat} {σ : St} (hk : k < n) : (gW cell ad n σ)[k]? = some (ad k, cell σ k) := by
  simp [gW, hk]
theorem gW_len {cell : St → Nat → va_E} {ad : Nat → Nat} {n : Nat} {σ : St} : (gW cell ad n σ).length = n := by
  simp [gW]
theorem gW_lt {cell : St → Nat → va_E} {ad : Nat → Nat} {n k : Nat} {σ : St} {q : Nat × va_E} (h : (gW cell ad n σ)[k]? = some q) : k < n := by
  have h1 := (List.getElem?_eq_some_iff.mp h).1
  rw [gW_len] at h1
  exact h1
theorem gW_set {cell : St → Nat → va_E} {ad : Nat → Nat} {n k : Nat} {σ σ' : St} {e : va_E} (hk : k < n) (h : ∀ j, j < n → cell σ' j = if j = k then e else cell σ j) : (gW cell ad n σ).set k (ad k, e) = gW cell ad n σ' := by
  apply List.ext_getElem?
  intro i
  by_cases hi : i < n
  · rw [gW_get (σ := σ') hi, h i hi, List.getElem?_set]
    by_cases hik : k = i
    · subst hik
      simp [gW_len, hk]
    · rw [if_neg hik, gW_get hi, if_neg (fun e => hik e.symm)]
  · have a : ((gW cell ad n σ).set k (ad k, e)).length ≤ i := by rw [List.length_set, gW_len]; omega
    have b : (gW cell ad n σ').length ≤ i := by rw [gW_len]; omega
    rw [List.getElem?_eq_none a, List.getElem?_eq_none b]
theorem gA_mono {ad : Nat → Nat} {n sz sz' : Nat} (h : sz ≤ sz') {q : Nat} (hq : gA ad n sz' q) : gA ad n sz q := hq.elim Or.inl (fun a => Or.inr (Nat.le_trans h a))
theorem gA_new {ad : Nat → Nat} {n sz q : Nat} (h : sz ≤ q) : gA ad n sz q := Or.inr h
theorem gW_D {cell : St → Nat → va_E} {ad : Nat → Nat} {n sz : Nat} {σ : St} {A : Nat → Prop} (h : va_D A (gW cell ad n σ)) : va_D (gA ad n sz) (gW cell ad n σ) := by
  refine ⟨h.1, fun k q hk => ?_⟩
  have hl := gW_lt hk
  rw [gW_get hl] at hk
  cases hk
  exact Or.inl ⟨k, hl, rfl⟩
/-- a cell's int fields are those of its own place -/
def gLoc (cell : St → Nat → va_E) : Prop := ∀ (σ τ : St) (j : Nat), (∀ f, f < 32 → σ.1 (32 * j + f) = τ.1 (32 * j + f)) → σ.2 j = τ.2 j → cell σ j = cell τ j
theorem gLoc_setI {cell : St → Nat → va_E} (hl : gLoc cell) {σ : St} {k f : Nat} (hf : f < 32) {v : Int32} {e : va_E} (he : cell (setI σ (32 * k + f) v) k = e) (j : Nat) : cell (setI σ (32 * k + f) v) j = if j = k then e else cell σ j := by
  by_cases hj : j = k
  · subst hj
    rw [if_pos rfl, he]
  · rw [if_neg hj]
    refine hl _ _ j (fun g hg => ?_) rfl
    have h : ¬ 32 * j + g = 32 * k + f := by omega
    simp [setI, h]
theorem gLoc_wr {cell : St → Nat → va_E} (hl : gLoc cell) {σ : St} {k : Nat} {i v : Int32} {e : va_E} (he : cell (wr σ k i v) k = e) (j : Nat) : cell (wr σ k i v) j = if j = k then e else cell σ j := by
  by_cases hj : j = k
  · subst hj
    rw [if_pos rfl, he]
  · rw [if_neg hj]
    refine hl _ _ j (fun g hg => rfl) ?_
    simp [wr, hj]
theorem wr_at (σ : St) (k : Nat) (i v : Int32) : (wr σ k i v).2 k = upd (σ.2 k) i.toNatClampNeg v := by simp [wr]
theorem wr_ne (σ : St) {k j : Nat} (i v : Int32) (h : j ≠ k) : (wr σ k i v).2 j = σ.2 j := by simp [wr, h]
-- links between nest mates: they are no words of a contract, they stand in its start
def ns (U : State) : Prop := ∀ w ∈ nsT, va_Nw w U
def isNest : Cond → Bool
  | .fieldLinkNest _ _ _ _ _ _ => true
  | .methodLinkNest _ _ _ _ => true
  | _ => false
theorem nsT_nest : ∀ w ∈ nsT, isNest w = true := by decide +kernel
theorem nsT_tab : ∀ w ∈ nsT, w.onTables = true := by decide +kernel
theorem ns.same {u U : State} (h : u.vm = U.vm) (hn : ns u) : ns U := fun w hw => va_Nw.same (nsT_tab w hw) h (hn w hw)
theorem ns.warm {s U : State} (hW : s.WarmedH U.vm) (hn : ns s) : ns U := by
  intro w hw
  have h1 := nsT_nest w hw
  have h2 := hn w hw
  cases w <;> first | exact va_Nw.warmF hW h2 | exact va_Nw.warmM hW h2 | (simp [isNest] at h1)
abbrev tyL (cyI cyO : ClassId) : List (ClassId × FieldType) := [(cyI, .int), (cyO, .object "OrphanLogs$Clerk")]
/-- what a contract's start says of the heap -/
def gPre (D : va_G) (tys : List (ClassId × FieldType)) (cell : St → Nat → va_E) (ad : Nat → Nat) (n : Nat) (σ : St) (sz : Nat) (U : State) : Prop :=
  U.heap.size = sz ∧ va_P D vwCl (gW cell ad n σ) U.heap ∧ va_K D vwCl tys U ∧ ns U ∧ va_D (fun _ => True) (gW cell ad n σ)
def gPost (D : va_G) (cell : St → Nat → va_E) (ad : Nat → Nat) (n : Nat) (A : Nat → Prop) (σ : St) (t : State) : Prop :=
  va_P D vwCl (gW cell ad n σ) t.heap ∧ va_D A (gW cell ad n σ)
/-- in a walk: the tables, the world, what has not changed -/
def gWd (D : va_G) (tys : List (ClassId × FieldType)) (cell : St → Nat → va_E) (ad : Nat → Nat) (n : Nat) (s : State) (H : Heap) (locs : List Loc) (σ : St) : Prop :=
  va_K D vwCl tys s ∧ ns s ∧ va_P D vwCl (gW cell ad n σ) H ∧ va_D (gA ad n s.heap.size) (gW cell ad n σ) ∧ va_S (gA ad n s.heap.size) s.heap H locs
/-- a method's frame: machine, code, answer's type, locals, class, words -/
def Cx (p : Program) (s : State) (m : MethodId) (args : Array Value) (meth : Method) (c : Code) (cc : ByteArray) (nL : Nat) (ret : Option FieldType) (own : String) : Prop :=
  p.tables.exec = Jvm.exec ∧ c.code = cc ∧ meth.sig.returnType = ret ∧ c.maxLocals = nL ∧ s.vm.findClass own = some m.cls ∧ (∀ w ∈ gT, w.before args s = true) ∧ meth.locks = false
abbrev wsOf (y : MethodName) (cc : ByteArray) (nL : Nat) (ret : Option FieldType) : List Cond := Cond.code y cc nL ret :: gT
abbrev rmOf (f k : Nat) : Room := { frames := f, cells := 0, slots := 0, locals := k }
def gQi (D : va_G) (cell : St → Nat → va_E) (ad : Nat → Nat) (n sz : Nat) (Φ : Int32 → St → Prop) : Array Value → State → Outcome → State → Prop := va_Qi Φ (gPost D cell ad n (gA ad n sz)) (gA ad n sz)
def gQl (D : va_G) (cell : St → Nat → va_E) (ad : Nat → Nat) (n sz : Nat) (Φ : Int64 → St → Prop) : Array Value → State → Outcome → State → Prop := va_Ql Φ (gPost D cell ad n (gA ad n sz)) (gA ad n sz)
def gQv (D : va_G) (cell : St → Nat → va_E) (ad : Nat → Nat) (n sz : Nat) (Φ : St → Prop) : Array Value → State → Outcome → State → Prop := va_Qv Φ (gPost D cell ad n (gA ad n sz)) (gA ad n sz)
/-- an answer that is a clerk: its place -/
def gQr (D : va_G) (cell : St → Nat → va_E) (ad : Nat → Nat) (n sz : Nat) (Φ : Nat → St → Prop) : Array Value → State → Outcome → State → Prop := va_Qr (fun u : St × Nat => Φ u.2 u.1) (fun u a t => (a = ad u.2 ∧ 5 ≤ u.2 ∧ u.2 < 10) ∧ gPost D cell ad n (gA ad n sz) u.1 t) (gA ad n sz)
/-- a method's contract -/
def gMet (D : va_G) (tys : List (ClassId × FieldType)) (cell : St → Nat → va_E) (ad : Nat → Nat) (n : Nat) (l : Launch) (y : MethodName) (cc : ByteArray) (nL : Nat) (ret : Option FieldType) (rm : Room) (av : List Value) (σ : St) (sz : Nat) (Qc : Array Value → State → Outcome → State → Prop) : Prop :=
  Met l y (wsOf y cc nL ret) rm (va_Pc av (gPre D tys cell ad n σ sz)) Qc 0 0 (gA ad n sz)
theorem gPre_blind {D : va_G} {tys : List (ClassId × FieldType)} {cell : St → Nat → va_E} {ad : Nat → Nat} {n : Nat} {σ : St} {sz : Nat} {av : List Value} : FrameBlind (va_Pc av (gPre D tys cell ad n σ sz)) := by
  intro a U g mk q
  obtain ⟨q0, q1, qP, qK, qN, qD⟩ := q
  exact ⟨q0, q1, qP, va_K.moved (u := U) (U := U.calling g mk a) (Vm.Alike.refl U.vm) qK, ns.same (u := U) (U := U.calling g mk a) rfl qN, qD⟩
section Gen
variable {D : va_G} {tys : List (ClassId × FieldType)} {cell : St → Nat → va_E} {ad : Nat → Nat} {n : Nat}
variable {p : Program} {l : Launch} {e : Env} {R : Room} {s : State} {m : MethodId} {args : Array Value} {below : List Frame} {meth : Method} {c : Code} {H : Heap} {locs : List Loc} {Q : State → Prop}
variable {cc : ByteArray} {nL : Nat} {ret : Option FieldType} {own : String} {pc : Nat} {ls : Array Slot} {rest : List Value} {σ : St}
/-- a contract out of a walk -/
theorem gMet.of {y : MethodName} {rm : Room} {av : List Value} {sz : Nat} {Qc : Array Value → State → Outcome → State → Prop} (hy : plainName y.cls = true) (hlen : (lg_sl av).length ≤ nL)
    (body : ∀ (p : Program) (e : Env) (s : State) (m : MethodId) (below : List Frame) (meth : Method) (c : Code) (ls : Array Slot), s.heap.size = sz → Cx p s m av.toArray meth c cc nL ret y.cls → lv_has ls nL (lv_args 0 av) → gWd D tys cell ad n s s.heap [] σ → W p l e rm s m av.toArray below meth c s.heap [] 0 0 (MQ below Qc av.toArray s 0 0 (gA ad n s.heap.size)) (F0 m 0 ls [])) :
    gMet D tys cell ad n l y cc nL ret rm av σ sz Qc := by
  refine Met.ofW (cc := cc) (maxL := nL) (ret := ret) hy rfl ?_
  intro p e s m args below meth c s₁ B hml hv
  obtain ⟨rfl, hsz, hP, hK, hN, hD⟩ := hv
  have hts := atoms_spec (ws := wsOf y cc nL ret) B.pre
  have hl := lv_entry av (n := nL) hlen
  rw [lg_entry_eq]
  subst hsz
  exact body p e s m below meth c _ rfl ⟨B.exec, B.bytes, B.returns, hml, findClass_of_methodNamed B.named, fun w hw => hts w (List.mem_cons_of_mem _ hw), B.notSynchronized⟩ hl ⟨hK, hN, hP, gW_D hD, va_S.rf⟩
theorem retI {Φ : Int32 → St → Prop} {v : Int32} (C : Cx p s m args meth c cc nL (some .int) own) (wd : gWd D tys cell ad n s H locs σ) (h : Φ v σ) (hdg : decode cc pc = .ok (.ireturn, 1)) : W p l e R s m args below meth c H locs 0 0 (MQ below (gQi D cell ad n s.heap.size Φ) args s 0 0 (gA ad n s.heap.size)) (F0 m pc ls [.int v]) := by
  obtain ⟨hx, hb, hr, hml, hown, hts, hlk⟩ := C
  obtain ⟨hK, hN, hP, hD, hS⟩ := wd
  exact W.iret (v := v) hx hb hr (fun t ht hW => ⟨⟨v, σ, rfl, h, by rw [ht]; exact hP, hD⟩, hS.F ht⟩) hS.2.2 hdg hlk
theorem retZ {Φ : Int32 → St → Prop} {v : Int32} (C : Cx p s m args meth c cc nL (some .boolean) own) (wd : gWd D tys cell ad n s H locs σ) (hv : narrow .boolean (.int v) = .int v) (h : Φ v σ) (hdg : decode cc pc = .ok (.ireturn, 1)) : W p l e R s m args below meth c H locs 0 0 (MQ below (gQi D cell ad n s.heap.size Φ) args s 0 0 (gA ad n s.heap.size)) (F0 m pc ls [.int v]) := by
  obtain ⟨hx, hb, hr, hml, hown, hts, hlk⟩ := C
  obtain ⟨hK, hN, hP, hD, hS⟩ := wd
  exact W.zret (v := v) hx hb hr hv (fun t ht hW => ⟨⟨v, σ, rfl, h, by rw [ht]; exact hP, hD⟩, hS.F ht⟩) hS.2.2 hdg hlk
theorem retL {Φ : Int64 → St → Prop} {v : Int64} (C : Cx p s m args meth c cc nL (some .long) own) (wd : gWd D tys cell ad n s H locs σ) (h : Φ v σ) (hdg : decode cc pc = .ok (.lreturn, 1)) : W p l e R s m args below meth c H locs 0 0 (MQ below (gQl D cell ad n s.heap.size Φ) args s 0 0 (gA ad n s.heap.size)) (F0 m pc ls [.long v]) := by
  obtain ⟨hx, hb, hr, hml, hown, hts, hlk⟩ := C
  obtain ⟨hK, hN, hP, hD, hS⟩ := wd
  exact W.lret (v := v) hx hb hr (fun t ht hW => ⟨⟨v, σ, rfl, h, by rw [ht]; exact hP, hD⟩, hS.F ht⟩) hS.2.2 hdg hlk
theorem retV {Φ : St → Prop} (C : Cx p s m args meth c cc nL none own) (wd : gWd D tys cell ad n s H locs σ) (h : Φ σ) (hdg : decode cc pc = .ok (.return_, 1)) : W p l e R s m args below meth c H locs 0 0 (MQ below (gQv D cell ad n s.heap.size Φ) args s 0 0 (gA ad n s.heap.size)) (F0 m pc ls []) := by
  obtain ⟨hx, hb, hr, hml, hown, hts, hlk⟩ := C
  obtain ⟨hK, hN, hP, hD, hS⟩ := wd
  exact W.vret hx hb hr (fun t ht hW => ⟨⟨σ, rfl, h, by rw [ht]; exact hP, hD⟩, hS.F ht⟩) hS.2.2 hdg hlk
theorem retR {Φ : Nat → St → Prop} {k : Nat} {cn : String} (C : Cx p s m args meth c cc nL (some (.object cn)) own) (wd : gWd D tys cell ad n s H locs σ) (h1 : 5 ≤ k) (h2 : k < 10) (h : Φ k σ) (hdg : decode cc pc = .ok (.areturn, 1)) : W p l e R s m args below meth c H locs 0 0 (MQ below (gQr D cell ad n s.heap.size Φ) args s 0 0 (gA ad n s.heap.size)) (F0 m pc ls [.ref (ad k)]) := by
  obtain ⟨hx, hb, hr, hml, hown, hts, hlk⟩ := C
  obtain ⟨hK, hN, hP, hD, hS⟩ := wd
  exact W.aret (v := .ref (ad k)) hx hb hr (Or.inl ⟨_, rfl⟩) (Or.inr ⟨_, rfl⟩) (fun t ht hW => ⟨⟨(σ, k), ad k, rfl, h, ⟨rfl, h1, h2⟩, by rw [ht]; exact hP, hD⟩, hS.F ht⟩) hS.2.2 hdg hlk
theorem getF (C : Cx p s m args meth c cc nL ret own) (wd : gWd D tys cell ad n s H locs σ) {k ci N : Nat} {fs : List Value} {Cn : String} {T : u_T} {idx : Nat} {v : Value} (hk : k < n) (hcell : cell σ k = .inr (ci, fs)) (hc : vwCl[ci]? = some (Cn, T, N)) (f : Nat) (hf : f < N) (hv : fs[f]? = some v) (hin : ∀ w ∈ u_ws Cn T N, w ∈ gT) (hlink : Cond.fieldLink own idx (T f).1 (T f).2.1 (T f).2.2.1 ∈ gT) (hdg : decode cc pc = .ok (.getfield idx, 3))
    (kk : W p l e R s m args below meth c H locs 0 0 Q (F0 m (pc + 3) ls (v :: rest))) : W p l e R s m args below meth c H locs 0 0 Q (F0 m pc ls (.ref (ad k) :: rest)) := by
  obtain ⟨hx, hb, hr, hml, hown, hts, hlk⟩ := C
  exact va_get hx hb hts hin hown wd.1 wd.2.2.1 k (by rw [gW_get hk, hcell]) hc f hf (hts _ hlink) (fun _ h => h) hv hdg kk
theorem getN (C : Cx p s m args meth c cc nL ret own) (wd : gWd D tys cell ad n s H locs σ) {k ci N : Nat} {fs : List Value} {Cn host : String} {T : u_T} {idx : Nat} {v : Value} (hk : k < n) (hcell : cell σ k = .inr (ci, fs)) (hc : vwCl[ci]? = some (Cn, T, N)) (f : Nat) (hf : f < N) (hv : fs[f]? = some v) (hin : ∀ w ∈ u_ws Cn T N, w ∈ gT) (hlink : Cond.fieldLinkNest own idx (T f).1 (T f).2.1 (T f).2.2.1 host ∈ nsT) (hdg : decode cc pc = .ok (.getfield idx, 3))
    (kk : W p l e R s m args below meth c H locs 0 0 Q (F0 m (pc + 3) ls (v :: rest))) : W p l e R s m args below meth c H locs 0 0 Q (F0 m pc ls (.ref (ad k) :: rest)) := by
  obtain ⟨hx, hb, hr, hml, hown, hts, hlk⟩ := C
  exact va_getN hx hb hts hin hown wd.1 wd.2.2.1 k (by rw [gW_get hk, hcell]) hc f hf (va_Nw.use rfl (wd.2.1 _ hlink)) (fun _ h => h) hv hdg kk
theorem putF (C : Cx p s m args meth c cc nL ret own) (wd : gWd D tys cell ad n s H locs σ) {k ci N : Nat} {fs : List Value} {Cn : String} {T : u_T} {idx : Nat} {v : Int32} {σ' : St} (hk : k < n) (hcell : cell σ k = .inr (ci, fs)) (hc : vwCl[ci]? = some (Cn, T, N)) {ty0 : Nat → FieldType} (hty : ∀ k, k < N → parseFieldDescriptor (T k).2.2.1 = some (ty0 k)) (hnm : ∀ a, a < N → ∀ b, b < N → a ≠ b → (T a).2.1 ≠ (T b).2.1) (f : Nat) (hf : f < N) (hfin : (T f).2.2.2 = false) (hd : parseFieldDescriptor (T f).2.2.1 = some .int) (hfl : f < fs.length) (hin : ∀ w ∈ u_ws Cn T N, w ∈ gT) (hlink : Cond.fieldLink own idx (T f).1 (T f).2.1 (T f).2.2.1 ∈ gT)
    (hset : ∀ j, cell σ' j = if j = k then .inr (ci, fs.set f (.int v)) else cell σ j) (hdg : decode cc pc = .ok (.putfield idx, 3))
    (kk : ∀ (H1 : Heap) (locs1 : List Loc), gWd D tys cell ad n s H1 locs1 σ' → W p l e R s m args below meth c H1 locs1 0 0 Q (F0 m (pc + 3) ls rest)) : W p l e R s m args below meth c H locs 0 0 Q (F0 m pc ls (.int v :: .ref (ad k) :: rest)) := by
  obtain ⟨hx, hb, hr, hml, hown, hts, hlk⟩ := C
  have hg : (gW cell ad n σ)[k]? = some (ad k, .inr (ci, fs)) := by rw [gW_get hk, hcell]
  have hs := gW_set (ad := ad) (σ := σ) (σ' := σ') hk (fun j _ => hset j)
  refine va_put (ty := .int) hx hb hts hin ty0 hty hnm hown wd.1 wd.2.2.1 wd.2.2.2.1 wd.2.2.2.2 k hg hc f hf (hts _ hlink) (fun _ h => h) hfin hd rfl rfl hfl hdg (fun H1 locs1 hP hD hS => ?_)
  rw [hs] at hP hD
  exact kk H1 locs1 ⟨wd.1, wd.2.1, hP, hD, hS⟩
theorem putN (C : Cx p s m args meth c cc nL ret own) (wd : gWd D tys cell ad n s H locs σ) {k ci N : Nat} {fs : List Value} {Cn host : String} {T : u_T} {idx : Nat} {v : Int32} {σ' : St} (hk : k < n) (hcell : cell σ k = .inr (ci, fs)) (hc : vwCl[ci]? = some (Cn, T, N)) {ty0 : Nat → FieldType} (hty : ∀ k, k < N → parseFieldDescriptor (T k).2.2.1 = some (ty0 k)) (hnm : ∀ a, a < N → ∀ b, b < N → a ≠ b → (T a).2.1 ≠ (T b).2.1) (f : Nat) (hf : f < N) (hfin : (T f).2.2.2 = false) (hd : parseFieldDescriptor (T f).2.2.1 = some .int) (hfl : f < fs.length) (hin : ∀ w ∈ u_ws Cn T N, w ∈ gT) (hlink : Cond.fieldLinkNest own idx (T f).1 (T f).2.1 (T f).2.2.1 host ∈ nsT)
    (hset : ∀ j, cell σ' j = if j = k then .inr (ci, fs.set f (.int v)) else cell σ j) (hdg : decode cc pc = .ok (.putfield idx, 3))
    (kk : ∀ (H1 : Heap) (locs1 : List Loc), gWd D tys cell ad n s H1 locs1 σ' → W p l e R s m args below meth c H1 locs1 0 0 Q (F0 m (pc + 3) ls rest)) : W p l e R s m args below meth c H locs 0 0 Q (F0 m pc ls (.int v :: .ref (ad k) :: rest)) := by
  obtain ⟨hx, hb, hr, hml, hown, hts, hlk⟩ := C
  have hg : (gW cell ad n σ)[k]? = some (ad k, .inr (ci, fs)) := by rw [gW_get hk, hcell]
  have hs := gW_set (ad := ad) (σ := σ) (σ' := σ') hk (fun j _ => hset j)
  refine va_putN (ty := .int) hx hb hts hin ty0 hty hnm hown wd.1 wd.2.2.1 wd.2.2.2.1 wd.2.2.2.2 k hg hc f hf (va_Nw.use rfl (wd.2.1 _ hlink)) (fun _ h => h) hfin hd rfl rfl hfl hdg (fun H1 locs1 hP hD hS => ?_)
  rw [hs] at hP hD
  exact kk H1 locs1 ⟨wd.1, wd.2.1, hP, hD, hS⟩
theorem ldI {cyI cyO : ClassId} (C : Cx p s m args meth c cc nL ret own) (wd : gWd D (tyL cyI cyO) cell ad n s H locs σ) {k N : Nat} {i : Int32} (hk : k < n) (hcell : cell σ k = .inl (cyI, N, .inl (σ.2 k))) (hi : vp_in i N) (hdg : decode cc pc = .ok (.iaload, 1))
    (kk : W p l e R s m args below meth c H locs 0 0 Q (F0 m (pc + 1) ls (.int (rd σ k i) :: rest))) : W p l e R s m args below meth c H locs 0 0 Q (F0 m pc ls (.int i :: .ref (ad k) :: rest)) := by
  obtain ⟨hx, hb, hr, hml, hown, hts, hlk⟩ := C
  exact va_iald hx hb wd.1 wd.2.2.1 k 0 (by rw [gW_get hk, hcell]) rfl hi hdg kk
theorem ldQ {cyI cyO : ClassId} (C : Cx p s m args meth c cc nL ret own) (wd : gWd D (tyL cyI cyO) cell ad n s H locs σ) {k N : Nat} {f : Nat → Option Nat} {i : Int32} (hk : k < n) (hcell : cell σ k = .inl (cyO, N, .inr (.inr (.inr (.inr f))))) (hi : vp_in i N) (hdg : decode cc pc = .ok (.aaload, 1))
    (kk : W p l e R s m args below meth c H locs 0 0 Q (F0 m (pc + 1) ls (va_rf (f i.toNatClampNeg) :: rest))) : W p l e R s m args below meth c H locs 0 0 Q (F0 m pc ls (.int i :: .ref (ad k) :: rest)) := by
  obtain ⟨hx, hb, hr, hml, hown, hts, hlk⟩ := C
  exact va_aldq hx hb wd.1 wd.2.2.1 k 1 (by rw [gW_get hk, hcell]) rfl hi hdg kk
theorem stI {cyI cyO : ClassId} (C : Cx p s m args meth c cc nL ret own) (wd : gWd D (tyL cyI cyO) cell ad n s H locs σ) {k N : Nat} {i v : Int32} (hk : k < n) (hcell : cell σ k = .inl (cyI, N, .inl (σ.2 k))) (hset : ∀ j, cell (wr σ k i v) j = if j = k then .inl (cyI, N, .inl (upd (σ.2 k) i.toNatClampNeg v)) else cell σ j) (hi : vp_in i N) (hdg : decode cc pc = .ok (.iastore, 1))
    (kk : ∀ (H1 : Heap) (locs1 : List Loc), gWd D (tyL cyI cyO) cell ad n s H1 locs1 (wr σ k i v) → W p l e R s m args below meth c H1 locs1 0 0 Q (F0 m (pc + 1) ls rest)) : W p l e R s m args below meth c H locs 0 0 Q (F0 m pc ls (.int v :: .int i :: .ref (ad k) :: rest)) := by
  obtain ⟨hx, hb, hr, hml, hown, hts, hlk⟩ := C
  have hg : (gW cell ad n σ)[k]? = some (ad k, .inl (cyI, N, .inl (σ.2 k))) := by rw [gW_get hk, hcell]
  have hs := gW_set (ad := ad) (σ := σ) (σ' := wr σ k i v) hk (fun j _ => hset j)
  refine va_iast hx hb wd.1 wd.2.2.1 wd.2.2.2.1 wd.2.2.2.2 k 0 hg rfl hi hdg (fun H1 locs1 hP hD hS => ?_)
  rw [hs] at hP hD
  exact kk H1 locs1 ⟨wd.1, wd.2.1, hP, hD, hS⟩
theorem alenI {cyI cyO : ClassId} (C : Cx p s m args meth c cc nL ret own) (wd : gWd D (tyL cyI cyO) cell ad n s H locs σ) {k N : Nat} (hk : k < n) (hcell : cell σ k = .inl (cyI, N, .inl (σ.2 k))) (hdg : decode cc pc = .ok (.arraylength, 1))
    (kk : W p l e R s m args below meth c H locs 0 0 Q (F0 m (pc + 1) ls (.int (Int32.ofNat N) :: rest))) : W p l e R s m args below meth c H locs 0 0 Q (F0 m pc ls (.ref (ad k) :: rest)) := by
  obtain ⟨hx, hb, hr, hml, hown, hts, hlk⟩ := C
  exact va_alen hx hb wd.1 wd.2.2.1 k 0 (by rw [gW_get hk, hcell]) rfl rfl hdg kk
theorem alenQ {cyI cyO : ClassId} (C : Cx p s m args meth c cc nL ret own) (wd : gWd D (tyL cyI cyO) cell ad n s H locs σ) {k N : Nat} {f : Nat → Option Nat} (hk : k < n) (hcell : cell σ k = .inl (cyO, N, .inr (.inr (.inr (.inr f))))) (hdg : decode cc pc = .ok (.arraylength, 1))
    (kk : W p l e R s m args below meth c H locs 0 0 Q (F0 m (pc + 1) ls (.int (Int32.ofNat N) :: rest))) : W p l e R s m args below meth c H locs 0 0 Q (F0 m pc ls (.ref (ad k) :: rest)) := by
  obtain ⟨hx, hb, hr, hml, hown, hts, hlk⟩ := C
  exact va_alen hx hb wd.1 wd.2.2.1 k 1 (by rw [gW_get hk, hcell]) rfl rfl hdg kk
theorem lv_tableD {dflt lo hi : Int} {offs : Array Int} {len : Nat} {x : Int32} {tgt : Nat} (C : Cx p s m args meth c cc nL ret own) (hdg : decode cc pc = .ok (.tableswitch dflt lo hi offs, len)) (h : x.toInt < lo ∨ hi < x.toInt ∨ offs[(x.toInt - lo).toNat]? = some dflt) (ht : (pc : Int) + dflt = (tgt : Int))
    (kk : W p l e R s m args below meth c H locs 0 0 Q (F0 m tgt ls rest)) : W p l e R s m args below meth c H locs 0 0 Q (F0 m pc ls (.int x :: rest)) := by
  obtain ⟨hx, hb, hr, hml, hown, hts, hlk⟩ := C
  by_cases h1 : x.toInt < lo
  · exact lv_tableOut hx hb hdg (Or.inl h1) ht kk
  · by_cases h2 : hi < x.toInt
    · exact lv_tableOut hx hb hdg (Or.inr h2) ht kk
    · exact lv_tableIn hx hb hdg h1 h2 ((h.resolve_left h1).resolve_left h2) ht kk
end Gen
