/-! THE CLAIM OUT OF ONE WALK OF THE LAW'S BODY. Your part is whole_start (and what it stands on); all else here is the same for every law, but numbers. -/
def R_law : String := "OrphanLogsLaw"
def lw_P (b : Addr) (xs : List Int32) (args : Array Value) (s : State) : Prop := args = #[.ref b] ∧ s.IntsAt b xs ∧ xs.length ≤ 2560 ∧ (Jvm.Cond.and given_1 narrow_1).before args s = true
def lw_Q (_ : Array Value) (s : State) (o : Outcome) (t : State) : Prop := o = .returned (some (.int 1)) ∧ Framed s o t [] 600000 7302250
def lw_Z (below : List Frame) (a : Array Value) (s : State) : State → Prop := fun t => ∃ o, t.status = .running ∧ Ended t below o ∧ lw_Q a s o t
/-- the law's own end, with 1 on the stack, nothing written that was there before, its room as the claim has it -/
theorem lw_ret {p : Program} {l : Launch} {e : Env} {s : State} {m : MethodId} {below : List Frame} {meth : Method} {c : Code} {b : Nat} (hx : p.tables.exec = Jvm.exec) (hb : c.code = code) (hr : meth.sig.returnType = ret) (hlocks : meth.locks = false) {pc : Nat} {H : Heap} {ls : Array Slot} (hdg : decode code pc = .ok (.ireturn, 1)) : W p l e room_1 s m #[Value.ref b] below meth c H [] 600000 7302250 (lw_Z below #[Value.ref b] s) (F0 m pc ls [.int 1]) := by
  intro T hT X
  obtain ⟨fs, hret, hrun, hended, hW, hframe⟩ := X.leave (v := some (.int 1)) (hlocks := hlocks) (fun h => by rw [hr] at h; cases h)
  have hmeth' : T.vm.method? m = some meth := X.method'
  refine ⟨T.setFrames fs, ?_, .returned (some (.int 1)), hrun, hended, rfl, ⟨_, rfl⟩, hW, hframe⟩
  jvm_step X.here [X.here.top, hx, hb, hdg, hmeth', hr, ret, narrow_b1]
  (try refine ⟨rfl, ?_⟩); (try refine ⟨rfl, ?_⟩)
  first | (intro acts; rw [hret _ acts rfl rfl rfl]) | rw [hret _ _ rfl rfl rfl]
  exact Steps.refl _
/-- what holds at the law's entry: the machine, the code, the tables' words (any of lw_tbl by 'hts w (by decide +kernel)'), the script of L ints xs at the cell b, what the Statement gives of the start (any of its parts by flat_of_before) -/
def lw_At (p : Program) (s : State) (m : MethodId) (meth : Method) (c : Code) (b L : Nat) (xs : Nat → Int32) : Prop :=
  p.tables.exec = Jvm.exec ∧ c.code = code ∧ meth.sig.returnType = ret ∧ c.maxLocals = 4 ∧ s.vm.findClass R_law = some m.cls ∧ (∀ w ∈ lw_tbl, w.before #[Value.ref b] s = true) ∧ va_X b L xs s s.heap ∧ b < s.heap.size ∧ meth.locks = false ∧ (Jvm.Cond.and given_1 narrow_1).before #[Value.ref b] s = true


theorem gWd_other {D : va_G} {tys : List (ClassId × FieldType)} {cell1 cell2 : St → Nat → va_E} {ad1 ad2 : Nat → Nat} {n1 n2 : Nat} {s : State} {H H1 : Heap} {locs locs1 : List Loc} {σ μ : St} (w1 : gWd D tys cell1 ad1 n1 s H1 locs1 σ) (w2 : gWd D tys cell2 ad2 n2 s H locs μ) (hk : ∀ q : Nat, q < H.size → ¬ gA ad1 n1 H.size q → H1[q]? = H[q]?) (hd : ∀ j k, j < n1 → k < n2 → ad1 j ≠ ad2 k) (h1 : ∀ j, j < n1 → s.heap.size ≤ ad1 j) : gWd D tys cell2 ad2 n2 s H1 locs1 μ := by
  obtain ⟨hK, hN, hP, hD, hS⟩ := w1
  obtain ⟨-, -, hP2, hD2, -⟩ := w2
  refine ⟨hK, hN, hP2.kept (fun k q hq => ?_), hD2, hS.1, fun q hq hA => ?_, fun q hq => ?_⟩
  · have hlt := (hP2 k q hq).lt
    refine hk q.1 hlt (fun h => ?_)
    have hkn := gW_lt hq
    rw [gW_get hkn] at hq
    cases hq
    rcases h with ⟨j, hj, e⟩ | h
    · exact hd j k hj hkn e.symm
    · exact absurd hlt (Nat.not_lt.mpr h)
  · refine hS.2.1 q hq (fun h => ?_)
    rcases h with ⟨j, hj, e⟩ | h
    · have := h1 j hj
      omega
    · omega
  · rcases hS.2.2 q hq with ⟨j, hj, e⟩ | h
    · refine Or.inr ?_
      rw [e]
      exact h1 j hj
    · exact Or.inr h
/-- the law's two worlds -/
def LWd (D : va_G) (cyI cyO : ClassId) (adx adm : Nat → Nat) (s : State) (H : Heap) (locs : List Loc) (σ μ : St) : Prop :=
  gWd D (tyL cyI cyO) (cCell adx cyI cyO) adx 60 s H locs σ ∧ gWd D (tyL cyI cyO) (mCell adm cyI cyO) adm 16 s H locs μ ∧ (∀ j k, j < 60 → k < 16 → adx j ≠ adm k) ∧ (∀ j, j < 60 → s.heap.size ≤ adx j) ∧ (∀ k, k < 16 → s.heap.size ≤ adm k)
section LawC
variable {D : va_G} {cyI cyO : ClassId} {adx adm : Nat → Nat} {tys : List (ClassId × FieldType)} {cell : St → Nat → va_E} {ad : Nat → Nat} {n : Nat}
variable {p : Program} {l : Launch} {e : Env} {R : Room} {s : State} {m : MethodId} {args : Array Value} {below : List Frame} {meth : Method} {c : Code} {H : Heap} {locs : List Loc} {Q : State → Prop} {cells slots : Nat}
variable {cc : ByteArray} {nL : Nat} {ret : Option FieldType} {own : String} {pc : Nat} {ls : Array Slot} {rest : List Value} {σ μ : St}
variable {y : MethodName} {bytes : ByteArray} {maxL : Nat} {rt : Option FieldType} {rm : Room} {As : List Value} {idx : Nat} {Qc : Array Value → State → Outcome → State → Prop}
theorem gRunVq {C' : String} {k ci : Nat} {q : vw_C} {fs : List Value} (C : Cx p s m args meth c cc nL ret own) (wd : gWd D tys cell ad n s H locs σ)
    (hM : gMet D tys cell ad n l y bytes maxL rt rm (.ref (ad k) :: As) σ H.size Qc) (hrm : rm.cells = 0 ∧ rm.slots = 0) (hG : GoodIn gT (wsV own idx C' y (wsOf y bytes maxL rt))) (hd : y.cls = C' ∧ nmOK y As.length) (hR : rm.frames + 1 ≤ R.frames ∧ 8 + (maxL + 11) + rm.locals ≤ R.locals)
    (hk : k < n) (hcell : cell σ k = .inr (ci, fs)) (hc : vwCl[ci]? = some q) (hq : q.1 = C') (hls : ls.size = nL) (hsk : (rest.map fun v => v.category).sum ≤ 8) (hdg : decode cc pc = .ok (.invokevirtual idx, 3)) {st : List Value} (hst : st = As.reverse ++ .ref (ad k) :: rest) (hf : cells + 0 ≤ R.cells ∧ slots + 0 ≤ R.slots) :
    va_Run p l e R s m args below meth c H locs cells slots 0 0 (F0 m pc ls st) rest (Qc (Value.ref (ad k) :: As).toArray) (gA ad n H.size) := by
  obtain ⟨hx, hb, hr, hml, hown, hts, hlk⟩ := C
  obtain ⟨hK, hN, hP, hD, hS⟩ := wd
  have hg : (gW cell ad n σ)[k]? = some (ad k, .inr (ci, fs)) := by rw [gW_get hk, hcell]
  subst hq
  exact va_runV ⟨hx, hb, hml, hown, hts⟩ hM (cwV As.length hts hG rfl hrm.1 hrm.2 hd hR) ⟨gPre_blind, va_recv hK hP hc hg, fun U hU hW => ⟨rfl, by rw [hU], by rw [hU]; exact hP, va_K.moved hW.alike hK, ns.warm hW hN, hD.weaken (fun _ _ _ _ => trivial)⟩⟩ rfl rfl hls hst (lv_room hsk) hdg hf

theorem lwXi {Φ : Int32 → St → Prop} {a : Array Value} {st : List Value} (wd : LWd D cyI cyO adx adm s H locs σ μ) (hr : va_Run p l e R s m args below meth c H locs cells slots 0 0 (F0 m pc ls st) rest (gQi D (cCell adx cyI cyO) adx 60 H.size Φ a) (gA adx 60 H.size))
    (kk : ∀ (r : Int32) (τ : St) (H1 : Heap) (locs1 : List Loc), Φ r τ → LWd D cyI cyO adx adm s H1 locs1 τ μ → W p l e R s m args below meth c H1 locs1 cells slots Q (F0 m (pc + 3) ls (.int r :: rest))) : W p l e R s m args below meth c H locs cells slots Q (F0 m pc ls st) := by
  obtain ⟨w1, w2, hd, h1, h2⟩ := wd
  obtain ⟨hK, hN, hP, hD, hS⟩ := id w1
  refine va_calli (A0 := gA adx 60 s.heap.size) hr hS (fun q _ h => gA_mono hS.1 h) (fun q h => gA_mono hS.1 h) (fun r τ t H1 locs1 ht hvm hw hB hz hk hS1 => ?_)
  obtain ⟨hP1, hD1⟩ := hB
  rw [ht] at hP1
  have w := (⟨hK, hN, hP1, gW_D hD1, hS1⟩ : gWd D (tyL cyI cyO) (cCell adx cyI cyO) adx 60 s H1 locs1 τ)
  exact kk r τ H1 locs1 hw ⟨w, gWd_other w w2 hk hd h1, hd, h1, h2⟩
theorem lwMi {Φ : Int32 → St → Prop} {a : Array Value} {st : List Value} (wd : LWd D cyI cyO adx adm s H locs σ μ) (hr : va_Run p l e R s m args below meth c H locs cells slots 0 0 (F0 m pc ls st) rest (gQi D (mCell adm cyI cyO) adm 16 H.size Φ a) (gA adm 16 H.size))
    (kk : ∀ (r : Int32) (τ : St) (H1 : Heap) (locs1 : List Loc), Φ r τ → LWd D cyI cyO adx adm s H1 locs1 σ τ → W p l e R s m args below meth c H1 locs1 cells slots Q (F0 m (pc + 3) ls (.int r :: rest))) : W p l e R s m args below meth c H locs cells slots Q (F0 m pc ls st) := by
  obtain ⟨w1, w2, hd, h1, h2⟩ := wd
  obtain ⟨hK, hN, hP, hD, hS⟩ := id w2
  refine va_calli (A0 := gA adm 16 s.heap.size) hr hS (fun q _ h => gA_mono hS.1 h) (fun q h => gA_mono hS.1 h) (fun r τ t H1 locs1 ht hvm hw hB hz hk hS1 => ?_)
  obtain ⟨hP1, hD1⟩ := hB
  rw [ht] at hP1
  have w := (⟨hK, hN, hP1, gW_D hD1, hS1⟩ : gWd D (tyL cyI cyO) (mCell adm cyI cyO) adm 16 s H1 locs1 τ)
  exact kk r τ H1 locs1 hw ⟨gWd_other w w1 hk (fun j k hj hk e => hd k j hk hj e.symm) h2, w, hd, h1, h2⟩
theorem lwXl {Φ : Int64 → St → Prop} {a : Array Value} {st : List Value} (wd : LWd D cyI cyO adx adm s H locs σ μ) (hr : va_Run p l e R s m args below meth c H locs cells slots 0 0 (F0 m pc ls st) rest (gQl D (cCell adx cyI cyO) adx 60 H.size Φ a) (gA adx 60 H.size))
    (kk : ∀ (r : Int64) (τ : St) (H1 : Heap) (locs1 : List Loc), Φ r τ → LWd D cyI cyO adx adm s H1 locs1 τ μ → W p l e R s m args below meth c H1 locs1 cells slots Q (F0 m (pc + 3) ls (.long r :: rest))) : W p l e R s m args below meth c H locs cells slots Q (F0 m pc ls st) := by
  obtain ⟨w1, w2, hd, h1, h2⟩ := wd
  obtain ⟨hK, hN, hP, hD, hS⟩ := id w1
  refine va_calll (A0 := gA adx 60 s.heap.size) hr hS (fun q _ h => gA_mono hS.1 h) (fun q h => gA_mono hS.1 h) (fun r τ t H1 locs1 ht hvm hw hB hz hk hS1 => ?_)
  obtain ⟨hP1, hD1⟩ := hB
  rw [ht] at hP1
  have w := (⟨hK, hN, hP1, gW_D hD1, hS1⟩ : gWd D (tyL cyI cyO) (cCell adx cyI cyO) adx 60 s H1 locs1 τ)
  exact kk r τ H1 locs1 hw ⟨w, gWd_other w w2 hk hd h1, hd, h1, h2⟩
theorem lwMl {Φ : Int64 → St → Prop} {a : Array Value} {st : List Value} (wd : LWd D cyI cyO adx adm s H locs σ μ) (hr : va_Run p l e R s m args below meth c H locs cells slots 0 0 (F0 m pc ls st) rest (gQl D (mCell adm cyI cyO) adm 16 H.size Φ a) (gA adm 16 H.size))
    (kk : ∀ (r : Int64) (τ : St) (H1 : Heap) (locs1 : List Loc), Φ r τ → LWd D cyI cyO adx adm s H1 locs1 σ τ → W p l e R s m args below meth c H1 locs1 cells slots Q (F0 m (pc + 3) ls (.long r :: rest))) : W p l e R s m args below meth c H locs cells slots Q (F0 m pc ls st) := by
  obtain ⟨w1, w2, hd, h1, h2⟩ := wd
  obtain ⟨hK, hN, hP, hD, hS⟩ := id w2
  refine va_calll (A0 := gA adm 16 s.heap.size) hr hS (fun q _ h => gA_mono hS.1 h) (fun q h => gA_mono hS.1 h) (fun r τ t H1 locs1 ht hvm hw hB hz hk hS1 => ?_)
  obtain ⟨hP1, hD1⟩ := hB
  rw [ht] at hP1
  have w := (⟨hK, hN, hP1, gW_D hD1, hS1⟩ : gWd D (tyL cyI cyO) (mCell adm cyI cyO) adm 16 s H1 locs1 τ)
  exact kk r τ H1 locs1 hw ⟨gWd_other w w1 hk (fun j k hj hk e => hd k j hk hj e.symm) h2, w, hd, h1, h2⟩
end LawC
theorem nk_X9_clerks : yX9_clerks.cls = RX9 ∧ nmOK yX9_clerks 1 := by decide +kernel
theorem nk_X10_clerks : yX10_clerks.cls = RX10 ∧ nmOK yX10_clerks 1 := by decide +kernel
theorem nk_X9_work : yX9_work.cls = RX9 ∧ nmOK yX9_work 2 := by decide +kernel
theorem nk_X10_work : yX10_work.cls = RX10 ∧ nmOK yX10_work 2 := by decide +kernel
theorem nk_X9_send : yX9_send.cls = RX9 ∧ nmOK yX9_send 2 := by decide +kernel
theorem nk_X10_send : yX10_send.cls = RX10 ∧ nmOK yX10_send 2 := by decide +kernel
theorem nk_X9_get : yX9_get.cls = RX9 ∧ nmOK yX9_get 2 := by decide +kernel
theorem nk_X10_get : yX10_get.cls = RX10 ∧ nmOK yX10_get 2 := by decide +kernel
theorem nk_X9_writes : yX9_writes.cls = RX9 ∧ nmOK yX9_writes 2 := by decide +kernel
theorem nk_X10_writes : yX10_writes.cls = RX10 ∧ nmOK yX10_writes 2 := by decide +kernel
theorem nk_X9_loses : yX9_loses.cls = RX9 ∧ nmOK yX9_loses 1 := by decide +kernel
theorem nk_X10_loses : yX10_loses.cls = RX10 ∧ nmOK yX10_loses 1 := by decide +kernel
theorem nk_X9_draw : yX9_draw.cls = RX9 ∧ nmOK yX9_draw 2 := by decide +kernel
theorem nk_X10_draw : yX10_draw.cls = RX10 ∧ nmOK yX10_draw 2 := by decide +kernel
theorem nk_X9_of : yX9_of.cls = RX9 ∧ nmOK yX9_of 2 := by decide +kernel
theorem nk_X10_of : yX10_of.cls = RX10 ∧ nmOK yX10_of 2 := by decide +kernel
theorem nk_X9_page : yX9_page.cls = RX9 ∧ nmOK yX9_page 4 := by decide +kernel
theorem nk_X10_page : yX10_page.cls = RX10 ∧ nmOK yX10_page 4 := by decide +kernel
theorem nk_X9_dead : yX9_dead.cls = RX9 ∧ nmOK yX9_dead 3 := by decide +kernel
theorem nk_X10_dead : yX10_dead.cls = RX10 ∧ nmOK yX10_dead 3 := by decide +kernel
theorem nk_X9_end : yX9_end.cls = RX9 ∧ nmOK yX9_end 2 := by decide +kernel
theorem nk_X10_end : yX10_end.cls = RX10 ∧ nmOK yX10_end 2 := by decide +kernel
theorem nk_X9_letter : yX9_letter.cls = RX9 ∧ nmOK yX9_letter 3 := by decide +kernel
theorem nk_X10_letter : yX10_letter.cls = RX10 ∧ nmOK yX10_letter 3 := by decide +kernel
theorem nk_X9_sweeps : yX9_sweeps.cls = RX9 ∧ nmOK yX9_sweeps 0 := by decide +kernel
theorem nk_X10_sweeps : yX10_sweeps.cls = RX10 ∧ nmOK yX10_sweeps 0 := by decide +kernel
theorem nk_X9_says : yX9_says.cls = RX9 ∧ nmOK yX9_says 1 := by decide +kernel
theorem nk_X10_says : yX10_says.cls = RX10 ∧ nmOK yX10_says 1 := by decide +kernel
theorem nk_X9_release : yX9_release.cls = RX9 ∧ nmOK yX9_release 0 := by decide +kernel
theorem nk_X10_release : yX10_release.cls = RX10 ∧ nmOK yX10_release 0 := by decide +kernel
theorem nk_X9_saying : yX9_saying.cls = RX9 ∧ nmOK yX9_saying 2 := by decide +kernel
theorem nk_X10_saying : yX10_saying.cls = RX10 ∧ nmOK yX10_saying 2 := by decide +kernel
theorem nk_X9_released : yX9_released.cls = RX9 ∧ nmOK yX9_released 1 := by decide +kernel
theorem nk_X10_released : yX10_released.cls = RX10 ∧ nmOK yX10_released 1 := by decide +kernel
theorem nk_X9_cuts : yX9_cuts.cls = RX9 ∧ nmOK yX9_cuts 1 := by decide +kernel
theorem nk_X10_cuts : yX10_cuts.cls = RX10 ∧ nmOK yX10_cuts 1 := by decide +kernel
theorem nk_X9_would : yX9_would.cls = RX9 ∧ nmOK yX9_would 2 := by decide +kernel
theorem nk_X10_would : yX10_would.cls = RX10 ∧ nmOK yX10_would 2 := by decide +kernel
theorem nk_X9_worst : yX9_worst.cls = RX9 ∧ nmOK yX9_worst 1 := by decide +kernel
theorem nk_X10_worst : yX10_worst.cls = RX10 ∧ nmOK yX10_worst 1 := by decide +kernel
theorem nk_X9_type : yX9_type.cls = RX9 ∧ nmOK yX9_type 1 := by decide +kernel
theorem nk_X10_type : yX10_type.cls = RX10 ∧ nmOK yX10_type 1 := by decide +kernel
theorem nk_X9_clear : yX9_clear.cls = RX9 ∧ nmOK yX9_clear 0 := by decide +kernel
theorem nk_X10_clear : yX10_clear.cls = RX10 ∧ nmOK yX10_clear 0 := by decide +kernel
theorem nk_X9_does : yX9_does.cls = RX9 ∧ nmOK yX9_does 0 := by decide +kernel
theorem nk_X10_does : yX10_does.cls = RX10 ∧ nmOK yX10_does 0 := by decide +kernel
theorem nk_X9_told : yX9_told.cls = RX9 ∧ nmOK yX9_told 1 := by decide +kernel
theorem nk_X10_told : yX10_told.cls = RX10 ∧ nmOK yX10_told 1 := by decide +kernel
theorem nk_X9_digest : yX9_digest.cls = RX9 ∧ nmOK yX9_digest 0 := by decide +kernel
theorem nk_X10_digest : yX10_digest.cls = RX10 ∧ nmOK yX10_digest 0 := by decide +kernel
def Sim_clerks (Rel Rel2 : St → St → Prop) : Prop := ∀ (σ μ : St) (a1 : Int32), Rel σ μ → wpX9_clerks a1 σ (fun r σ1 => wpX10_clerks a1 μ (fun q μ1 => r = q ∧ Rel2 σ1 μ1))
def Sim_work (Rel Rel2 : St → St → Prop) : Prop := ∀ (σ μ : St) (a1 : Int32) (a2 : Int32), Rel σ μ → wpX9_work a1 a2 σ (fun r σ1 => wpX10_work a1 a2 μ (fun q μ1 => r = q ∧ Rel2 σ1 μ1))
def Sim_send (Rel Rel2 : St → St → Prop) : Prop := ∀ (σ μ : St) (a1 : Int32) (a2 : Int32), Rel σ μ → wpX9_send a1 a2 σ (fun r σ1 => wpX10_send a1 a2 μ (fun q μ1 => r = q ∧ Rel2 σ1 μ1))
def Sim_get (Rel Rel2 : St → St → Prop) : Prop := ∀ (σ μ : St) (a1 : Int32) (a2 : Int32), Rel σ μ → wpX9_get a1 a2 σ (fun r σ1 => wpX10_get a1 a2 μ (fun q μ1 => r = q ∧ Rel2 σ1 μ1))
def Sim_writes (Rel Rel2 : St → St → Prop) : Prop := ∀ (σ μ : St) (a1 : Int32) (a2 : Int32), Rel σ μ → wpX9_writes a1 a2 σ (fun r σ1 => wpX10_writes a1 a2 μ (fun q μ1 => r = q ∧ Rel2 σ1 μ1))
def Sim_loses (Rel Rel2 : St → St → Prop) : Prop := ∀ (σ μ : St) (a1 : Int32), Rel σ μ → wpX9_loses a1 σ (fun r σ1 => wpX10_loses a1 μ (fun q μ1 => r = q ∧ Rel2 σ1 μ1))
def Sim_draw (Rel Rel2 : St → St → Prop) : Prop := ∀ (σ μ : St) (a1 : Int32) (a2 : Int32), Rel σ μ → wpX9_draw a1 a2 σ (fun r σ1 => wpX10_draw a1 a2 μ (fun q μ1 => r = q ∧ Rel2 σ1 μ1))
def Sim_of (Rel Rel2 : St → St → Prop) : Prop := ∀ (σ μ : St) (a1 : Int32) (a2 : Int32), Rel σ μ → wpX9_of a1 a2 σ (fun r σ1 => wpX10_of a1 a2 μ (fun q μ1 => r = q ∧ Rel2 σ1 μ1))
def Sim_page (Rel Rel2 : St → St → Prop) : Prop := ∀ (σ μ : St) (a1 : Int32) (a2 : Int32) (a3 : Int32) (a4 : Int32), Rel σ μ → wpX9_page a1 a2 a3 a4 σ (fun r σ1 => wpX10_page a1 a2 a3 a4 μ (fun q μ1 => r = q ∧ Rel2 σ1 μ1))
def Sim_dead (Rel Rel2 : St → St → Prop) : Prop := ∀ (σ μ : St) (a1 : Int32) (a2 : Int32) (a3 : Int32), Rel σ μ → wpX9_dead a1 a2 a3 σ (fun r σ1 => wpX10_dead a1 a2 a3 μ (fun q μ1 => r = q ∧ Rel2 σ1 μ1))
def Sim_end (Rel Rel2 : St → St → Prop) : Prop := ∀ (σ μ : St) (a1 : Int32) (a2 : Int32), Rel σ μ → wpX9_end a1 a2 σ (fun r σ1 => wpX10_end a1 a2 μ (fun q μ1 => r = q ∧ Rel2 σ1 μ1))
def Sim_letter (Rel Rel2 : St → St → Prop) : Prop := ∀ (σ μ : St) (a1 : Int32) (a2 : Int32) (a3 : Int32), Rel σ μ → wpX9_letter a1 a2 a3 σ (fun r σ1 => wpX10_letter a1 a2 a3 μ (fun q μ1 => r = q ∧ Rel2 σ1 μ1))
def Sim_sweeps (Rel Rel2 : St → St → Prop) : Prop := ∀ (σ μ : St), Rel σ μ → wpX9_sweeps σ (fun r σ1 => wpX10_sweeps μ (fun q μ1 => r = q ∧ Rel2 σ1 μ1))
def Sim_says (Rel Rel2 : St → St → Prop) : Prop := ∀ (σ μ : St) (a1 : Int32), Rel σ μ → wpX9_says a1 σ (fun r σ1 => wpX10_says a1 μ (fun q μ1 => r = q ∧ Rel2 σ1 μ1))
def Sim_release (Rel Rel2 : St → St → Prop) : Prop := ∀ (σ μ : St), Rel σ μ → wpX9_release σ (fun r σ1 => wpX10_release μ (fun q μ1 => r = q ∧ Rel2 σ1 μ1))
def Sim_saying (Rel Rel2 : St → St → Prop) : Prop := ∀ (σ μ : St) (a1 : Int32) (a2 : Int32), Rel σ μ → wpX9_saying a1 a2 σ (fun r σ1 => wpX10_saying a1 a2 μ (fun q μ1 => r = q ∧ Rel2 σ1 μ1))
def Sim_released (Rel Rel2 : St → St → Prop) : Prop := ∀ (σ μ : St) (a1 : Int32), Rel σ μ → wpX9_released a1 σ (fun r σ1 => wpX10_released a1 μ (fun q μ1 => r = q ∧ Rel2 σ1 μ1))
def Sim_cuts (Rel Rel2 : St → St → Prop) : Prop := ∀ (σ μ : St) (a1 : Int32), Rel σ μ → wpX9_cuts a1 σ (fun r σ1 => wpX10_cuts a1 μ (fun q μ1 => r = q ∧ Rel2 σ1 μ1))
def Sim_would (Rel Rel2 : St → St → Prop) : Prop := ∀ (σ μ : St) (a1 : Int32) (a2 : Int32), Rel σ μ → wpX9_would a1 a2 σ (fun r σ1 => wpX10_would a1 a2 μ (fun q μ1 => r = q ∧ Rel2 σ1 μ1))
def Sim_worst (Rel Rel2 : St → St → Prop) : Prop := ∀ (σ μ : St) (a1 : Int32), Rel σ μ → wpX9_worst a1 σ (fun r σ1 => wpX10_worst a1 μ (fun q μ1 => r = q ∧ Rel2 σ1 μ1))
def Sim_type (Rel Rel2 : St → St → Prop) : Prop := ∀ (σ μ : St) (a1 : Int32), Rel σ μ → wpX9_type a1 σ (fun r σ1 => wpX10_type a1 μ (fun q μ1 => r = q ∧ Rel2 σ1 μ1))
def Sim_clear (Rel Rel2 : St → St → Prop) : Prop := ∀ (σ μ : St), Rel σ μ → wpX9_clear σ (fun r σ1 => wpX10_clear μ (fun q μ1 => r = q ∧ Rel2 σ1 μ1))
def Sim_does (Rel Rel2 : St → St → Prop) : Prop := ∀ (σ μ : St), Rel σ μ → wpX9_does σ (fun r σ1 => wpX10_does μ (fun q μ1 => r = q ∧ Rel2 σ1 μ1))
def Sim_told (Rel Rel2 : St → St → Prop) : Prop := ∀ (σ μ : St) (a1 : Int32), Rel σ μ → wpX9_told a1 σ (fun r σ1 => wpX10_told a1 μ (fun q μ1 => r = q ∧ Rel2 σ1 μ1))
def Sim_digest (Rel Rel2 : St → St → Prop) : Prop := ∀ (σ μ : St), Rel σ μ → wpX9_digest σ (fun r σ1 => wpX10_digest μ (fun q μ1 => r = q ∧ Rel2 σ1 μ1))
theorem gdl_13 : GoodIn gT (wsV RL 13 RX9 yX9_clerks (wsOf yX9_clerks cX9_clerks 3 (some .int))) := gdV tw2_55 tw2_56 tw2_57 tw1_1 tw2_58
theorem gdl_17 : GoodIn gT (wsV RL 17 RX10 yX10_clerks (wsOf yX10_clerks cX10_clerks 3 (some .int))) := gdV tw4_105 tw4_106 tw4_107 tw1_12 tw4_108
set_option maxHeartbeats 4000000 in
set_option maxRecDepth 100000 in
theorem lc_clerks {D : va_G} {cyI cyO : ClassId} {adx adm : Nat → Nat} {p : Program} {l : Launch} {e : Env} {s : State} {m : MethodId} {below : List Frame} {meth : Method} {c : Code} {b L : Nat} {xs : Nat → Int32} (C : Cx p s m #[Value.ref b] meth c code 4 ret RL) (hX : va_X b L xs s s.heap) (hbl : b < s.heap.size) {Q : State → Prop} {Rel Rel2 : St → St → Prop} (hsim : Sim_clerks Rel Rel2) {x3 : Int32} {σ μ : St} {H : Heap} {locs : List Loc} {ls : Array Slot} (hR : Rel σ μ) (wd : LWd D cyI cyO adx adm s H locs σ μ) (hbA : ¬ gA adx 60 s.heap.size b) (hl : lv_has ls 4 [(0, .ref b), (1, .ref (adx 56)), (2, .ref (adm 0)), (3, .int x3)]) (hi1 : vp_in (x3 + (1 : Int32)) L) (hi2 : vp_in (x3 + (2 : Int32)) L) (hi3 : vp_in (x3 + (3 : Int32)) L) (hi4 : vp_in (x3 + (4 : Int32)) L) (kk : ∀ (σ μ : St) (H : Heap) (locs : List Loc) (ls : Array Slot), Rel2 σ μ → LWd D cyI cyO adx adm s H locs σ μ → lv_has ls 4 [(0, .ref b), (1, .ref (adx 56)), (2, .ref (adm 0)), (3, .int x3)] → W p l e room_1 s m #[Value.ref b] below meth c H locs 600000 7302250 Q (F0 m 834 ls [])) : W p l e room_1 s m #[Value.ref b] below meth c H locs 600000 7302250 Q (F0 m 148 ls []) := by
  obtain ⟨hx, hb, hr, hml, hown, hts, hlk⟩ := id C
  have h := hsim σ μ (xs (x3 + (1 : Int32)).toNatClampNeg) hR
  refine lv_aload_n hx hb dL_law_148 rfl (lv_at hl 1 rfl) ?_
  refine lv_aload_n hx hb dL_law_149 rfl (lv_at hl 0 rfl) ?_
  refine lv_iload_n hx hb dL_law_150 rfl (lv_at hl 3 rfl) ?_
  refine lv_iconst (v := (1 : Int32)) hx hb dL_law_151 (by decide) ?_
  refine lv_iadd hx hb dL_law_152 ?_
  refine va_sld hx hb hX hbl hbA wd.1.2.2.2.2 hi1 dL_law_153 ?_
  refine lwXi wd (gRunVq (y := yX9_clerks) (k := 56) (As := [.int (xs (x3 + (1 : Int32)).toNatClampNeg)]) (rest := []) C wd.1 (cmX9_clerks (Nat.le_refl 60) h) ⟨rfl, rfl⟩ gdl_13 nk_X9_clerks ⟨Nat.le_of_ble_eq_true rfl, Nat.le_of_ble_eq_true rfl⟩ (by decide) cc_X9 rfl rfl hl.1 (Nat.le_of_ble_eq_true rfl) dL_law_154 rfl ⟨Nat.le_of_ble_eq_true rfl, Nat.le_of_ble_eq_true rfl⟩) (fun r1 σ H locs h wd => ?_)
  try dsimp only at h
  refine lv_aload_n hx hb dL_law_157 rfl (lv_at hl 2 rfl) ?_
  refine lv_aload_n hx hb dL_law_158 rfl (lv_at hl 0 rfl) ?_
  refine lv_iload_n hx hb dL_law_159 rfl (lv_at hl 3 rfl) ?_
  refine lv_iconst (v := (1 : Int32)) hx hb dL_law_160 (by decide) ?_
  refine lv_iadd hx hb dL_law_161 ?_
  refine va_sld hx hb hX hbl hbA wd.1.2.2.2.2 hi1 dL_law_162 ?_
  refine lwMi wd (gRunVq (y := yX10_clerks) (k := 0) (As := [.int (xs (x3 + (1 : Int32)).toNatClampNeg)]) (rest := [.int r1]) C wd.2.1 (cmX10_clerks h) ⟨rfl, rfl⟩ gdl_17 nk_X10_clerks ⟨Nat.le_of_ble_eq_true rfl, Nat.le_of_ble_eq_true rfl⟩ (by decide) mc_X10 rfl rfl hl.1 (Nat.le_of_ble_eq_true rfl) dL_law_163 rfl ⟨Nat.le_of_ble_eq_true rfl, Nat.le_of_ble_eq_true rfl⟩) (fun r2 μ H locs h wd => ?_)
  try dsimp only at h
  refine lv_icmp_eq (tgt := 834) hx hb dL_law_166 (by decide) (fun c1 => ?_) (fun c1 => ?_)
  · exact kk _ _ _ _ _ h.2 wd hl
  · exact absurd h.1 c1
theorem gdl_18 : GoodIn gT (wsV RL 18 RX9 yX9_work (wsOf yX9_work cX9_work 4 (some .int))) := gdV tw2_67 tw2_68 tw2_69 tw1_1 tw2_70
theorem gdl_22 : GoodIn gT (wsV RL 22 RX10 yX10_work (wsOf yX10_work cX10_work 3 (some .int))) := gdV tw4_128 tw4_129 tw4_130 tw1_12 tw4_131
set_option maxHeartbeats 4000000 in
set_option maxRecDepth 100000 in
theorem lc_work {D : va_G} {cyI cyO : ClassId} {adx adm : Nat → Nat} {p : Program} {l : Launch} {e : Env} {s : State} {m : MethodId} {below : List Frame} {meth : Method} {c : Code} {b L : Nat} {xs : Nat → Int32} (C : Cx p s m #[Value.ref b] meth c code 4 ret RL) (hX : va_X b L xs s s.heap) (hbl : b < s.heap.size) {Q : State → Prop} {Rel Rel2 : St → St → Prop} (hsim : Sim_work Rel Rel2) {x3 : Int32} {σ μ : St} {H : Heap} {locs : List Loc} {ls : Array Slot} (hR : Rel σ μ) (wd : LWd D cyI cyO adx adm s H locs σ μ) (hbA : ¬ gA adx 60 s.heap.size b) (hl : lv_has ls 4 [(0, .ref b), (1, .ref (adx 56)), (2, .ref (adm 0)), (3, .int x3)]) (hi1 : vp_in (x3 + (1 : Int32)) L) (hi2 : vp_in (x3 + (2 : Int32)) L) (hi3 : vp_in (x3 + (3 : Int32)) L) (hi4 : vp_in (x3 + (4 : Int32)) L) (kk : ∀ (σ μ : St) (H : Heap) (locs : List Loc) (ls : Array Slot), Rel2 σ μ → LWd D cyI cyO adx adm s H locs σ μ → lv_has ls 4 [(0, .ref b), (1, .ref (adx 56)), (2, .ref (adm 0)), (3, .int x3)] → W p l e room_1 s m #[Value.ref b] below meth c H locs 600000 7302250 Q (F0 m 834 ls [])) : W p l e room_1 s m #[Value.ref b] below meth c H locs 600000 7302250 Q (F0 m 171 ls []) := by
  obtain ⟨hx, hb, hr, hml, hown, hts, hlk⟩ := id C
  have h := hsim σ μ (xs (x3 + (1 : Int32)).toNatClampNeg) (xs (x3 + (2 : Int32)).toNatClampNeg) hR
  refine lv_aload_n hx hb dL_law_171 rfl (lv_at hl 1 rfl) ?_
  refine lv_aload_n hx hb dL_law_172 rfl (lv_at hl 0 rfl) ?_
  refine lv_iload_n hx hb dL_law_173 rfl (lv_at hl 3 rfl) ?_
  refine lv_iconst (v := (1 : Int32)) hx hb dL_law_174 (by decide) ?_
  refine lv_iadd hx hb dL_law_175 ?_
  refine va_sld hx hb hX hbl hbA wd.1.2.2.2.2 hi1 dL_law_176 ?_
  refine lv_aload_n hx hb dL_law_177 rfl (lv_at hl 0 rfl) ?_
  refine lv_iload_n hx hb dL_law_178 rfl (lv_at hl 3 rfl) ?_
  refine lv_iconst (v := (2 : Int32)) hx hb dL_law_179 (by decide) ?_
  refine lv_iadd hx hb dL_law_180 ?_
  refine va_sld hx hb hX hbl hbA wd.1.2.2.2.2 hi2 dL_law_181 ?_
  refine lwXi wd (gRunVq (y := yX9_work) (k := 56) (As := [.int (xs (x3 + (1 : Int32)).toNatClampNeg), .int (xs (x3 + (2 : Int32)).toNatClampNeg)]) (rest := []) C wd.1 (cmX9_work (Nat.le_refl 60) h) ⟨rfl, rfl⟩ gdl_18 nk_X9_work ⟨Nat.le_of_ble_eq_true rfl, Nat.le_of_ble_eq_true rfl⟩ (by decide) cc_X9 rfl rfl hl.1 (Nat.le_of_ble_eq_true rfl) dL_law_182 rfl ⟨Nat.le_of_ble_eq_true rfl, Nat.le_of_ble_eq_true rfl⟩) (fun r1 σ H locs h wd => ?_)
  try dsimp only at h
  refine lv_aload_n hx hb dL_law_185 rfl (lv_at hl 2 rfl) ?_
  refine lv_aload_n hx hb dL_law_186 rfl (lv_at hl 0 rfl) ?_
  refine lv_iload_n hx hb dL_law_187 rfl (lv_at hl 3 rfl) ?_
  refine lv_iconst (v := (1 : Int32)) hx hb dL_law_188 (by decide) ?_
  refine lv_iadd hx hb dL_law_189 ?_
  refine va_sld hx hb hX hbl hbA wd.1.2.2.2.2 hi1 dL_law_190 ?_
  refine lv_aload_n hx hb dL_law_191 rfl (lv_at hl 0 rfl) ?_
  refine lv_iload_n hx hb dL_law_192 rfl (lv_at hl 3 rfl) ?_
  refine lv_iconst (v := (2 : Int32)) hx hb dL_law_193 (by decide) ?_
  refine lv_iadd hx hb dL_law_194 ?_
  refine va_sld hx hb hX hbl hbA wd.1.2.2.2.2 hi2 dL_law_195 ?_
  refine lwMi wd (gRunVq (y := yX10_work) (k := 0) (As := [.int (xs (x3 + (1 : Int32)).toNatClampNeg), .int (xs (x3 + (2 : Int32)).toNatClampNeg)]) (rest := [.int r1]) C wd.2.1 (cmX10_work h) ⟨rfl, rfl⟩ gdl_22 nk_X10_work ⟨Nat.le_of_ble_eq_true rfl, Nat.le_of_ble_eq_true rfl⟩ (by decide) mc_X10 rfl rfl hl.1 (Nat.le_of_ble_eq_true rfl) dL_law_196 rfl ⟨Nat.le_of_ble_eq_true rfl, Nat.le_of_ble_eq_true rfl⟩) (fun r2 μ H locs h wd => ?_)
  try dsimp only at h
  refine lv_icmp_eq (tgt := 834) hx hb dL_law_199 (by decide) (fun c1 => ?_) (fun c1 => ?_)
  · exact kk _ _ _ _ _ h.2 wd hl
  · exact absurd h.1 c1
theorem gdl_23 : GoodIn gT (wsV RL 23 RX9 yX9_send (wsOf yX9_send cX9_send 4 (some .int))) := gdV tw2_113 tw2_114 tw2_115 tw1_1 tw2_116
theorem gdl_26 : GoodIn gT (wsV RL 26 RX10 yX10_send (wsOf yX10_send cX10_send 3 (some .int))) := gdV tw4_147 tw4_148 tw4_149 tw1_12 tw4_150
set_option maxHeartbeats 4000000 in
set_option maxRecDepth 100000 in
theorem lc_send {D : va_G} {cyI cyO : ClassId} {adx adm : Nat → Nat} {p : Program} {l : Launch} {e : Env} {s : State} {m : MethodId} {below : List Frame} {meth : Method} {c : Code} {b L : Nat} {xs : Nat → Int32} (C : Cx p s m #[Value.ref b] meth c code 4 ret RL) (hX : va_X b L xs s s.heap) (hbl : b < s.heap.size) {Q : State → Prop} {Rel Rel2 : St → St → Prop} (hsim : Sim_send Rel Rel2) {x3 : Int32} {σ μ : St} {H : Heap} {locs : List Loc} {ls : Array Slot} (hR : Rel σ μ) (wd : LWd D cyI cyO adx adm s H locs σ μ) (hbA : ¬ gA adx 60 s.heap.size b) (hl : lv_has ls 4 [(0, .ref b), (1, .ref (adx 56)), (2, .ref (adm 0)), (3, .int x3)]) (hi1 : vp_in (x3 + (1 : Int32)) L) (hi2 : vp_in (x3 + (2 : Int32)) L) (hi3 : vp_in (x3 + (3 : Int32)) L) (hi4 : vp_in (x3 + (4 : Int32)) L) (kk : ∀ (σ μ : St) (H : Heap) (locs : List Loc) (ls : Array Slot), Rel2 σ μ → LWd D cyI cyO adx adm s H locs σ μ → lv_has ls 4 [(0, .ref b), (1, .ref (adx 56)), (2, .ref (adm 0)), (3, .int x3)] → W p l e room_1 s m #[Value.ref b] below meth c H locs 600000 7302250 Q (F0 m 834 ls [])) : W p l e room_1 s m #[Value.ref b] below meth c H locs 600000 7302250 Q (F0 m 204 ls []) := by
  obtain ⟨hx, hb, hr, hml, hown, hts, hlk⟩ := id C
  have h := hsim σ μ (xs (x3 + (1 : Int32)).toNatClampNeg) (xs (x3 + (2 : Int32)).toNatClampNeg) hR
  refine lv_aload_n hx hb dL_law_204 rfl (lv_at hl 1 rfl) ?_
  refine lv_aload_n hx hb dL_law_205 rfl (lv_at hl 0 rfl) ?_
  refine lv_iload_n hx hb dL_law_206 rfl (lv_at hl 3 rfl) ?_
  refine lv_iconst (v := (1 : Int32)) hx hb dL_law_207 (by decide) ?_
  refine lv_iadd hx hb dL_law_208 ?_
  refine va_sld hx hb hX hbl hbA wd.1.2.2.2.2 hi1 dL_law_209 ?_
  refine lv_aload_n hx hb dL_law_210 rfl (lv_at hl 0 rfl) ?_
  refine lv_iload_n hx hb dL_law_211 rfl (lv_at hl 3 rfl) ?_
  refine lv_iconst (v := (2 : Int32)) hx hb dL_law_212 (by decide) ?_
  refine lv_iadd hx hb dL_law_213 ?_
  refine va_sld hx hb hX hbl hbA wd.1.2.2.2.2 hi2 dL_law_214 ?_
  refine lwXi wd (gRunVq (y := yX9_send) (k := 56) (As := [.int (xs (x3 + (1 : Int32)).toNatClampNeg), .int (xs (x3 + (2 : Int32)).toNatClampNeg)]) (rest := []) C wd.1 (cmX9_send (Nat.le_refl 60) h) ⟨rfl, rfl⟩ gdl_23 nk_X9_send ⟨Nat.le_of_ble_eq_true rfl, Nat.le_of_ble_eq_true rfl⟩ (by decide) cc_X9 rfl rfl hl.1 (Nat.le_of_ble_eq_true rfl) dL_law_215 rfl ⟨Nat.le_of_ble_eq_true rfl, Nat.le_of_ble_eq_true rfl⟩) (fun r1 σ H locs h wd => ?_)
  try dsimp only at h
  refine lv_aload_n hx hb dL_law_218 rfl (lv_at hl 2 rfl) ?_
  refine lv_aload_n hx hb dL_law_219 rfl (lv_at hl 0 rfl) ?_
  refine lv_iload_n hx hb dL_law_220 rfl (lv_at hl 3 rfl) ?_
  refine lv_iconst (v := (1 : Int32)) hx hb dL_law_221 (by decide) ?_
  refine lv_iadd hx hb dL_law_222 ?_
  refine va_sld hx hb hX hbl hbA wd.1.2.2.2.2 hi1 dL_law_223 ?_
  refine lv_aload_n hx hb dL_law_224 rfl (lv_at hl 0 rfl) ?_
  refine lv_iload_n hx hb dL_law_225 rfl (lv_at hl 3 rfl) ?_
  refine lv_iconst (v := (2 : Int32)) hx hb dL_law_226 (by decide) ?_
  refine lv_iadd hx hb dL_law_227 ?_
  refine va_sld hx hb hX hbl hbA wd.1.2.2.2.2 hi2 dL_law_228 ?_
  refine lwMi wd (gRunVq (y := yX10_send) (k := 0) (As := [.int (xs (x3 + (1 : Int32)).toNatClampNeg), .int (xs (x3 + (2 : Int32)).toNatClampNeg)]) (rest := [.int r1]) C wd.2.1 (cmX10_send h) ⟨rfl, rfl⟩ gdl_26 nk_X10_send ⟨Nat.le_of_ble_eq_true rfl, Nat.le_of_ble_eq_true rfl⟩ (by decide) mc_X10 rfl rfl hl.1 (Nat.le_of_ble_eq_true rfl) dL_law_229 rfl ⟨Nat.le_of_ble_eq_true rfl, Nat.le_of_ble_eq_true rfl⟩) (fun r2 μ H locs h wd => ?_)
  try dsimp only at h
  refine lv_icmp_eq (tgt := 834) hx hb dL_law_232 (by decide) (fun c1 => ?_) (fun c1 => ?_)
  · exact kk _ _ _ _ _ h.2 wd hl
  · exact absurd h.1 c1
theorem gdl_27 : GoodIn gT (wsV RL 27 RX9 yX9_get (wsOf yX9_get cX9_get 4 (some .int))) := gdV tw2_131 tw2_132 tw2_133 tw1_1 tw2_134
theorem gdl_30 : GoodIn gT (wsV RL 30 RX10 yX10_get (wsOf yX10_get cX10_get 4 (some .int))) := gdV tw4_155 tw4_156 tw4_157 tw1_12 tw4_158
set_option maxHeartbeats 4000000 in
set_option maxRecDepth 100000 in
theorem lc_get {D : va_G} {cyI cyO : ClassId} {adx adm : Nat → Nat} {p : Program} {l : Launch} {e : Env} {s : State} {m : MethodId} {below : List Frame} {meth : Method} {c : Code} {b L : Nat} {xs : Nat → Int32} (C : Cx p s m #[Value.ref b] meth c code 4 ret RL) (hX : va_X b L xs s s.heap) (hbl : b < s.heap.size) {Q : State → Prop} {Rel Rel2 : St → St → Prop} (hsim : Sim_get Rel Rel2) {x3 : Int32} {σ μ : St} {H : Heap} {locs : List Loc} {ls : Array Slot} (hR : Rel σ μ) (wd : LWd D cyI cyO adx adm s H locs σ μ) (hbA : ¬ gA adx 60 s.heap.size b) (hl : lv_has ls 4 [(0, .ref b), (1, .ref (adx 56)), (2, .ref (adm 0)), (3, .int x3)]) (hi1 : vp_in (x3 + (1 : Int32)) L) (hi2 : vp_in (x3 + (2 : Int32)) L) (hi3 : vp_in (x3 + (3 : Int32)) L) (hi4 : vp_in (x3 + (4 : Int32)) L) (kk : ∀ (σ μ : St) (H : Heap) (locs : List Loc) (ls : Array Slot), Rel2 σ μ → LWd D cyI cyO adx adm s H locs σ μ → lv_has ls 4 [(0, .ref b), (1, .ref (adx 56)), (2, .ref (adm 0)), (3, .int x3)] → W p l e room_1 s m #[Value.ref b] below meth c H locs 600000 7302250 Q (F0 m 834 ls [])) : W p l e room_1 s m #[Value.ref b] below meth c H locs 600000 7302250 Q (F0 m 237 ls []) := by
  obtain ⟨hx, hb, hr, hml, hown, hts, hlk⟩ := id C
  have h := hsim σ μ (xs (x3 + (1 : Int32)).toNatClampNeg) (xs (x3 + (2 : Int32)).toNatClampNeg) hR
  refine lv_aload_n hx hb dL_law_237 rfl (lv_at hl 1 rfl) ?_
  refine lv_aload_n hx hb dL_law_238 rfl (lv_at hl 0 rfl) ?_
  refine lv_iload_n hx hb dL_law_239 rfl (lv_at hl 3 rfl) ?_
  refine lv_iconst (v := (1 : Int32)) hx hb dL_law_240 (by decide) ?_
  refine lv_iadd hx hb dL_law_241 ?_
  refine va_sld hx hb hX hbl hbA wd.1.2.2.2.2 hi1 dL_law_242 ?_
  refine lv_aload_n hx hb dL_law_243 rfl (lv_at hl 0 rfl) ?_
  refine lv_iload_n hx hb dL_law_244 rfl (lv_at hl 3 rfl) ?_
  refine lv_iconst (v := (2 : Int32)) hx hb dL_law_245 (by decide) ?_
  refine lv_iadd hx hb dL_law_246 ?_
  refine va_sld hx hb hX hbl hbA wd.1.2.2.2.2 hi2 dL_law_247 ?_
  refine lwXi wd (gRunVq (y := yX9_get) (k := 56) (As := [.int (xs (x3 + (1 : Int32)).toNatClampNeg), .int (xs (x3 + (2 : Int32)).toNatClampNeg)]) (rest := []) C wd.1 (cmX9_get (Nat.le_refl 60) h) ⟨rfl, rfl⟩ gdl_27 nk_X9_get ⟨Nat.le_of_ble_eq_true rfl, Nat.le_of_ble_eq_true rfl⟩ (by decide) cc_X9 rfl rfl hl.1 (Nat.le_of_ble_eq_true rfl) dL_law_248 rfl ⟨Nat.le_of_ble_eq_true rfl, Nat.le_of_ble_eq_true rfl⟩) (fun r1 σ H locs h wd => ?_)
  try dsimp only at h
  refine lv_aload_n hx hb dL_law_251 rfl (lv_at hl 2 rfl) ?_
  refine lv_aload_n hx hb dL_law_252 rfl (lv_at hl 0 rfl) ?_
  refine lv_iload_n hx hb dL_law_253 rfl (lv_at hl 3 rfl) ?_
  refine lv_iconst (v := (1 : Int32)) hx hb dL_law_254 (by decide) ?_
  refine lv_iadd hx hb dL_law_255 ?_
  refine va_sld hx hb hX hbl hbA wd.1.2.2.2.2 hi1 dL_law_256 ?_
  refine lv_aload_n hx hb dL_law_257 rfl (lv_at hl 0 rfl) ?_
  refine lv_iload_n hx hb dL_law_258 rfl (lv_at hl 3 rfl) ?_
  refine lv_iconst (v := (2 : Int32)) hx hb dL_law_259 (by decide) ?_
  refine lv_iadd hx hb dL_law_260 ?_
  refine va_sld hx hb hX hbl hbA wd.1.2.2.2.2 hi2 dL_law_261 ?_
  refine lwMi wd (gRunVq (y := yX10_get) (k := 0) (As := [.int (xs (x3 + (1 : Int32)).toNatClampNeg), .int (xs (x3 + (2 : Int32)).toNatClampNeg)]) (rest := [.int r1]) C wd.2.1 (cmX10_get h) ⟨rfl, rfl⟩ gdl_30 nk_X10_get ⟨Nat.le_of_ble_eq_true rfl, Nat.le_of_ble_eq_true rfl⟩ (by decide) mc_X10 rfl rfl hl.1 (Nat.le_of_ble_eq_true rfl) dL_law_262 rfl ⟨Nat.le_of_ble_eq_true rfl, Nat.le_of_ble_eq_true rfl⟩) (fun r2 μ H locs h wd => ?_)
  try dsimp only at h
  refine lv_icmp_eq (tgt := 834) hx hb dL_law_265 (by decide) (fun c1 => ?_) (fun c1 => ?_)
  · exact kk _ _ _ _ _ h.2 wd hl
  · exact absurd h.1 c1
theorem gdl_31 : GoodIn gT (wsV RL 31 RX9 yX9_writes (wsOf yX9_writes cX9_writes 4 (some .int))) := gdV tw2_170 tw2_171 tw2_172 tw1_1 tw2_173
theorem gdl_34 : GoodIn gT (wsV RL 34 RX10 yX10_writes (wsOf yX10_writes cX10_writes 3 (some .int))) := gdV tw4_179 tw4_180 tw4_181 tw1_12 tw4_182
set_option maxHeartbeats 4000000 in
set_option maxRecDepth 100000 in
theorem lc_writes {D : va_G} {cyI cyO : ClassId} {adx adm : Nat → Nat} {p : Program} {l : Launch} {e : Env} {s : State} {m : MethodId} {below : List Frame} {meth : Method} {c : Code} {b L : Nat} {xs : Nat → Int32} (C : Cx p s m #[Value.ref b] meth c code 4 ret RL) (hX : va_X b L xs s s.heap) (hbl : b < s.heap.size) {Q : State → Prop} {Rel Rel2 : St → St → Prop} (hsim : Sim_writes Rel Rel2) {x3 : Int32} {σ μ : St} {H : Heap} {locs : List Loc} {ls : Array Slot} (hR : Rel σ μ) (wd : LWd D cyI cyO adx adm s H locs σ μ) (hbA : ¬ gA adx 60 s.heap.size b) (hl : lv_has ls 4 [(0, .ref b), (1, .ref (adx 56)), (2, .ref (adm 0)), (3, .int x3)]) (hi1 : vp_in (x3 + (1 : Int32)) L) (hi2 : vp_in (x3 + (2 : Int32)) L) (hi3 : vp_in (x3 + (3 : Int32)) L) (hi4 : vp_in (x3 + (4 : Int32)) L) (kk : ∀ (σ μ : St) (H : Heap) (locs : List Loc) (ls : Array Slot), Rel2 σ μ → LWd D cyI cyO adx adm s H locs σ μ → lv_has ls 4 [(0, .ref b), (1, .ref (adx 56)), (2, .ref (adm 0)), (3, .int x3)] → W p l e room_1 s m #[Value.ref b] below meth c H locs 600000 7302250 Q (F0 m 834 ls [])) : W p l e room_1 s m #[Value.ref b] below meth c H locs 600000 7302250 Q (F0 m 270 ls []) := by
  obtain ⟨hx, hb, hr, hml, hown, hts, hlk⟩ := id C
  have h := hsim σ μ (xs (x3 + (1 : Int32)).toNatClampNeg) (xs (x3 + (2 : Int32)).toNatClampNeg) hR
  refine lv_aload_n hx hb dL_law_270 rfl (lv_at hl 1 rfl) ?_
  refine lv_aload_n hx hb dL_law_271 rfl (lv_at hl 0 rfl) ?_
  refine lv_iload_n hx hb dL_law_272 rfl (lv_at hl 3 rfl) ?_
  refine lv_iconst (v := (1 : Int32)) hx hb dL_law_273 (by decide) ?_
  refine lv_iadd hx hb dL_law_274 ?_
  refine va_sld hx hb hX hbl hbA wd.1.2.2.2.2 hi1 dL_law_275 ?_
  refine lv_aload_n hx hb dL_law_276 rfl (lv_at hl 0 rfl) ?_
  refine lv_iload_n hx hb dL_law_277 rfl (lv_at hl 3 rfl) ?_
  refine lv_iconst (v := (2 : Int32)) hx hb dL_law_278 (by decide) ?_
  refine lv_iadd hx hb dL_law_279 ?_
  refine va_sld hx hb hX hbl hbA wd.1.2.2.2.2 hi2 dL_law_280 ?_
  refine lwXi wd (gRunVq (y := yX9_writes) (k := 56) (As := [.int (xs (x3 + (1 : Int32)).toNatClampNeg), .int (xs (x3 + (2 : Int32)).toNatClampNeg)]) (rest := []) C wd.1 (cmX9_writes (Nat.le_refl 60) h) ⟨rfl, rfl⟩ gdl_31 nk_X9_writes ⟨Nat.le_of_ble_eq_true rfl, Nat.le_of_ble_eq_true rfl⟩ (by decide) cc_X9 rfl rfl hl.1 (Nat.le_of_ble_eq_true rfl) dL_law_281 rfl ⟨Nat.le_of_ble_eq_true rfl, Nat.le_of_ble_eq_true rfl⟩) (fun r1 σ H locs h wd => ?_)
  try dsimp only at h
  refine lv_aload_n hx hb dL_law_284 rfl (lv_at hl 2 rfl) ?_
  refine lv_aload_n hx hb dL_law_285 rfl (lv_at hl 0 rfl) ?_
  refine lv_iload_n hx hb dL_law_286 rfl (lv_at hl 3 rfl) ?_
  refine lv_iconst (v := (1 : Int32)) hx hb dL_law_287 (by decide) ?_
  refine lv_iadd hx hb dL_law_288 ?_
  refine va_sld hx hb hX hbl hbA wd.1.2.2.2.2 hi1 dL_law_289 ?_
  refine lv_aload_n hx hb dL_law_290 rfl (lv_at hl 0 rfl) ?_
  refine lv_iload_n hx hb dL_law_291 rfl (lv_at hl 3 rfl) ?_
  refine lv_iconst (v := (2 : Int32)) hx hb dL_law_292 (by decide) ?_
  refine lv_iadd hx hb dL_law_293 ?_
  refine va_sld hx hb hX hbl hbA wd.1.2.2.2.2 hi2 dL_law_294 ?_
  refine lwMi wd (gRunVq (y := yX10_writes) (k := 0) (As := [.int (xs (x3 + (1 : Int32)).toNatClampNeg), .int (xs (x3 + (2 : Int32)).toNatClampNeg)]) (rest := [.int r1]) C wd.2.1 (cmX10_writes h) ⟨rfl, rfl⟩ gdl_34 nk_X10_writes ⟨Nat.le_of_ble_eq_true rfl, Nat.le_of_ble_eq_true rfl⟩ (by decide) mc_X10 rfl rfl hl.1 (Nat.le_of_ble_eq_true rfl) dL_law_295 rfl ⟨Nat.le_of_ble_eq_true rfl, Nat.le_of_ble_eq_true rfl⟩) (fun r2 μ H locs h wd => ?_)
  try dsimp only at h
  refine lv_icmp_eq (tgt := 834) hx hb dL_law_298 (by decide) (fun c1 => ?_) (fun c1 => ?_)
  · exact kk _ _ _ _ _ h.2 wd hl
  · exact absurd h.1 c1
theorem gdl_35 : GoodIn gT (wsV RL 35 RX9 yX9_loses (wsOf yX9_loses cX9_loses 2 (some .int))) := gdV tw2_183 tw2_184 tw2_185 tw1_1 tw2_186
theorem gdl_38 : GoodIn gT (wsV RL 38 RX10 yX10_loses (wsOf yX10_loses cX10_loses 2 (some .int))) := gdV tw4_188 tw4_189 tw4_190 tw1_12 tw4_191
set_option maxHeartbeats 4000000 in
set_option maxRecDepth 100000 in
theorem lc_loses {D : va_G} {cyI cyO : ClassId} {adx adm : Nat → Nat} {p : Program} {l : Launch} {e : Env} {s : State} {m : MethodId} {below : List Frame} {meth : Method} {c : Code} {b L : Nat} {xs : Nat → Int32} (C : Cx p s m #[Value.ref b] meth c code 4 ret RL) (hX : va_X b L xs s s.heap) (hbl : b < s.heap.size) {Q : State → Prop} {Rel Rel2 : St → St → Prop} (hsim : Sim_loses Rel Rel2) {x3 : Int32} {σ μ : St} {H : Heap} {locs : List Loc} {ls : Array Slot} (hR : Rel σ μ) (wd : LWd D cyI cyO adx adm s H locs σ μ) (hbA : ¬ gA adx 60 s.heap.size b) (hl : lv_has ls 4 [(0, .ref b), (1, .ref (adx 56)), (2, .ref (adm 0)), (3, .int x3)]) (hi1 : vp_in (x3 + (1 : Int32)) L) (hi2 : vp_in (x3 + (2 : Int32)) L) (hi3 : vp_in (x3 + (3 : Int32)) L) (hi4 : vp_in (x3 + (4 : Int32)) L) (kk : ∀ (σ μ : St) (H : Heap) (locs : List Loc) (ls : Array Slot), Rel2 σ μ → LWd D cyI cyO adx adm s H locs σ μ → lv_has ls 4 [(0, .ref b), (1, .ref (adx 56)), (2, .ref (adm 0)), (3, .int x3)] → W p l e room_1 s m #[Value.ref b] below meth c H locs 600000 7302250 Q (F0 m 834 ls [])) : W p l e room_1 s m #[Value.ref b] below meth c H locs 600000 7302250 Q (F0 m 303 ls []) := by
  obtain ⟨hx, hb, hr, hml, hown, hts, hlk⟩ := id C
  have h := hsim σ μ (xs (x3 + (1 : Int32)).toNatClampNeg) hR
  refine lv_aload_n hx hb dL_law_303 rfl (lv_at hl 1 rfl) ?_
  refine lv_aload_n hx hb dL_law_304 rfl (lv_at hl 0 rfl) ?_
  refine lv_iload_n hx hb dL_law_305 rfl (lv_at hl 3 rfl) ?_
  refine lv_iconst (v := (1 : Int32)) hx hb dL_law_306 (by decide) ?_
  refine lv_iadd hx hb dL_law_307 ?_
  refine va_sld hx hb hX hbl hbA wd.1.2.2.2.2 hi1 dL_law_308 ?_
  refine lwXi wd (gRunVq (y := yX9_loses) (k := 56) (As := [.int (xs (x3 + (1 : Int32)).toNatClampNeg)]) (rest := []) C wd.1 (cmX9_loses (Nat.le_refl 60) h) ⟨rfl, rfl⟩ gdl_35 nk_X9_loses ⟨Nat.le_of_ble_eq_true rfl, Nat.le_of_ble_eq_true rfl⟩ (by decide) cc_X9 rfl rfl hl.1 (Nat.le_of_ble_eq_true rfl) dL_law_309 rfl ⟨Nat.le_of_ble_eq_true rfl, Nat.le_of_ble_eq_true rfl⟩) (fun r1 σ H locs h wd => ?_)
  try dsimp only at h
  refine lv_aload_n hx hb dL_law_312 rfl (lv_at hl 2 rfl) ?_
  refine lv_aload_n hx hb dL_law_313 rfl (lv_at hl 0 rfl) ?_
  refine lv_iload_n hx hb dL_law_314 rfl (lv_at hl 3 rfl) ?_
  refine lv_iconst (v := (1 : Int32)) hx hb dL_law_315 (by decide) ?_
  refine lv_iadd hx hb dL_law_316 ?_
  refine va_sld hx hb hX hbl hbA wd.1.2.2.2.2 hi1 dL_law_317 ?_
  refine lwMi wd (gRunVq (y := yX10_loses) (k := 0) (As := [.int (xs (x3 + (1 : Int32)).toNatClampNeg)]) (rest := [.int r1]) C wd.2.1 (cmX10_loses h) ⟨rfl, rfl⟩ gdl_38 nk_X10_loses ⟨Nat.le_of_ble_eq_true rfl, Nat.le_of_ble_eq_true rfl⟩ (by decide) mc_X10 rfl rfl hl.1 (Nat.le_of_ble_eq_true rfl) dL_law_318 rfl ⟨Nat.le_of_ble_eq_true rfl, Nat.le_of_ble_eq_true rfl⟩) (fun r2 μ H locs h wd => ?_)
  try dsimp only at h
  refine lv_icmp_eq (tgt := 834) hx hb dL_law_321 (by decide) (fun c1 => ?_) (fun c1 => ?_)
  · exact kk _ _ _ _ _ h.2 wd hl
  · exact absurd h.1 c1
theorem gdl_39 : GoodIn gT (wsV RL 39 RX9 yX9_draw (wsOf yX9_draw cX9_draw 8 (some .int))) := gdV tw2_233 tw2_234 tw2_235 tw1_1 tw2_236
theorem gdl_42 : GoodIn gT (wsV RL 42 RX10 yX10_draw (wsOf yX10_draw cX10_draw 7 (some .int))) := gdV tw4_228 tw4_229 tw4_230 tw1_12 tw4_231
set_option maxHeartbeats 4000000 in
set_option maxRecDepth 100000 in
theorem lc_draw {D : va_G} {cyI cyO : ClassId} {adx adm : Nat → Nat} {p : Program} {l : Launch} {e : Env} {s : State} {m : MethodId} {below : List Frame} {meth : Method} {c : Code} {b L : Nat} {xs : Nat → Int32} (C : Cx p s m #[Value.ref b] meth c code 4 ret RL) (hX : va_X b L xs s s.heap) (hbl : b < s.heap.size) {Q : State → Prop} {Rel Rel2 : St → St → Prop} (hsim : Sim_draw Rel Rel2) {x3 : Int32} {σ μ : St} {H : Heap} {locs : List Loc} {ls : Array Slot} (hR : Rel σ μ) (wd : LWd D cyI cyO adx adm s H locs σ μ) (hbA : ¬ gA adx 60 s.heap.size b) (hl : lv_has ls 4 [(0, .ref b), (1, .ref (adx 56)), (2, .ref (adm 0)), (3, .int x3)]) (hi1 : vp_in (x3 + (1 : Int32)) L) (hi2 : vp_in (x3 + (2 : Int32)) L) (hi3 : vp_in (x3 + (3 : Int32)) L) (hi4 : vp_in (x3 + (4 : Int32)) L) (kk : ∀ (σ μ : St) (H : Heap) (locs : List Loc) (ls : Array Slot), Rel2 σ μ → LWd D cyI cyO adx adm s H locs σ μ → lv_has ls 4 [(0, .ref b), (1, .ref (adx 56)), (2, .ref (adm 0)), (3, .int x3)] → W p l e room_1 s m #[Value.ref b] below meth c H locs 600000 7302250 Q (F0 m 834 ls [])) : W p l e room_1 s m #[Value.ref b] below meth c H locs 600000 7302250 Q (F0 m 326 ls []) := by
  obtain ⟨hx, hb, hr, hml, hown, hts, hlk⟩ := id C
  have h := hsim σ μ (xs (x3 + (1 : Int32)).toNatClampNeg) (xs (x3 + (2 : Int32)).toNatClampNeg) hR
  refine lv_aload_n hx hb dL_law_326 rfl (lv_at hl 1 rfl) ?_
  refine lv_aload_n hx hb dL_law_327 rfl (lv_at hl 0 rfl) ?_
  refine lv_iload_n hx hb dL_law_328 rfl (lv_at hl 3 rfl) ?_
  refine lv_iconst (v := (1 : Int32)) hx hb dL_law_329 (by decide) ?_
  refine lv_iadd hx hb dL_law_330 ?_
  refine va_sld hx hb hX hbl hbA wd.1.2.2.2.2 hi1 dL_law_331 ?_
  refine lv_aload_n hx hb dL_law_332 rfl (lv_at hl 0 rfl) ?_
  refine lv_iload_n hx hb dL_law_333 rfl (lv_at hl 3 rfl) ?_
  refine lv_iconst (v := (2 : Int32)) hx hb dL_law_334 (by decide) ?_
  refine lv_iadd hx hb dL_law_335 ?_
  refine va_sld hx hb hX hbl hbA wd.1.2.2.2.2 hi2 dL_law_336 ?_
  refine lwXi wd (gRunVq (y := yX9_draw) (k := 56) (As := [.int (xs (x3 + (1 : Int32)).toNatClampNeg), .int (xs (x3 + (2 : Int32)).toNatClampNeg)]) (rest := []) C wd.1 (cmX9_draw (Nat.le_refl 60) h) ⟨rfl, rfl⟩ gdl_39 nk_X9_draw ⟨Nat.le_of_ble_eq_true rfl, Nat.le_of_ble_eq_true rfl⟩ (by decide) cc_X9 rfl rfl hl.1 (Nat.le_of_ble_eq_true rfl) dL_law_337 rfl ⟨Nat.le_of_ble_eq_true rfl, Nat.le_of_ble_eq_true rfl⟩) (fun r1 σ H locs h wd => ?_)
  try dsimp only at h
  refine lv_aload_n hx hb dL_law_340 rfl (lv_at hl 2 rfl) ?_
  refine lv_aload_n hx hb dL_law_341 rfl (lv_at hl 0 rfl) ?_
  refine lv_iload_n hx hb dL_law_342 rfl (lv_at hl 3 rfl) ?_
  refine lv_iconst (v := (1 : Int32)) hx hb dL_law_343 (by decide) ?_
  refine lv_iadd hx hb dL_law_344 ?_
  refine va_sld hx hb hX hbl hbA wd.1.2.2.2.2 hi1 dL_law_345 ?_
  refine lv_aload_n hx hb dL_law_346 rfl (lv_at hl 0 rfl) ?_
  refine lv_iload_n hx hb dL_law_347 rfl (lv_at hl 3 rfl) ?_
  refine lv_iconst (v := (2 : Int32)) hx hb dL_law_348 (by decide) ?_
  refine lv_iadd hx hb dL_law_349 ?_
  refine va_sld hx hb hX hbl hbA wd.1.2.2.2.2 hi2 dL_law_350 ?_
  refine lwMi wd (gRunVq (y := yX10_draw) (k := 0) (As := [.int (xs (x3 + (1 : Int32)).toNatClampNeg), .int (xs (x3 + (2 : Int32)).toNatClampNeg)]) (rest := [.int r1]) C wd.2.1 (cmX10_draw h) ⟨rfl, rfl⟩ gdl_42 nk_X10_draw ⟨Nat.le_of_ble_eq_true rfl, Nat.le_of_ble_eq_true rfl⟩ (by decide) mc_X10 rfl rfl hl.1 (Nat.le_of_ble_eq_true rfl) dL_law_351 rfl ⟨Nat.le_of_ble_eq_true rfl, Nat.le_of_ble_eq_true rfl⟩) (fun r2 μ H locs h wd => ?_)
  try dsimp only at h
  refine lv_icmp_eq (tgt := 834) hx hb dL_law_354 (by decide) (fun c1 => ?_) (fun c1 => ?_)
  · exact kk _ _ _ _ _ h.2 wd hl
  · exact absurd h.1 c1
theorem gdl_43 : GoodIn gT (wsV RL 43 RX9 yX9_of (wsOf yX9_of cX9_of 4 (some .int))) := gdV tw3_28 tw3_29 tw3_30 tw1_1 tw3_31
theorem gdl_46 : GoodIn gT (wsV RL 46 RX10 yX10_of (wsOf yX10_of cX10_of 3 (some .int))) := gdV tw5_14 tw5_15 tw5_16 tw1_12 tw5_17
set_option maxHeartbeats 4000000 in
set_option maxRecDepth 100000 in
theorem lc_of {D : va_G} {cyI cyO : ClassId} {adx adm : Nat → Nat} {p : Program} {l : Launch} {e : Env} {s : State} {m : MethodId} {below : List Frame} {meth : Method} {c : Code} {b L : Nat} {xs : Nat → Int32} (C : Cx p s m #[Value.ref b] meth c code 4 ret RL) (hX : va_X b L xs s s.heap) (hbl : b < s.heap.size) {Q : State → Prop} {Rel Rel2 : St → St → Prop} (hsim : Sim_of Rel Rel2) {x3 : Int32} {σ μ : St} {H : Heap} {locs : List Loc} {ls : Array Slot} (hR : Rel σ μ) (wd : LWd D cyI cyO adx adm s H locs σ μ) (hbA : ¬ gA adx 60 s.heap.size b) (hl : lv_has ls 4 [(0, .ref b), (1, .ref (adx 56)), (2, .ref (adm 0)), (3, .int x3)]) (hi1 : vp_in (x3 + (1 : Int32)) L) (hi2 : vp_in (x3 + (2 : Int32)) L) (hi3 : vp_in (x3 + (3 : Int32)) L) (hi4 : vp_in (x3 + (4 : Int32)) L) (kk : ∀ (σ μ : St) (H : Heap) (locs : List Loc) (ls : Array Slot), Rel2 σ μ → LWd D cyI cyO adx adm s H locs σ μ → lv_has ls 4 [(0, .ref b), (1, .ref (adx 56)), (2, .ref (adm 0)), (3, .int x3)] → W p l e room_1 s m #[Value.ref b] below meth c H locs 600000 7302250 Q (F0 m 834 ls [])) : W p l e room_1 s m #[Value.ref b] below meth c H locs 600000 7302250 Q (F0 m 359 ls []) := by
  obtain ⟨hx, hb, hr, hml, hown, hts, hlk⟩ := id C
  have h := hsim σ μ (xs (x3 + (1 : Int32)).toNatClampNeg) (xs (x3 + (2 : Int32)).toNatClampNeg) hR
  refine lv_aload_n hx hb dL_law_359 rfl (lv_at hl 1 rfl) ?_
  refine lv_aload_n hx hb dL_law_360 rfl (lv_at hl 0 rfl) ?_
  refine lv_iload_n hx hb dL_law_361 rfl (lv_at hl 3 rfl) ?_
  refine lv_iconst (v := (1 : Int32)) hx hb dL_law_362 (by decide) ?_
  refine lv_iadd hx hb dL_law_363 ?_
  refine va_sld hx hb hX hbl hbA wd.1.2.2.2.2 hi1 dL_law_364 ?_
  refine lv_aload_n hx hb dL_law_365 rfl (lv_at hl 0 rfl) ?_
  refine lv_iload_n hx hb dL_law_366 rfl (lv_at hl 3 rfl) ?_
  refine lv_iconst (v := (2 : Int32)) hx hb dL_law_367 (by decide) ?_
  refine lv_iadd hx hb dL_law_368 ?_
  refine va_sld hx hb hX hbl hbA wd.1.2.2.2.2 hi2 dL_law_369 ?_
  refine lwXi wd (gRunVq (y := yX9_of) (k := 56) (As := [.int (xs (x3 + (1 : Int32)).toNatClampNeg), .int (xs (x3 + (2 : Int32)).toNatClampNeg)]) (rest := []) C wd.1 (cmX9_of (Nat.le_refl 60) h) ⟨rfl, rfl⟩ gdl_43 nk_X9_of ⟨Nat.le_of_ble_eq_true rfl, Nat.le_of_ble_eq_true rfl⟩ (by decide) cc_X9 rfl rfl hl.1 (Nat.le_of_ble_eq_true rfl) dL_law_370 rfl ⟨Nat.le_of_ble_eq_true rfl, Nat.le_of_ble_eq_true rfl⟩) (fun r1 σ H locs h wd => ?_)
  try dsimp only at h
  refine lv_aload_n hx hb dL_law_373 rfl (lv_at hl 2 rfl) ?_
  refine lv_aload_n hx hb dL_law_374 rfl (lv_at hl 0 rfl) ?_
  refine lv_iload_n hx hb dL_law_375 rfl (lv_at hl 3 rfl) ?_
  refine lv_iconst (v := (1 : Int32)) hx hb dL_law_376 (by decide) ?_
  refine lv_iadd hx hb dL_law_377 ?_
  refine va_sld hx hb hX hbl hbA wd.1.2.2.2.2 hi1 dL_law_378 ?_
  refine lv_aload_n hx hb dL_law_379 rfl (lv_at hl 0 rfl) ?_
  refine lv_iload_n hx hb dL_law_380 rfl (lv_at hl 3 rfl) ?_
  refine lv_iconst (v := (2 : Int32)) hx hb dL_law_381 (by decide) ?_
  refine lv_iadd hx hb dL_law_382 ?_
  refine va_sld hx hb hX hbl hbA wd.1.2.2.2.2 hi2 dL_law_383 ?_
  refine lwMi wd (gRunVq (y := yX10_of) (k := 0) (As := [.int (xs (x3 + (1 : Int32)).toNatClampNeg), .int (xs (x3 + (2 : Int32)).toNatClampNeg)]) (rest := [.int r1]) C wd.2.1 (cmX10_of h) ⟨rfl, rfl⟩ gdl_46 nk_X10_of ⟨Nat.le_of_ble_eq_true rfl, Nat.le_of_ble_eq_true rfl⟩ (by decide) mc_X10 rfl rfl hl.1 (Nat.le_of_ble_eq_true rfl) dL_law_384 rfl ⟨Nat.le_of_ble_eq_true rfl, Nat.le_of_ble_eq_true rfl⟩) (fun r2 μ H locs h wd => ?_)
  try dsimp only at h
  refine lv_icmp_eq (tgt := 834) hx hb dL_law_387 (by decide) (fun c1 => ?_) (fun c1 => ?_)
  · exact kk _ _ _ _ _ h.2 wd hl
  · exact absurd h.1 c1
theorem gdl_47 : GoodIn gT (wsV RL 47 RX9 yX9_page (wsOf yX9_page cX9_page 6 (some .int))) := gdV tw3_53 tw3_54 tw3_55 tw1_1 tw3_56
theorem gdl_51 : GoodIn gT (wsV RL 51 RX10 yX10_page (wsOf yX10_page cX10_page 5 (some .int))) := gdV tw5_35 tw5_36 tw5_37 tw1_12 tw5_38
set_option maxHeartbeats 4000000 in
set_option maxRecDepth 100000 in
theorem lc_page {D : va_G} {cyI cyO : ClassId} {adx adm : Nat → Nat} {p : Program} {l : Launch} {e : Env} {s : State} {m : MethodId} {below : List Frame} {meth : Method} {c : Code} {b L : Nat} {xs : Nat → Int32} (C : Cx p s m #[Value.ref b] meth c code 4 ret RL) (hX : va_X b L xs s s.heap) (hbl : b < s.heap.size) {Q : State → Prop} {Rel Rel2 : St → St → Prop} (hsim : Sim_page Rel Rel2) {x3 : Int32} {σ μ : St} {H : Heap} {locs : List Loc} {ls : Array Slot} (hR : Rel σ μ) (wd : LWd D cyI cyO adx adm s H locs σ μ) (hbA : ¬ gA adx 60 s.heap.size b) (hl : lv_has ls 4 [(0, .ref b), (1, .ref (adx 56)), (2, .ref (adm 0)), (3, .int x3)]) (hi1 : vp_in (x3 + (1 : Int32)) L) (hi2 : vp_in (x3 + (2 : Int32)) L) (hi3 : vp_in (x3 + (3 : Int32)) L) (hi4 : vp_in (x3 + (4 : Int32)) L) (kk : ∀ (σ μ : St) (H : Heap) (locs : List Loc) (ls : Array Slot), Rel2 σ μ → LWd D cyI cyO adx adm s H locs σ μ → lv_has ls 4 [(0, .ref b), (1, .ref (adx 56)), (2, .ref (adm 0)), (3, .int x3)] → W p l e room_1 s m #[Value.ref b] below meth c H locs 600000 7302250 Q (F0 m 834 ls [])) : W p l e room_1 s m #[Value.ref b] below meth c H locs 600000 7302250 Q (F0 m 392 ls []) := by
  obtain ⟨hx, hb, hr, hml, hown, hts, hlk⟩ := id C
  have h := hsim σ μ (xs (x3 + (1 : Int32)).toNatClampNeg) (xs (x3 + (2 : Int32)).toNatClampNeg) (xs (x3 + (3 : Int32)).toNatClampNeg) (xs (x3 + (4 : Int32)).toNatClampNeg) hR
  refine lv_aload_n hx hb dL_law_392 rfl (lv_at hl 1 rfl) ?_
  refine lv_aload_n hx hb dL_law_393 rfl (lv_at hl 0 rfl) ?_
  refine lv_iload_n hx hb dL_law_394 rfl (lv_at hl 3 rfl) ?_
  refine lv_iconst (v := (1 : Int32)) hx hb dL_law_395 (by decide) ?_
  refine lv_iadd hx hb dL_law_396 ?_
  refine va_sld hx hb hX hbl hbA wd.1.2.2.2.2 hi1 dL_law_397 ?_
  refine lv_aload_n hx hb dL_law_398 rfl (lv_at hl 0 rfl) ?_
  refine lv_iload_n hx hb dL_law_399 rfl (lv_at hl 3 rfl) ?_
  refine lv_iconst (v := (2 : Int32)) hx hb dL_law_400 (by decide) ?_
  refine lv_iadd hx hb dL_law_401 ?_
  refine va_sld hx hb hX hbl hbA wd.1.2.2.2.2 hi2 dL_law_402 ?_
  refine lv_aload_n hx hb dL_law_403 rfl (lv_at hl 0 rfl) ?_
  refine lv_iload_n hx hb dL_law_404 rfl (lv_at hl 3 rfl) ?_
  refine lv_iconst (v := (3 : Int32)) hx hb dL_law_405 (by decide) ?_
  refine lv_iadd hx hb dL_law_406 ?_
  refine va_sld hx hb hX hbl hbA wd.1.2.2.2.2 hi3 dL_law_407 ?_
  refine lv_aload_n hx hb dL_law_408 rfl (lv_at hl 0 rfl) ?_
  refine lv_iload_n hx hb dL_law_409 rfl (lv_at hl 3 rfl) ?_
  refine lv_iconst (v := (4 : Int32)) hx hb dL_law_410 (by decide) ?_
  refine lv_iadd hx hb dL_law_411 ?_
  refine va_sld hx hb hX hbl hbA wd.1.2.2.2.2 hi4 dL_law_412 ?_
  refine lwXi wd (gRunVq (y := yX9_page) (k := 56) (As := [.int (xs (x3 + (1 : Int32)).toNatClampNeg), .int (xs (x3 + (2 : Int32)).toNatClampNeg), .int (xs (x3 + (3 : Int32)).toNatClampNeg), .int (xs (x3 + (4 : Int32)).toNatClampNeg)]) (rest := []) C wd.1 (cmX9_page (Nat.le_refl 60) h) ⟨rfl, rfl⟩ gdl_47 nk_X9_page ⟨Nat.le_of_ble_eq_true rfl, Nat.le_of_ble_eq_true rfl⟩ (by decide) cc_X9 rfl rfl hl.1 (Nat.le_of_ble_eq_true rfl) dL_law_413 rfl ⟨Nat.le_of_ble_eq_true rfl, Nat.le_of_ble_eq_true rfl⟩) (fun r1 σ H locs h wd => ?_)
  try dsimp only at h
  refine lv_aload_n hx hb dL_law_416 rfl (lv_at hl 2 rfl) ?_
  refine lv_aload_n hx hb dL_law_417 rfl (lv_at hl 0 rfl) ?_
  refine lv_iload_n hx hb dL_law_418 rfl (lv_at hl 3 rfl) ?_
  refine lv_iconst (v := (1 : Int32)) hx hb dL_law_419 (by decide) ?_
  refine lv_iadd hx hb dL_law_420 ?_
  refine va_sld hx hb hX hbl hbA wd.1.2.2.2.2 hi1 dL_law_421 ?_
  refine lv_aload_n hx hb dL_law_422 rfl (lv_at hl 0 rfl) ?_
  refine lv_iload_n hx hb dL_law_423 rfl (lv_at hl 3 rfl) ?_
  refine lv_iconst (v := (2 : Int32)) hx hb dL_law_424 (by decide) ?_
  refine lv_iadd hx hb dL_law_425 ?_
  refine va_sld hx hb hX hbl hbA wd.1.2.2.2.2 hi2 dL_law_426 ?_
  refine lv_aload_n hx hb dL_law_427 rfl (lv_at hl 0 rfl) ?_
  refine lv_iload_n hx hb dL_law_428 rfl (lv_at hl 3 rfl) ?_
  refine lv_iconst (v := (3 : Int32)) hx hb dL_law_429 (by decide) ?_
  refine lv_iadd hx hb dL_law_430 ?_
  refine va_sld hx hb hX hbl hbA wd.1.2.2.2.2 hi3 dL_law_431 ?_
  refine lv_aload_n hx hb dL_law_432 rfl (lv_at hl 0 rfl) ?_
  refine lv_iload_n hx hb dL_law_433 rfl (lv_at hl 3 rfl) ?_
  refine lv_iconst (v := (4 : Int32)) hx hb dL_law_434 (by decide) ?_
  refine lv_iadd hx hb dL_law_435 ?_
  refine va_sld hx hb hX hbl hbA wd.1.2.2.2.2 hi4 dL_law_436 ?_
  refine lwMi wd (gRunVq (y := yX10_page) (k := 0) (As := [.int (xs (x3 + (1 : Int32)).toNatClampNeg), .int (xs (x3 + (2 : Int32)).toNatClampNeg), .int (xs (x3 + (3 : Int32)).toNatClampNeg), .int (xs (x3 + (4 : Int32)).toNatClampNeg)]) (rest := [.int r1]) C wd.2.1 (cmX10_page h) ⟨rfl, rfl⟩ gdl_51 nk_X10_page ⟨Nat.le_of_ble_eq_true rfl, Nat.le_of_ble_eq_true rfl⟩ (by decide) mc_X10 rfl rfl hl.1 (Nat.le_of_ble_eq_true rfl) dL_law_437 rfl ⟨Nat.le_of_ble_eq_true rfl, Nat.le_of_ble_eq_true rfl⟩) (fun r2 μ H locs h wd => ?_)
  try dsimp only at h
  refine lv_icmp_eq (tgt := 834) hx hb dL_law_440 (by decide) (fun c1 => ?_) (fun c1 => ?_)
  · exact kk _ _ _ _ _ h.2 wd hl
  · exact absurd h.1 c1
theorem gdl_52 : GoodIn gT (wsV RL 52 RX9 yX9_dead (wsOf yX9_dead cX9_dead 5 (some .int))) := gdV tw3_65 tw3_66 tw3_67 tw1_1 tw3_68
theorem gdl_56 : GoodIn gT (wsV RL 56 RX10 yX10_dead (wsOf yX10_dead cX10_dead 4 (some .int))) := gdV tw5_43 tw5_44 tw5_45 tw1_12 tw5_46
set_option maxHeartbeats 4000000 in
set_option maxRecDepth 100000 in
theorem lc_dead {D : va_G} {cyI cyO : ClassId} {adx adm : Nat → Nat} {p : Program} {l : Launch} {e : Env} {s : State} {m : MethodId} {below : List Frame} {meth : Method} {c : Code} {b L : Nat} {xs : Nat → Int32} (C : Cx p s m #[Value.ref b] meth c code 4 ret RL) (hX : va_X b L xs s s.heap) (hbl : b < s.heap.size) {Q : State → Prop} {Rel Rel2 : St → St → Prop} (hsim : Sim_dead Rel Rel2) {x3 : Int32} {σ μ : St} {H : Heap} {locs : List Loc} {ls : Array Slot} (hR : Rel σ μ) (wd : LWd D cyI cyO adx adm s H locs σ μ) (hbA : ¬ gA adx 60 s.heap.size b) (hl : lv_has ls 4 [(0, .ref b), (1, .ref (adx 56)), (2, .ref (adm 0)), (3, .int x3)]) (hi1 : vp_in (x3 + (1 : Int32)) L) (hi2 : vp_in (x3 + (2 : Int32)) L) (hi3 : vp_in (x3 + (3 : Int32)) L) (hi4 : vp_in (x3 + (4 : Int32)) L) (kk : ∀ (σ μ : St) (H : Heap) (locs : List Loc) (ls : Array Slot), Rel2 σ μ → LWd D cyI cyO adx adm s H locs σ μ → lv_has ls 4 [(0, .ref b), (1, .ref (adx 56)), (2, .ref (adm 0)), (3, .int x3)] → W p l e room_1 s m #[Value.ref b] below meth c H locs 600000 7302250 Q (F0 m 834 ls [])) : W p l e room_1 s m #[Value.ref b] below meth c H locs 600000 7302250 Q (F0 m 445 ls []) := by
  obtain ⟨hx, hb, hr, hml, hown, hts, hlk⟩ := id C
  have h := hsim σ μ (xs (x3 + (1 : Int32)).toNatClampNeg) (xs (x3 + (2 : Int32)).toNatClampNeg) (xs (x3 + (3 : Int32)).toNatClampNeg) hR
  refine lv_aload_n hx hb dL_law_445 rfl (lv_at hl 1 rfl) ?_
  refine lv_aload_n hx hb dL_law_446 rfl (lv_at hl 0 rfl) ?_
  refine lv_iload_n hx hb dL_law_447 rfl (lv_at hl 3 rfl) ?_
  refine lv_iconst (v := (1 : Int32)) hx hb dL_law_448 (by decide) ?_
  refine lv_iadd hx hb dL_law_449 ?_
  refine va_sld hx hb hX hbl hbA wd.1.2.2.2.2 hi1 dL_law_450 ?_
  refine lv_aload_n hx hb dL_law_451 rfl (lv_at hl 0 rfl) ?_
  refine lv_iload_n hx hb dL_law_452 rfl (lv_at hl 3 rfl) ?_
  refine lv_iconst (v := (2 : Int32)) hx hb dL_law_453 (by decide) ?_
  refine lv_iadd hx hb dL_law_454 ?_
  refine va_sld hx hb hX hbl hbA wd.1.2.2.2.2 hi2 dL_law_455 ?_
  refine lv_aload_n hx hb dL_law_456 rfl (lv_at hl 0 rfl) ?_
  refine lv_iload_n hx hb dL_law_457 rfl (lv_at hl 3 rfl) ?_
  refine lv_iconst (v := (3 : Int32)) hx hb dL_law_458 (by decide) ?_
  refine lv_iadd hx hb dL_law_459 ?_
  refine va_sld hx hb hX hbl hbA wd.1.2.2.2.2 hi3 dL_law_460 ?_
  refine lwXi wd (gRunVq (y := yX9_dead) (k := 56) (As := [.int (xs (x3 + (1 : Int32)).toNatClampNeg), .int (xs (x3 + (2 : Int32)).toNatClampNeg), .int (xs (x3 + (3 : Int32)).toNatClampNeg)]) (rest := []) C wd.1 (cmX9_dead (Nat.le_refl 60) h) ⟨rfl, rfl⟩ gdl_52 nk_X9_dead ⟨Nat.le_of_ble_eq_true rfl, Nat.le_of_ble_eq_true rfl⟩ (by decide) cc_X9 rfl rfl hl.1 (Nat.le_of_ble_eq_true rfl) dL_law_461 rfl ⟨Nat.le_of_ble_eq_true rfl, Nat.le_of_ble_eq_true rfl⟩) (fun r1 σ H locs h wd => ?_)
  try dsimp only at h
  refine lv_aload_n hx hb dL_law_464 rfl (lv_at hl 2 rfl) ?_
  refine lv_aload_n hx hb dL_law_465 rfl (lv_at hl 0 rfl) ?_
  refine lv_iload_n hx hb dL_law_466 rfl (lv_at hl 3 rfl) ?_
  refine lv_iconst (v := (1 : Int32)) hx hb dL_law_467 (by decide) ?_
  refine lv_iadd hx hb dL_law_468 ?_
  refine va_sld hx hb hX hbl hbA wd.1.2.2.2.2 hi1 dL_law_469 ?_
  refine lv_aload_n hx hb dL_law_470 rfl (lv_at hl 0 rfl) ?_
  refine lv_iload_n hx hb dL_law_471 rfl (lv_at hl 3 rfl) ?_
  refine lv_iconst (v := (2 : Int32)) hx hb dL_law_472 (by decide) ?_
  refine lv_iadd hx hb dL_law_473 ?_
  refine va_sld hx hb hX hbl hbA wd.1.2.2.2.2 hi2 dL_law_474 ?_
  refine lv_aload_n hx hb dL_law_475 rfl (lv_at hl 0 rfl) ?_
  refine lv_iload_n hx hb dL_law_476 rfl (lv_at hl 3 rfl) ?_
  refine lv_iconst (v := (3 : Int32)) hx hb dL_law_477 (by decide) ?_
  refine lv_iadd hx hb dL_law_478 ?_
  refine va_sld hx hb hX hbl hbA wd.1.2.2.2.2 hi3 dL_law_479 ?_
  refine lwMi wd (gRunVq (y := yX10_dead) (k := 0) (As := [.int (xs (x3 + (1 : Int32)).toNatClampNeg), .int (xs (x3 + (2 : Int32)).toNatClampNeg), .int (xs (x3 + (3 : Int32)).toNatClampNeg)]) (rest := [.int r1]) C wd.2.1 (cmX10_dead h) ⟨rfl, rfl⟩ gdl_56 nk_X10_dead ⟨Nat.le_of_ble_eq_true rfl, Nat.le_of_ble_eq_true rfl⟩ (by decide) mc_X10 rfl rfl hl.1 (Nat.le_of_ble_eq_true rfl) dL_law_480 rfl ⟨Nat.le_of_ble_eq_true rfl, Nat.le_of_ble_eq_true rfl⟩) (fun r2 μ H locs h wd => ?_)
  try dsimp only at h
  refine lv_icmp_eq (tgt := 834) hx hb dL_law_483 (by decide) (fun c1 => ?_) (fun c1 => ?_)
  · exact kk _ _ _ _ _ h.2 wd hl
  · exact absurd h.1 c1
theorem gdl_57 : GoodIn gT (wsV RL 57 RX9 yX9_end (wsOf yX9_end cX9_end 4 (some .int))) := gdV tw3_71 tw3_72 tw3_73 tw1_1 tw3_74
theorem gdl_60 : GoodIn gT (wsV RL 60 RX10 yX10_end (wsOf yX10_end cX10_end 3 (some .int))) := gdV tw5_48 tw5_49 tw5_50 tw1_12 tw5_51
set_option maxHeartbeats 4000000 in
set_option maxRecDepth 100000 in
theorem lc_end {D : va_G} {cyI cyO : ClassId} {adx adm : Nat → Nat} {p : Program} {l : Launch} {e : Env} {s : State} {m : MethodId} {below : List Frame} {meth : Method} {c : Code} {b L : Nat} {xs : Nat → Int32} (C : Cx p s m #[Value.ref b] meth c code 4 ret RL) (hX : va_X b L xs s s.heap) (hbl : b < s.heap.size) {Q : State → Prop} {Rel Rel2 : St → St → Prop} (hsim : Sim_end Rel Rel2) {x3 : Int32} {σ μ : St} {H : Heap} {locs : List Loc} {ls : Array Slot} (hR : Rel σ μ) (wd : LWd D cyI cyO adx adm s H locs σ μ) (hbA : ¬ gA adx 60 s.heap.size b) (hl : lv_has ls 4 [(0, .ref b), (1, .ref (adx 56)), (2, .ref (adm 0)), (3, .int x3)]) (hi1 : vp_in (x3 + (1 : Int32)) L) (hi2 : vp_in (x3 + (2 : Int32)) L) (hi3 : vp_in (x3 + (3 : Int32)) L) (hi4 : vp_in (x3 + (4 : Int32)) L) (kk : ∀ (σ μ : St) (H : Heap) (locs : List Loc) (ls : Array Slot), Rel2 σ μ → LWd D cyI cyO adx adm s H locs σ μ → lv_has ls 4 [(0, .ref b), (1, .ref (adx 56)), (2, .ref (adm 0)), (3, .int x3)] → W p l e room_1 s m #[Value.ref b] below meth c H locs 600000 7302250 Q (F0 m 834 ls [])) : W p l e room_1 s m #[Value.ref b] below meth c H locs 600000 7302250 Q (F0 m 488 ls []) := by
  obtain ⟨hx, hb, hr, hml, hown, hts, hlk⟩ := id C
  have h := hsim σ μ (xs (x3 + (1 : Int32)).toNatClampNeg) (xs (x3 + (2 : Int32)).toNatClampNeg) hR
  refine lv_aload_n hx hb dL_law_488 rfl (lv_at hl 1 rfl) ?_
  refine lv_aload_n hx hb dL_law_489 rfl (lv_at hl 0 rfl) ?_
  refine lv_iload_n hx hb dL_law_490 rfl (lv_at hl 3 rfl) ?_
  refine lv_iconst (v := (1 : Int32)) hx hb dL_law_491 (by decide) ?_
  refine lv_iadd hx hb dL_law_492 ?_
  refine va_sld hx hb hX hbl hbA wd.1.2.2.2.2 hi1 dL_law_493 ?_
  refine lv_aload_n hx hb dL_law_494 rfl (lv_at hl 0 rfl) ?_
  refine lv_iload_n hx hb dL_law_495 rfl (lv_at hl 3 rfl) ?_
  refine lv_iconst (v := (2 : Int32)) hx hb dL_law_496 (by decide) ?_
  refine lv_iadd hx hb dL_law_497 ?_
  refine va_sld hx hb hX hbl hbA wd.1.2.2.2.2 hi2 dL_law_498 ?_
  refine lwXi wd (gRunVq (y := yX9_end) (k := 56) (As := [.int (xs (x3 + (1 : Int32)).toNatClampNeg), .int (xs (x3 + (2 : Int32)).toNatClampNeg)]) (rest := []) C wd.1 (cmX9_end (Nat.le_refl 60) h) ⟨rfl, rfl⟩ gdl_57 nk_X9_end ⟨Nat.le_of_ble_eq_true rfl, Nat.le_of_ble_eq_true rfl⟩ (by decide) cc_X9 rfl rfl hl.1 (Nat.le_of_ble_eq_true rfl) dL_law_499 rfl ⟨Nat.le_of_ble_eq_true rfl, Nat.le_of_ble_eq_true rfl⟩) (fun r1 σ H locs h wd => ?_)
  try dsimp only at h
  refine lv_aload_n hx hb dL_law_502 rfl (lv_at hl 2 rfl) ?_
  refine lv_aload_n hx hb dL_law_503 rfl (lv_at hl 0 rfl) ?_
  refine lv_iload_n hx hb dL_law_504 rfl (lv_at hl 3 rfl) ?_
  refine lv_iconst (v := (1 : Int32)) hx hb dL_law_505 (by decide) ?_
  refine lv_iadd hx hb dL_law_506 ?_
  refine va_sld hx hb hX hbl hbA wd.1.2.2.2.2 hi1 dL_law_507 ?_
  refine lv_aload_n hx hb dL_law_508 rfl (lv_at hl 0 rfl) ?_
  refine lv_iload_n hx hb dL_law_509 rfl (lv_at hl 3 rfl) ?_
  refine lv_iconst (v := (2 : Int32)) hx hb dL_law_510 (by decide) ?_
  refine lv_iadd hx hb dL_law_511 ?_
  refine va_sld hx hb hX hbl hbA wd.1.2.2.2.2 hi2 dL_law_512 ?_
  refine lwMi wd (gRunVq (y := yX10_end) (k := 0) (As := [.int (xs (x3 + (1 : Int32)).toNatClampNeg), .int (xs (x3 + (2 : Int32)).toNatClampNeg)]) (rest := [.int r1]) C wd.2.1 (cmX10_end h) ⟨rfl, rfl⟩ gdl_60 nk_X10_end ⟨Nat.le_of_ble_eq_true rfl, Nat.le_of_ble_eq_true rfl⟩ (by decide) mc_X10 rfl rfl hl.1 (Nat.le_of_ble_eq_true rfl) dL_law_513 rfl ⟨Nat.le_of_ble_eq_true rfl, Nat.le_of_ble_eq_true rfl⟩) (fun r2 μ H locs h wd => ?_)
  try dsimp only at h
  refine lv_icmp_eq (tgt := 834) hx hb dL_law_516 (by decide) (fun c1 => ?_) (fun c1 => ?_)
  · exact kk _ _ _ _ _ h.2 wd hl
  · exact absurd h.1 c1
theorem gdl_61 : GoodIn gT (wsV RL 61 RX9 yX9_letter (wsOf yX9_letter cX9_letter 5 (some .int))) := gdV tw3_79 tw3_80 tw3_81 tw1_1 tw3_82
theorem gdl_64 : GoodIn gT (wsV RL 64 RX10 yX10_letter (wsOf yX10_letter cX10_letter 6 (some .int))) := gdV tw5_52 tw5_53 tw5_54 tw1_12 tw5_55
set_option maxHeartbeats 4000000 in
set_option maxRecDepth 100000 in
theorem lc_letter {D : va_G} {cyI cyO : ClassId} {adx adm : Nat → Nat} {p : Program} {l : Launch} {e : Env} {s : State} {m : MethodId} {below : List Frame} {meth : Method} {c : Code} {b L : Nat} {xs : Nat → Int32} (C : Cx p s m #[Value.ref b] meth c code 4 ret RL) (hX : va_X b L xs s s.heap) (hbl : b < s.heap.size) {Q : State → Prop} {Rel Rel2 : St → St → Prop} (hsim : Sim_letter Rel Rel2) {x3 : Int32} {σ μ : St} {H : Heap} {locs : List Loc} {ls : Array Slot} (hR : Rel σ μ) (wd : LWd D cyI cyO adx adm s H locs σ μ) (hbA : ¬ gA adx 60 s.heap.size b) (hl : lv_has ls 4 [(0, .ref b), (1, .ref (adx 56)), (2, .ref (adm 0)), (3, .int x3)]) (hi1 : vp_in (x3 + (1 : Int32)) L) (hi2 : vp_in (x3 + (2 : Int32)) L) (hi3 : vp_in (x3 + (3 : Int32)) L) (hi4 : vp_in (x3 + (4 : Int32)) L) (kk : ∀ (σ μ : St) (H : Heap) (locs : List Loc) (ls : Array Slot), Rel2 σ μ → LWd D cyI cyO adx adm s H locs σ μ → lv_has ls 4 [(0, .ref b), (1, .ref (adx 56)), (2, .ref (adm 0)), (3, .int x3)] → W p l e room_1 s m #[Value.ref b] below meth c H locs 600000 7302250 Q (F0 m 834 ls [])) : W p l e room_1 s m #[Value.ref b] below meth c H locs 600000 7302250 Q (F0 m 521 ls []) := by
  obtain ⟨hx, hb, hr, hml, hown, hts, hlk⟩ := id C
  have h := hsim σ μ (xs (x3 + (1 : Int32)).toNatClampNeg) (xs (x3 + (2 : Int32)).toNatClampNeg) (xs (x3 + (3 : Int32)).toNatClampNeg) hR
  refine lv_aload_n hx hb dL_law_521 rfl (lv_at hl 1 rfl) ?_
  refine lv_aload_n hx hb dL_law_522 rfl (lv_at hl 0 rfl) ?_
  refine lv_iload_n hx hb dL_law_523 rfl (lv_at hl 3 rfl) ?_
  refine lv_iconst (v := (1 : Int32)) hx hb dL_law_524 (by decide) ?_
  refine lv_iadd hx hb dL_law_525 ?_
  refine va_sld hx hb hX hbl hbA wd.1.2.2.2.2 hi1 dL_law_526 ?_
  refine lv_aload_n hx hb dL_law_527 rfl (lv_at hl 0 rfl) ?_
  refine lv_iload_n hx hb dL_law_528 rfl (lv_at hl 3 rfl) ?_
  refine lv_iconst (v := (2 : Int32)) hx hb dL_law_529 (by decide) ?_
  refine lv_iadd hx hb dL_law_530 ?_
  refine va_sld hx hb hX hbl hbA wd.1.2.2.2.2 hi2 dL_law_531 ?_
  refine lv_aload_n hx hb dL_law_532 rfl (lv_at hl 0 rfl) ?_
  refine lv_iload_n hx hb dL_law_533 rfl (lv_at hl 3 rfl) ?_
  refine lv_iconst (v := (3 : Int32)) hx hb dL_law_534 (by decide) ?_
  refine lv_iadd hx hb dL_law_535 ?_
  refine va_sld hx hb hX hbl hbA wd.1.2.2.2.2 hi3 dL_law_536 ?_
  refine lwXi wd (gRunVq (y := yX9_letter) (k := 56) (As := [.int (xs (x3 + (1 : Int32)).toNatClampNeg), .int (xs (x3 + (2 : Int32)).toNatClampNeg), .int (xs (x3 + (3 : Int32)).toNatClampNeg)]) (rest := []) C wd.1 (cmX9_letter (Nat.le_refl 60) h) ⟨rfl, rfl⟩ gdl_61 nk_X9_letter ⟨Nat.le_of_ble_eq_true rfl, Nat.le_of_ble_eq_true rfl⟩ (by decide) cc_X9 rfl rfl hl.1 (Nat.le_of_ble_eq_true rfl) dL_law_537 rfl ⟨Nat.le_of_ble_eq_true rfl, Nat.le_of_ble_eq_true rfl⟩) (fun r1 σ H locs h wd => ?_)
  try dsimp only at h
  refine lv_aload_n hx hb dL_law_540 rfl (lv_at hl 2 rfl) ?_
  refine lv_aload_n hx hb dL_law_541 rfl (lv_at hl 0 rfl) ?_
  refine lv_iload_n hx hb dL_law_542 rfl (lv_at hl 3 rfl) ?_
  refine lv_iconst (v := (1 : Int32)) hx hb dL_law_543 (by decide) ?_
  refine lv_iadd hx hb dL_law_544 ?_
  refine va_sld hx hb hX hbl hbA wd.1.2.2.2.2 hi1 dL_law_545 ?_
  refine lv_aload_n hx hb dL_law_546 rfl (lv_at hl 0 rfl) ?_
  refine lv_iload_n hx hb dL_law_547 rfl (lv_at hl 3 rfl) ?_
  refine lv_iconst (v := (2 : Int32)) hx hb dL_law_548 (by decide) ?_
  refine lv_iadd hx hb dL_law_549 ?_
  refine va_sld hx hb hX hbl hbA wd.1.2.2.2.2 hi2 dL_law_550 ?_
  refine lv_aload_n hx hb dL_law_551 rfl (lv_at hl 0 rfl) ?_
  refine lv_iload_n hx hb dL_law_552 rfl (lv_at hl 3 rfl) ?_
  refine lv_iconst (v := (3 : Int32)) hx hb dL_law_553 (by decide) ?_
  refine lv_iadd hx hb dL_law_554 ?_
  refine va_sld hx hb hX hbl hbA wd.1.2.2.2.2 hi3 dL_law_555 ?_
  refine lwMi wd (gRunVq (y := yX10_letter) (k := 0) (As := [.int (xs (x3 + (1 : Int32)).toNatClampNeg), .int (xs (x3 + (2 : Int32)).toNatClampNeg), .int (xs (x3 + (3 : Int32)).toNatClampNeg)]) (rest := [.int r1]) C wd.2.1 (cmX10_letter h) ⟨rfl, rfl⟩ gdl_64 nk_X10_letter ⟨Nat.le_of_ble_eq_true rfl, Nat.le_of_ble_eq_true rfl⟩ (by decide) mc_X10 rfl rfl hl.1 (Nat.le_of_ble_eq_true rfl) dL_law_556 rfl ⟨Nat.le_of_ble_eq_true rfl, Nat.le_of_ble_eq_true rfl⟩) (fun r2 μ H locs h wd => ?_)
  try dsimp only at h
  refine lv_icmp_eq (tgt := 834) hx hb dL_law_559 (by decide) (fun c1 => ?_) (fun c1 => ?_)
  · exact kk _ _ _ _ _ h.2 wd hl
  · exact absurd h.1 c1
theorem gdl_65 : GoodIn gT (wsV RL 65 RX9 yX9_sweeps (wsOf yX9_sweeps cX9_sweeps 1 (some .int))) := gdV tw3_87 tw3_88 tw3_89 tw1_1 tw3_90
theorem gdl_69 : GoodIn gT (wsV RL 69 RX10 yX10_sweeps (wsOf yX10_sweeps cX10_sweeps 3 (some .int))) := gdV tw5_56 tw5_57 tw5_58 tw1_12 tw5_59
set_option maxHeartbeats 4000000 in
set_option maxRecDepth 100000 in
theorem lc_sweeps {D : va_G} {cyI cyO : ClassId} {adx adm : Nat → Nat} {p : Program} {l : Launch} {e : Env} {s : State} {m : MethodId} {below : List Frame} {meth : Method} {c : Code} {b L : Nat} {xs : Nat → Int32} (C : Cx p s m #[Value.ref b] meth c code 4 ret RL) (hX : va_X b L xs s s.heap) (hbl : b < s.heap.size) {Q : State → Prop} {Rel Rel2 : St → St → Prop} (hsim : Sim_sweeps Rel Rel2) {x3 : Int32} {σ μ : St} {H : Heap} {locs : List Loc} {ls : Array Slot} (hR : Rel σ μ) (wd : LWd D cyI cyO adx adm s H locs σ μ) (hbA : ¬ gA adx 60 s.heap.size b) (hl : lv_has ls 4 [(0, .ref b), (1, .ref (adx 56)), (2, .ref (adm 0)), (3, .int x3)]) (hi1 : vp_in (x3 + (1 : Int32)) L) (hi2 : vp_in (x3 + (2 : Int32)) L) (hi3 : vp_in (x3 + (3 : Int32)) L) (hi4 : vp_in (x3 + (4 : Int32)) L) (kk : ∀ (σ μ : St) (H : Heap) (locs : List Loc) (ls : Array Slot), Rel2 σ μ → LWd D cyI cyO adx adm s H locs σ μ → lv_has ls 4 [(0, .ref b), (1, .ref (adx 56)), (2, .ref (adm 0)), (3, .int x3)] → W p l e room_1 s m #[Value.ref b] below meth c H locs 600000 7302250 Q (F0 m 834 ls [])) : W p l e room_1 s m #[Value.ref b] below meth c H locs 600000 7302250 Q (F0 m 564 ls []) := by
  obtain ⟨hx, hb, hr, hml, hown, hts, hlk⟩ := id C
  have h := hsim σ μ  hR
  refine lv_aload_n hx hb dL_law_564 rfl (lv_at hl 1 rfl) ?_
  refine lwXi wd (gRunVq (y := yX9_sweeps) (k := 56) (As := []) (rest := []) C wd.1 (cmX9_sweeps (Nat.le_refl 60) h) ⟨rfl, rfl⟩ gdl_65 nk_X9_sweeps ⟨Nat.le_of_ble_eq_true rfl, Nat.le_of_ble_eq_true rfl⟩ (by decide) cc_X9 rfl rfl hl.1 (Nat.le_of_ble_eq_true rfl) dL_law_565 rfl ⟨Nat.le_of_ble_eq_true rfl, Nat.le_of_ble_eq_true rfl⟩) (fun r1 σ H locs h wd => ?_)
  try dsimp only at h
  refine lv_aload_n hx hb dL_law_568 rfl (lv_at hl 2 rfl) ?_
  refine lwMi wd (gRunVq (y := yX10_sweeps) (k := 0) (As := []) (rest := [.int r1]) C wd.2.1 (cmX10_sweeps h) ⟨rfl, rfl⟩ gdl_69 nk_X10_sweeps ⟨Nat.le_of_ble_eq_true rfl, Nat.le_of_ble_eq_true rfl⟩ (by decide) mc_X10 rfl rfl hl.1 (Nat.le_of_ble_eq_true rfl) dL_law_569 rfl ⟨Nat.le_of_ble_eq_true rfl, Nat.le_of_ble_eq_true rfl⟩) (fun r2 μ H locs h wd => ?_)
  try dsimp only at h
  refine lv_icmp_eq (tgt := 834) hx hb dL_law_572 (by decide) (fun c1 => ?_) (fun c1 => ?_)
  · exact kk _ _ _ _ _ h.2 wd hl
  · exact absurd h.1 c1
theorem gdl_70 : GoodIn gT (wsV RL 70 RX9 yX9_says (wsOf yX9_says cX9_says 2 (some .int))) := gdV tw3_95 tw3_96 tw3_97 tw1_1 tw3_98
theorem gdl_73 : GoodIn gT (wsV RL 73 RX10 yX10_says (wsOf yX10_says cX10_says 2 (some .int))) := gdV tw5_60 tw5_61 tw5_62 tw1_12 tw5_63
set_option maxHeartbeats 4000000 in
set_option maxRecDepth 100000 in
theorem lc_says {D : va_G} {cyI cyO : ClassId} {adx adm : Nat → Nat} {p : Program} {l : Launch} {e : Env} {s : State} {m : MethodId} {below : List Frame} {meth : Method} {c : Code} {b L : Nat} {xs : Nat → Int32} (C : Cx p s m #[Value.ref b] meth c code 4 ret RL) (hX : va_X b L xs s s.heap) (hbl : b < s.heap.size) {Q : State → Prop} {Rel Rel2 : St → St → Prop} (hsim : Sim_says Rel Rel2) {x3 : Int32} {σ μ : St} {H : Heap} {locs : List Loc} {ls : Array Slot} (hR : Rel σ μ) (wd : LWd D cyI cyO adx adm s H locs σ μ) (hbA : ¬ gA adx 60 s.heap.size b) (hl : lv_has ls 4 [(0, .ref b), (1, .ref (adx 56)), (2, .ref (adm 0)), (3, .int x3)]) (hi1 : vp_in (x3 + (1 : Int32)) L) (hi2 : vp_in (x3 + (2 : Int32)) L) (hi3 : vp_in (x3 + (3 : Int32)) L) (hi4 : vp_in (x3 + (4 : Int32)) L) (kk : ∀ (σ μ : St) (H : Heap) (locs : List Loc) (ls : Array Slot), Rel2 σ μ → LWd D cyI cyO adx adm s H locs σ μ → lv_has ls 4 [(0, .ref b), (1, .ref (adx 56)), (2, .ref (adm 0)), (3, .int x3)] → W p l e room_1 s m #[Value.ref b] below meth c H locs 600000 7302250 Q (F0 m 834 ls [])) : W p l e room_1 s m #[Value.ref b] below meth c H locs 600000 7302250 Q (F0 m 577 ls []) := by
  obtain ⟨hx, hb, hr, hml, hown, hts, hlk⟩ := id C
  have h := hsim σ μ (xs (x3 + (1 : Int32)).toNatClampNeg) hR
  refine lv_aload_n hx hb dL_law_577 rfl (lv_at hl 1 rfl) ?_
  refine lv_aload_n hx hb dL_law_578 rfl (lv_at hl 0 rfl) ?_
  refine lv_iload_n hx hb dL_law_579 rfl (lv_at hl 3 rfl) ?_
  refine lv_iconst (v := (1 : Int32)) hx hb dL_law_580 (by decide) ?_
  refine lv_iadd hx hb dL_law_581 ?_
  refine va_sld hx hb hX hbl hbA wd.1.2.2.2.2 hi1 dL_law_582 ?_
  refine lwXi wd (gRunVq (y := yX9_says) (k := 56) (As := [.int (xs (x3 + (1 : Int32)).toNatClampNeg)]) (rest := []) C wd.1 (cmX9_says (Nat.le_refl 60) h) ⟨rfl, rfl⟩ gdl_70 nk_X9_says ⟨Nat.le_of_ble_eq_true rfl, Nat.le_of_ble_eq_true rfl⟩ (by decide) cc_X9 rfl rfl hl.1 (Nat.le_of_ble_eq_true rfl) dL_law_583 rfl ⟨Nat.le_of_ble_eq_true rfl, Nat.le_of_ble_eq_true rfl⟩) (fun r1 σ H locs h wd => ?_)
  try dsimp only at h
  refine lv_aload_n hx hb dL_law_586 rfl (lv_at hl 2 rfl) ?_
  refine lv_aload_n hx hb dL_law_587 rfl (lv_at hl 0 rfl) ?_
  refine lv_iload_n hx hb dL_law_588 rfl (lv_at hl 3 rfl) ?_
  refine lv_iconst (v := (1 : Int32)) hx hb dL_law_589 (by decide) ?_
  refine lv_iadd hx hb dL_law_590 ?_
  refine va_sld hx hb hX hbl hbA wd.1.2.2.2.2 hi1 dL_law_591 ?_
  refine lwMi wd (gRunVq (y := yX10_says) (k := 0) (As := [.int (xs (x3 + (1 : Int32)).toNatClampNeg)]) (rest := [.int r1]) C wd.2.1 (cmX10_says h) ⟨rfl, rfl⟩ gdl_73 nk_X10_says ⟨Nat.le_of_ble_eq_true rfl, Nat.le_of_ble_eq_true rfl⟩ (by decide) mc_X10 rfl rfl hl.1 (Nat.le_of_ble_eq_true rfl) dL_law_592 rfl ⟨Nat.le_of_ble_eq_true rfl, Nat.le_of_ble_eq_true rfl⟩) (fun r2 μ H locs h wd => ?_)
  try dsimp only at h
  refine lv_icmp_eq (tgt := 834) hx hb dL_law_595 (by decide) (fun c1 => ?_) (fun c1 => ?_)
  · exact kk _ _ _ _ _ h.2 wd hl
  · exact absurd h.1 c1
theorem gdl_74 : GoodIn gT (wsV RL 74 RX9 yX9_release (wsOf yX9_release cX9_release 1 (some .int))) := gdV tw3_100 tw3_101 tw3_102 tw1_1 tw3_103
theorem gdl_77 : GoodIn gT (wsV RL 77 RX10 yX10_release (wsOf yX10_release cX10_release 1 (some .int))) := gdV tw5_64 tw5_65 tw5_66 tw1_12 tw5_67
set_option maxHeartbeats 4000000 in
set_option maxRecDepth 100000 in
theorem lc_release {D : va_G} {cyI cyO : ClassId} {adx adm : Nat → Nat} {p : Program} {l : Launch} {e : Env} {s : State} {m : MethodId} {below : List Frame} {meth : Method} {c : Code} {b L : Nat} {xs : Nat → Int32} (C : Cx p s m #[Value.ref b] meth c code 4 ret RL) (hX : va_X b L xs s s.heap) (hbl : b < s.heap.size) {Q : State → Prop} {Rel Rel2 : St → St → Prop} (hsim : Sim_release Rel Rel2) {x3 : Int32} {σ μ : St} {H : Heap} {locs : List Loc} {ls : Array Slot} (hR : Rel σ μ) (wd : LWd D cyI cyO adx adm s H locs σ μ) (hbA : ¬ gA adx 60 s.heap.size b) (hl : lv_has ls 4 [(0, .ref b), (1, .ref (adx 56)), (2, .ref (adm 0)), (3, .int x3)]) (hi1 : vp_in (x3 + (1 : Int32)) L) (hi2 : vp_in (x3 + (2 : Int32)) L) (hi3 : vp_in (x3 + (3 : Int32)) L) (hi4 : vp_in (x3 + (4 : Int32)) L) (kk : ∀ (σ μ : St) (H : Heap) (locs : List Loc) (ls : Array Slot), Rel2 σ μ → LWd D cyI cyO adx adm s H locs σ μ → lv_has ls 4 [(0, .ref b), (1, .ref (adx 56)), (2, .ref (adm 0)), (3, .int x3)] → W p l e room_1 s m #[Value.ref b] below meth c H locs 600000 7302250 Q (F0 m 834 ls [])) : W p l e room_1 s m #[Value.ref b] below meth c H locs 600000 7302250 Q (F0 m 600 ls []) := by
  obtain ⟨hx, hb, hr, hml, hown, hts, hlk⟩ := id C
  have h := hsim σ μ  hR
  refine lv_aload_n hx hb dL_law_600 rfl (lv_at hl 1 rfl) ?_
  refine lwXi wd (gRunVq (y := yX9_release) (k := 56) (As := []) (rest := []) C wd.1 (cmX9_release (Nat.le_refl 60) h) ⟨rfl, rfl⟩ gdl_74 nk_X9_release ⟨Nat.le_of_ble_eq_true rfl, Nat.le_of_ble_eq_true rfl⟩ (by decide) cc_X9 rfl rfl hl.1 (Nat.le_of_ble_eq_true rfl) dL_law_601 rfl ⟨Nat.le_of_ble_eq_true rfl, Nat.le_of_ble_eq_true rfl⟩) (fun r1 σ H locs h wd => ?_)
  try dsimp only at h
  refine lv_aload_n hx hb dL_law_604 rfl (lv_at hl 2 rfl) ?_
  refine lwMi wd (gRunVq (y := yX10_release) (k := 0) (As := []) (rest := [.int r1]) C wd.2.1 (cmX10_release h) ⟨rfl, rfl⟩ gdl_77 nk_X10_release ⟨Nat.le_of_ble_eq_true rfl, Nat.le_of_ble_eq_true rfl⟩ (by decide) mc_X10 rfl rfl hl.1 (Nat.le_of_ble_eq_true rfl) dL_law_605 rfl ⟨Nat.le_of_ble_eq_true rfl, Nat.le_of_ble_eq_true rfl⟩) (fun r2 μ H locs h wd => ?_)
  try dsimp only at h
  refine lv_icmp_eq (tgt := 834) hx hb dL_law_608 (by decide) (fun c1 => ?_) (fun c1 => ?_)
  · exact kk _ _ _ _ _ h.2 wd hl
  · exact absurd h.1 c1
theorem gdl_78 : GoodIn gT (wsV RL 78 RX9 yX9_saying (wsOf yX9_saying cX9_saying 4 (some .int))) := gdV tw3_125 tw3_126 tw3_127 tw1_1 tw3_128
theorem gdl_81 : GoodIn gT (wsV RL 81 RX10 yX10_saying (wsOf yX10_saying cX10_saying 3 (some .int))) := gdV tw5_80 tw5_81 tw5_82 tw1_12 tw5_83
set_option maxHeartbeats 4000000 in
set_option maxRecDepth 100000 in
theorem lc_saying {D : va_G} {cyI cyO : ClassId} {adx adm : Nat → Nat} {p : Program} {l : Launch} {e : Env} {s : State} {m : MethodId} {below : List Frame} {meth : Method} {c : Code} {b L : Nat} {xs : Nat → Int32} (C : Cx p s m #[Value.ref b] meth c code 4 ret RL) (hX : va_X b L xs s s.heap) (hbl : b < s.heap.size) {Q : State → Prop} {Rel Rel2 : St → St → Prop} (hsim : Sim_saying Rel Rel2) {x3 : Int32} {σ μ : St} {H : Heap} {locs : List Loc} {ls : Array Slot} (hR : Rel σ μ) (wd : LWd D cyI cyO adx adm s H locs σ μ) (hbA : ¬ gA adx 60 s.heap.size b) (hl : lv_has ls 4 [(0, .ref b), (1, .ref (adx 56)), (2, .ref (adm 0)), (3, .int x3)]) (hi1 : vp_in (x3 + (1 : Int32)) L) (hi2 : vp_in (x3 + (2 : Int32)) L) (hi3 : vp_in (x3 + (3 : Int32)) L) (hi4 : vp_in (x3 + (4 : Int32)) L) (kk : ∀ (σ μ : St) (H : Heap) (locs : List Loc) (ls : Array Slot), Rel2 σ μ → LWd D cyI cyO adx adm s H locs σ μ → lv_has ls 4 [(0, .ref b), (1, .ref (adx 56)), (2, .ref (adm 0)), (3, .int x3)] → W p l e room_1 s m #[Value.ref b] below meth c H locs 600000 7302250 Q (F0 m 834 ls [])) : W p l e room_1 s m #[Value.ref b] below meth c H locs 600000 7302250 Q (F0 m 613 ls []) := by
  obtain ⟨hx, hb, hr, hml, hown, hts, hlk⟩ := id C
  have h := hsim σ μ (xs (x3 + (1 : Int32)).toNatClampNeg) (xs (x3 + (2 : Int32)).toNatClampNeg) hR
  refine lv_aload_n hx hb dL_law_613 rfl (lv_at hl 1 rfl) ?_
  refine lv_aload_n hx hb dL_law_614 rfl (lv_at hl 0 rfl) ?_
  refine lv_iload_n hx hb dL_law_615 rfl (lv_at hl 3 rfl) ?_
  refine lv_iconst (v := (1 : Int32)) hx hb dL_law_616 (by decide) ?_
  refine lv_iadd hx hb dL_law_617 ?_
  refine va_sld hx hb hX hbl hbA wd.1.2.2.2.2 hi1 dL_law_618 ?_
  refine lv_aload_n hx hb dL_law_619 rfl (lv_at hl 0 rfl) ?_
  refine lv_iload_n hx hb dL_law_620 rfl (lv_at hl 3 rfl) ?_
  refine lv_iconst (v := (2 : Int32)) hx hb dL_law_621 (by decide) ?_
  refine lv_iadd hx hb dL_law_622 ?_
  refine va_sld hx hb hX hbl hbA wd.1.2.2.2.2 hi2 dL_law_623 ?_
  refine lwXi wd (gRunVq (y := yX9_saying) (k := 56) (As := [.int (xs (x3 + (1 : Int32)).toNatClampNeg), .int (xs (x3 + (2 : Int32)).toNatClampNeg)]) (rest := []) C wd.1 (cmX9_saying (Nat.le_refl 60) h) ⟨rfl, rfl⟩ gdl_78 nk_X9_saying ⟨Nat.le_of_ble_eq_true rfl, Nat.le_of_ble_eq_true rfl⟩ (by decide) cc_X9 rfl rfl hl.1 (Nat.le_of_ble_eq_true rfl) dL_law_624 rfl ⟨Nat.le_of_ble_eq_true rfl, Nat.le_of_ble_eq_true rfl⟩) (fun r1 σ H locs h wd => ?_)
  try dsimp only at h
  refine lv_aload_n hx hb dL_law_627 rfl (lv_at hl 2 rfl) ?_
  refine lv_aload_n hx hb dL_law_628 rfl (lv_at hl 0 rfl) ?_
  refine lv_iload_n hx hb dL_law_629 rfl (lv_at hl 3 rfl) ?_
  refine lv_iconst (v := (1 : Int32)) hx hb dL_law_630 (by decide) ?_
  refine lv_iadd hx hb dL_law_631 ?_
  refine va_sld hx hb hX hbl hbA wd.1.2.2.2.2 hi1 dL_law_632 ?_
  refine lv_aload_n hx hb dL_law_633 rfl (lv_at hl 0 rfl) ?_
  refine lv_iload_n hx hb dL_law_634 rfl (lv_at hl 3 rfl) ?_
  refine lv_iconst (v := (2 : Int32)) hx hb dL_law_635 (by decide) ?_
  refine lv_iadd hx hb dL_law_636 ?_
  refine va_sld hx hb hX hbl hbA wd.1.2.2.2.2 hi2 dL_law_637 ?_
  refine lwMi wd (gRunVq (y := yX10_saying) (k := 0) (As := [.int (xs (x3 + (1 : Int32)).toNatClampNeg), .int (xs (x3 + (2 : Int32)).toNatClampNeg)]) (rest := [.int r1]) C wd.2.1 (cmX10_saying h) ⟨rfl, rfl⟩ gdl_81 nk_X10_saying ⟨Nat.le_of_ble_eq_true rfl, Nat.le_of_ble_eq_true rfl⟩ (by decide) mc_X10 rfl rfl hl.1 (Nat.le_of_ble_eq_true rfl) dL_law_638 rfl ⟨Nat.le_of_ble_eq_true rfl, Nat.le_of_ble_eq_true rfl⟩) (fun r2 μ H locs h wd => ?_)
  try dsimp only at h
  refine lv_icmp_eq (tgt := 834) hx hb dL_law_641 (by decide) (fun c1 => ?_) (fun c1 => ?_)
  · exact kk _ _ _ _ _ h.2 wd hl
  · exact absurd h.1 c1
theorem gdl_82 : GoodIn gT (wsV RL 82 RX9 yX9_released (wsOf yX9_released cX9_released 2 (some .int))) := gdV tw3_133 tw3_134 tw3_135 tw1_1 tw3_136
theorem gdl_85 : GoodIn gT (wsV RL 85 RX10 yX10_released (wsOf yX10_released cX10_released 2 (some .int))) := gdV tw5_88 tw5_89 tw5_90 tw1_12 tw5_91
set_option maxHeartbeats 4000000 in
set_option maxRecDepth 100000 in
theorem lc_released {D : va_G} {cyI cyO : ClassId} {adx adm : Nat → Nat} {p : Program} {l : Launch} {e : Env} {s : State} {m : MethodId} {below : List Frame} {meth : Method} {c : Code} {b L : Nat} {xs : Nat → Int32} (C : Cx p s m #[Value.ref b] meth c code 4 ret RL) (hX : va_X b L xs s s.heap) (hbl : b < s.heap.size) {Q : State → Prop} {Rel Rel2 : St → St → Prop} (hsim : Sim_released Rel Rel2) {x3 : Int32} {σ μ : St} {H : Heap} {locs : List Loc} {ls : Array Slot} (hR : Rel σ μ) (wd : LWd D cyI cyO adx adm s H locs σ μ) (hbA : ¬ gA adx 60 s.heap.size b) (hl : lv_has ls 4 [(0, .ref b), (1, .ref (adx 56)), (2, .ref (adm 0)), (3, .int x3)]) (hi1 : vp_in (x3 + (1 : Int32)) L) (hi2 : vp_in (x3 + (2 : Int32)) L) (hi3 : vp_in (x3 + (3 : Int32)) L) (hi4 : vp_in (x3 + (4 : Int32)) L) (kk : ∀ (σ μ : St) (H : Heap) (locs : List Loc) (ls : Array Slot), Rel2 σ μ → LWd D cyI cyO adx adm s H locs σ μ → lv_has ls 4 [(0, .ref b), (1, .ref (adx 56)), (2, .ref (adm 0)), (3, .int x3)] → W p l e room_1 s m #[Value.ref b] below meth c H locs 600000 7302250 Q (F0 m 834 ls [])) : W p l e room_1 s m #[Value.ref b] below meth c H locs 600000 7302250 Q (F0 m 646 ls []) := by
  obtain ⟨hx, hb, hr, hml, hown, hts, hlk⟩ := id C
  have h := hsim σ μ (xs (x3 + (1 : Int32)).toNatClampNeg) hR
  refine lv_aload_n hx hb dL_law_646 rfl (lv_at hl 1 rfl) ?_
  refine lv_aload_n hx hb dL_law_647 rfl (lv_at hl 0 rfl) ?_
  refine lv_iload_n hx hb dL_law_648 rfl (lv_at hl 3 rfl) ?_
  refine lv_iconst (v := (1 : Int32)) hx hb dL_law_649 (by decide) ?_
  refine lv_iadd hx hb dL_law_650 ?_
  refine va_sld hx hb hX hbl hbA wd.1.2.2.2.2 hi1 dL_law_651 ?_
  refine lwXi wd (gRunVq (y := yX9_released) (k := 56) (As := [.int (xs (x3 + (1 : Int32)).toNatClampNeg)]) (rest := []) C wd.1 (cmX9_released (Nat.le_refl 60) h) ⟨rfl, rfl⟩ gdl_82 nk_X9_released ⟨Nat.le_of_ble_eq_true rfl, Nat.le_of_ble_eq_true rfl⟩ (by decide) cc_X9 rfl rfl hl.1 (Nat.le_of_ble_eq_true rfl) dL_law_652 rfl ⟨Nat.le_of_ble_eq_true rfl, Nat.le_of_ble_eq_true rfl⟩) (fun r1 σ H locs h wd => ?_)
  try dsimp only at h
  refine lv_aload_n hx hb dL_law_655 rfl (lv_at hl 2 rfl) ?_
  refine lv_aload_n hx hb dL_law_656 rfl (lv_at hl 0 rfl) ?_
  refine lv_iload_n hx hb dL_law_657 rfl (lv_at hl 3 rfl) ?_
  refine lv_iconst (v := (1 : Int32)) hx hb dL_law_658 (by decide) ?_
  refine lv_iadd hx hb dL_law_659 ?_
  refine va_sld hx hb hX hbl hbA wd.1.2.2.2.2 hi1 dL_law_660 ?_
  refine lwMi wd (gRunVq (y := yX10_released) (k := 0) (As := [.int (xs (x3 + (1 : Int32)).toNatClampNeg)]) (rest := [.int r1]) C wd.2.1 (cmX10_released h) ⟨rfl, rfl⟩ gdl_85 nk_X10_released ⟨Nat.le_of_ble_eq_true rfl, Nat.le_of_ble_eq_true rfl⟩ (by decide) mc_X10 rfl rfl hl.1 (Nat.le_of_ble_eq_true rfl) dL_law_661 rfl ⟨Nat.le_of_ble_eq_true rfl, Nat.le_of_ble_eq_true rfl⟩) (fun r2 μ H locs h wd => ?_)
  try dsimp only at h
  refine lv_icmp_eq (tgt := 834) hx hb dL_law_664 (by decide) (fun c1 => ?_) (fun c1 => ?_)
  · exact kk _ _ _ _ _ h.2 wd hl
  · exact absurd h.1 c1
theorem gdl_86 : GoodIn gT (wsV RL 86 RX9 yX9_cuts (wsOf yX9_cuts cX9_cuts 2 (some .int))) := gdV tw3_141 tw3_142 tw3_143 tw1_1 tw3_144
theorem gdl_89 : GoodIn gT (wsV RL 89 RX10 yX10_cuts (wsOf yX10_cuts cX10_cuts 2 (some .int))) := gdV tw5_92 tw5_93 tw5_94 tw1_12 tw5_95
set_option maxHeartbeats 4000000 in
set_option maxRecDepth 100000 in
theorem lc_cuts {D : va_G} {cyI cyO : ClassId} {adx adm : Nat → Nat} {p : Program} {l : Launch} {e : Env} {s : State} {m : MethodId} {below : List Frame} {meth : Method} {c : Code} {b L : Nat} {xs : Nat → Int32} (C : Cx p s m #[Value.ref b] meth c code 4 ret RL) (hX : va_X b L xs s s.heap) (hbl : b < s.heap.size) {Q : State → Prop} {Rel Rel2 : St → St → Prop} (hsim : Sim_cuts Rel Rel2) {x3 : Int32} {σ μ : St} {H : Heap} {locs : List Loc} {ls : Array Slot} (hR : Rel σ μ) (wd : LWd D cyI cyO adx adm s H locs σ μ) (hbA : ¬ gA adx 60 s.heap.size b) (hl : lv_has ls 4 [(0, .ref b), (1, .ref (adx 56)), (2, .ref (adm 0)), (3, .int x3)]) (hi1 : vp_in (x3 + (1 : Int32)) L) (hi2 : vp_in (x3 + (2 : Int32)) L) (hi3 : vp_in (x3 + (3 : Int32)) L) (hi4 : vp_in (x3 + (4 : Int32)) L) (kk : ∀ (σ μ : St) (H : Heap) (locs : List Loc) (ls : Array Slot), Rel2 σ μ → LWd D cyI cyO adx adm s H locs σ μ → lv_has ls 4 [(0, .ref b), (1, .ref (adx 56)), (2, .ref (adm 0)), (3, .int x3)] → W p l e room_1 s m #[Value.ref b] below meth c H locs 600000 7302250 Q (F0 m 834 ls [])) : W p l e room_1 s m #[Value.ref b] below meth c H locs 600000 7302250 Q (F0 m 669 ls []) := by
  obtain ⟨hx, hb, hr, hml, hown, hts, hlk⟩ := id C
  have h := hsim σ μ (xs (x3 + (1 : Int32)).toNatClampNeg) hR
  refine lv_aload_n hx hb dL_law_669 rfl (lv_at hl 1 rfl) ?_
  refine lv_aload_n hx hb dL_law_670 rfl (lv_at hl 0 rfl) ?_
  refine lv_iload_n hx hb dL_law_671 rfl (lv_at hl 3 rfl) ?_
  refine lv_iconst (v := (1 : Int32)) hx hb dL_law_672 (by decide) ?_
  refine lv_iadd hx hb dL_law_673 ?_
  refine va_sld hx hb hX hbl hbA wd.1.2.2.2.2 hi1 dL_law_674 ?_
  refine lwXi wd (gRunVq (y := yX9_cuts) (k := 56) (As := [.int (xs (x3 + (1 : Int32)).toNatClampNeg)]) (rest := []) C wd.1 (cmX9_cuts (Nat.le_refl 60) h) ⟨rfl, rfl⟩ gdl_86 nk_X9_cuts ⟨Nat.le_of_ble_eq_true rfl, Nat.le_of_ble_eq_true rfl⟩ (by decide) cc_X9 rfl rfl hl.1 (Nat.le_of_ble_eq_true rfl) dL_law_675 rfl ⟨Nat.le_of_ble_eq_true rfl, Nat.le_of_ble_eq_true rfl⟩) (fun r1 σ H locs h wd => ?_)
  try dsimp only at h
  refine lv_aload_n hx hb dL_law_678 rfl (lv_at hl 2 rfl) ?_
  refine lv_aload_n hx hb dL_law_679 rfl (lv_at hl 0 rfl) ?_
  refine lv_iload_n hx hb dL_law_680 rfl (lv_at hl 3 rfl) ?_
  refine lv_iconst (v := (1 : Int32)) hx hb dL_law_681 (by decide) ?_
  refine lv_iadd hx hb dL_law_682 ?_
  refine va_sld hx hb hX hbl hbA wd.1.2.2.2.2 hi1 dL_law_683 ?_
  refine lwMi wd (gRunVq (y := yX10_cuts) (k := 0) (As := [.int (xs (x3 + (1 : Int32)).toNatClampNeg)]) (rest := [.int r1]) C wd.2.1 (cmX10_cuts h) ⟨rfl, rfl⟩ gdl_89 nk_X10_cuts ⟨Nat.le_of_ble_eq_true rfl, Nat.le_of_ble_eq_true rfl⟩ (by decide) mc_X10 rfl rfl hl.1 (Nat.le_of_ble_eq_true rfl) dL_law_684 rfl ⟨Nat.le_of_ble_eq_true rfl, Nat.le_of_ble_eq_true rfl⟩) (fun r2 μ H locs h wd => ?_)
  try dsimp only at h
  refine lv_icmp_eq (tgt := 834) hx hb dL_law_687 (by decide) (fun c1 => ?_) (fun c1 => ?_)
  · exact kk _ _ _ _ _ h.2 wd hl
  · exact absurd h.1 c1
theorem gdl_90 : GoodIn gT (wsV RL 90 RX9 yX9_would (wsOf yX9_would cX9_would 4 (some .int))) := gdV tw3_150 tw3_151 tw3_152 tw1_1 tw3_153
theorem gdl_93 : GoodIn gT (wsV RL 93 RX10 yX10_would (wsOf yX10_would cX10_would 4 (some .int))) := gdV tw4_216 tw4_217 tw4_218 tw1_12 tw4_219
set_option maxHeartbeats 4000000 in
set_option maxRecDepth 100000 in
theorem lc_would {D : va_G} {cyI cyO : ClassId} {adx adm : Nat → Nat} {p : Program} {l : Launch} {e : Env} {s : State} {m : MethodId} {below : List Frame} {meth : Method} {c : Code} {b L : Nat} {xs : Nat → Int32} (C : Cx p s m #[Value.ref b] meth c code 4 ret RL) (hX : va_X b L xs s s.heap) (hbl : b < s.heap.size) {Q : State → Prop} {Rel Rel2 : St → St → Prop} (hsim : Sim_would Rel Rel2) {x3 : Int32} {σ μ : St} {H : Heap} {locs : List Loc} {ls : Array Slot} (hR : Rel σ μ) (wd : LWd D cyI cyO adx adm s H locs σ μ) (hbA : ¬ gA adx 60 s.heap.size b) (hl : lv_has ls 4 [(0, .ref b), (1, .ref (adx 56)), (2, .ref (adm 0)), (3, .int x3)]) (hi1 : vp_in (x3 + (1 : Int32)) L) (hi2 : vp_in (x3 + (2 : Int32)) L) (hi3 : vp_in (x3 + (3 : Int32)) L) (hi4 : vp_in (x3 + (4 : Int32)) L) (kk : ∀ (σ μ : St) (H : Heap) (locs : List Loc) (ls : Array Slot), Rel2 σ μ → LWd D cyI cyO adx adm s H locs σ μ → lv_has ls 4 [(0, .ref b), (1, .ref (adx 56)), (2, .ref (adm 0)), (3, .int x3)] → W p l e room_1 s m #[Value.ref b] below meth c H locs 600000 7302250 Q (F0 m 834 ls [])) : W p l e room_1 s m #[Value.ref b] below meth c H locs 600000 7302250 Q (F0 m 692 ls []) := by
  obtain ⟨hx, hb, hr, hml, hown, hts, hlk⟩ := id C
  have h := hsim σ μ (xs (x3 + (1 : Int32)).toNatClampNeg) (xs (x3 + (2 : Int32)).toNatClampNeg) hR
  refine lv_aload_n hx hb dL_law_692 rfl (lv_at hl 1 rfl) ?_
  refine lv_aload_n hx hb dL_law_693 rfl (lv_at hl 0 rfl) ?_
  refine lv_iload_n hx hb dL_law_694 rfl (lv_at hl 3 rfl) ?_
  refine lv_iconst (v := (1 : Int32)) hx hb dL_law_695 (by decide) ?_
  refine lv_iadd hx hb dL_law_696 ?_
  refine va_sld hx hb hX hbl hbA wd.1.2.2.2.2 hi1 dL_law_697 ?_
  refine lv_aload_n hx hb dL_law_698 rfl (lv_at hl 0 rfl) ?_
  refine lv_iload_n hx hb dL_law_699 rfl (lv_at hl 3 rfl) ?_
  refine lv_iconst (v := (2 : Int32)) hx hb dL_law_700 (by decide) ?_
  refine lv_iadd hx hb dL_law_701 ?_
  refine va_sld hx hb hX hbl hbA wd.1.2.2.2.2 hi2 dL_law_702 ?_
  refine lwXi wd (gRunVq (y := yX9_would) (k := 56) (As := [.int (xs (x3 + (1 : Int32)).toNatClampNeg), .int (xs (x3 + (2 : Int32)).toNatClampNeg)]) (rest := []) C wd.1 (cmX9_would (Nat.le_refl 60) h) ⟨rfl, rfl⟩ gdl_90 nk_X9_would ⟨Nat.le_of_ble_eq_true rfl, Nat.le_of_ble_eq_true rfl⟩ (by decide) cc_X9 rfl rfl hl.1 (Nat.le_of_ble_eq_true rfl) dL_law_703 rfl ⟨Nat.le_of_ble_eq_true rfl, Nat.le_of_ble_eq_true rfl⟩) (fun r1 σ H locs h wd => ?_)
  try dsimp only at h
  refine lv_aload_n hx hb dL_law_706 rfl (lv_at hl 2 rfl) ?_
  refine lv_aload_n hx hb dL_law_707 rfl (lv_at hl 0 rfl) ?_
  refine lv_iload_n hx hb dL_law_708 rfl (lv_at hl 3 rfl) ?_
  refine lv_iconst (v := (1 : Int32)) hx hb dL_law_709 (by decide) ?_
  refine lv_iadd hx hb dL_law_710 ?_
  refine va_sld hx hb hX hbl hbA wd.1.2.2.2.2 hi1 dL_law_711 ?_
  refine lv_aload_n hx hb dL_law_712 rfl (lv_at hl 0 rfl) ?_
  refine lv_iload_n hx hb dL_law_713 rfl (lv_at hl 3 rfl) ?_
  refine lv_iconst (v := (2 : Int32)) hx hb dL_law_714 (by decide) ?_
  refine lv_iadd hx hb dL_law_715 ?_
  refine va_sld hx hb hX hbl hbA wd.1.2.2.2.2 hi2 dL_law_716 ?_
  refine lwMi wd (gRunVq (y := yX10_would) (k := 0) (As := [.int (xs (x3 + (1 : Int32)).toNatClampNeg), .int (xs (x3 + (2 : Int32)).toNatClampNeg)]) (rest := [.int r1]) C wd.2.1 (cmX10_would h) ⟨rfl, rfl⟩ gdl_93 nk_X10_would ⟨Nat.le_of_ble_eq_true rfl, Nat.le_of_ble_eq_true rfl⟩ (by decide) mc_X10 rfl rfl hl.1 (Nat.le_of_ble_eq_true rfl) dL_law_717 rfl ⟨Nat.le_of_ble_eq_true rfl, Nat.le_of_ble_eq_true rfl⟩) (fun r2 μ H locs h wd => ?_)
  try dsimp only at h
  refine lv_icmp_eq (tgt := 834) hx hb dL_law_720 (by decide) (fun c1 => ?_) (fun c1 => ?_)
  · exact kk _ _ _ _ _ h.2 wd hl
  · exact absurd h.1 c1
theorem gdl_94 : GoodIn gT (wsV RL 94 RX9 yX9_worst (wsOf yX9_worst cX9_worst 3 (some .int))) := gdV tw3_167 tw3_168 tw3_169 tw1_1 tw3_170
theorem gdl_97 : GoodIn gT (wsV RL 97 RX10 yX10_worst (wsOf yX10_worst cX10_worst 6 (some .int))) := gdV tw4_224 tw4_225 tw4_226 tw1_12 tw4_227
set_option maxHeartbeats 4000000 in
set_option maxRecDepth 100000 in
theorem lc_worst {D : va_G} {cyI cyO : ClassId} {adx adm : Nat → Nat} {p : Program} {l : Launch} {e : Env} {s : State} {m : MethodId} {below : List Frame} {meth : Method} {c : Code} {b L : Nat} {xs : Nat → Int32} (C : Cx p s m #[Value.ref b] meth c code 4 ret RL) (hX : va_X b L xs s s.heap) (hbl : b < s.heap.size) {Q : State → Prop} {Rel Rel2 : St → St → Prop} (hsim : Sim_worst Rel Rel2) {x3 : Int32} {σ μ : St} {H : Heap} {locs : List Loc} {ls : Array Slot} (hR : Rel σ μ) (wd : LWd D cyI cyO adx adm s H locs σ μ) (hbA : ¬ gA adx 60 s.heap.size b) (hl : lv_has ls 4 [(0, .ref b), (1, .ref (adx 56)), (2, .ref (adm 0)), (3, .int x3)]) (hi1 : vp_in (x3 + (1 : Int32)) L) (hi2 : vp_in (x3 + (2 : Int32)) L) (hi3 : vp_in (x3 + (3 : Int32)) L) (hi4 : vp_in (x3 + (4 : Int32)) L) (kk : ∀ (σ μ : St) (H : Heap) (locs : List Loc) (ls : Array Slot), Rel2 σ μ → LWd D cyI cyO adx adm s H locs σ μ → lv_has ls 4 [(0, .ref b), (1, .ref (adx 56)), (2, .ref (adm 0)), (3, .int x3)] → W p l e room_1 s m #[Value.ref b] below meth c H locs 600000 7302250 Q (F0 m 834 ls [])) : W p l e room_1 s m #[Value.ref b] below meth c H locs 600000 7302250 Q (F0 m 725 ls []) := by
  obtain ⟨hx, hb, hr, hml, hown, hts, hlk⟩ := id C
  have h := hsim σ μ (xs (x3 + (1 : Int32)).toNatClampNeg) hR
  refine lv_aload_n hx hb dL_law_725 rfl (lv_at hl 1 rfl) ?_
  refine lv_aload_n hx hb dL_law_726 rfl (lv_at hl 0 rfl) ?_
  refine lv_iload_n hx hb dL_law_727 rfl (lv_at hl 3 rfl) ?_
  refine lv_iconst (v := (1 : Int32)) hx hb dL_law_728 (by decide) ?_
  refine lv_iadd hx hb dL_law_729 ?_
  refine va_sld hx hb hX hbl hbA wd.1.2.2.2.2 hi1 dL_law_730 ?_
  refine lwXi wd (gRunVq (y := yX9_worst) (k := 56) (As := [.int (xs (x3 + (1 : Int32)).toNatClampNeg)]) (rest := []) C wd.1 (cmX9_worst (Nat.le_refl 60) h) ⟨rfl, rfl⟩ gdl_94 nk_X9_worst ⟨Nat.le_of_ble_eq_true rfl, Nat.le_of_ble_eq_true rfl⟩ (by decide) cc_X9 rfl rfl hl.1 (Nat.le_of_ble_eq_true rfl) dL_law_731 rfl ⟨Nat.le_of_ble_eq_true rfl, Nat.le_of_ble_eq_true rfl⟩) (fun r1 σ H locs h wd => ?_)
  try dsimp only at h
  refine lv_aload_n hx hb dL_law_734 rfl (lv_at hl 2 rfl) ?_
  refine lv_aload_n hx hb dL_law_735 rfl (lv_at hl 0 rfl) ?_
  refine lv_iload_n hx hb dL_law_736 rfl (lv_at hl 3 rfl) ?_
  refine lv_iconst (v := (1 : Int32)) hx hb dL_law_737 (by decide) ?_
  refine lv_iadd hx hb dL_law_738 ?_
  refine va_sld hx hb hX hbl hbA wd.1.2.2.2.2 hi1 dL_law_739 ?_
  refine lwMi wd (gRunVq (y := yX10_worst) (k := 0) (As := [.int (xs (x3 + (1 : Int32)).toNatClampNeg)]) (rest := [.int r1]) C wd.2.1 (cmX10_worst h) ⟨rfl, rfl⟩ gdl_97 nk_X10_worst ⟨Nat.le_of_ble_eq_true rfl, Nat.le_of_ble_eq_true rfl⟩ (by decide) mc_X10 rfl rfl hl.1 (Nat.le_of_ble_eq_true rfl) dL_law_740 rfl ⟨Nat.le_of_ble_eq_true rfl, Nat.le_of_ble_eq_true rfl⟩) (fun r2 μ H locs h wd => ?_)
  try dsimp only at h
  refine lv_icmp_eq (tgt := 834) hx hb dL_law_743 (by decide) (fun c1 => ?_) (fun c1 => ?_)
  · exact kk _ _ _ _ _ h.2 wd hl
  · exact absurd h.1 c1
theorem gdl_98 : GoodIn gT (wsV RL 98 RX9 yX9_type (wsOf yX9_type cX9_type 2 (some .int))) := gdV tw3_176 tw3_177 tw3_178 tw1_1 tw3_179
theorem gdl_101 : GoodIn gT (wsV RL 101 RX10 yX10_type (wsOf yX10_type cX10_type 2 (some .int))) := gdV tw5_100 tw5_101 tw5_102 tw1_12 tw5_103
set_option maxHeartbeats 4000000 in
set_option maxRecDepth 100000 in
theorem lc_type {D : va_G} {cyI cyO : ClassId} {adx adm : Nat → Nat} {p : Program} {l : Launch} {e : Env} {s : State} {m : MethodId} {below : List Frame} {meth : Method} {c : Code} {b L : Nat} {xs : Nat → Int32} (C : Cx p s m #[Value.ref b] meth c code 4 ret RL) (hX : va_X b L xs s s.heap) (hbl : b < s.heap.size) {Q : State → Prop} {Rel Rel2 : St → St → Prop} (hsim : Sim_type Rel Rel2) {x3 : Int32} {σ μ : St} {H : Heap} {locs : List Loc} {ls : Array Slot} (hR : Rel σ μ) (wd : LWd D cyI cyO adx adm s H locs σ μ) (hbA : ¬ gA adx 60 s.heap.size b) (hl : lv_has ls 4 [(0, .ref b), (1, .ref (adx 56)), (2, .ref (adm 0)), (3, .int x3)]) (hi1 : vp_in (x3 + (1 : Int32)) L) (hi2 : vp_in (x3 + (2 : Int32)) L) (hi3 : vp_in (x3 + (3 : Int32)) L) (hi4 : vp_in (x3 + (4 : Int32)) L) (kk : ∀ (σ μ : St) (H : Heap) (locs : List Loc) (ls : Array Slot), Rel2 σ μ → LWd D cyI cyO adx adm s H locs σ μ → lv_has ls 4 [(0, .ref b), (1, .ref (adx 56)), (2, .ref (adm 0)), (3, .int x3)] → W p l e room_1 s m #[Value.ref b] below meth c H locs 600000 7302250 Q (F0 m 834 ls [])) : W p l e room_1 s m #[Value.ref b] below meth c H locs 600000 7302250 Q (F0 m 748 ls []) := by
  obtain ⟨hx, hb, hr, hml, hown, hts, hlk⟩ := id C
  have h := hsim σ μ (xs (x3 + (1 : Int32)).toNatClampNeg) hR
  refine lv_aload_n hx hb dL_law_748 rfl (lv_at hl 1 rfl) ?_
  refine lv_aload_n hx hb dL_law_749 rfl (lv_at hl 0 rfl) ?_
  refine lv_iload_n hx hb dL_law_750 rfl (lv_at hl 3 rfl) ?_
  refine lv_iconst (v := (1 : Int32)) hx hb dL_law_751 (by decide) ?_
  refine lv_iadd hx hb dL_law_752 ?_
  refine va_sld hx hb hX hbl hbA wd.1.2.2.2.2 hi1 dL_law_753 ?_
  refine lwXi wd (gRunVq (y := yX9_type) (k := 56) (As := [.int (xs (x3 + (1 : Int32)).toNatClampNeg)]) (rest := []) C wd.1 (cmX9_type (Nat.le_refl 60) h) ⟨rfl, rfl⟩ gdl_98 nk_X9_type ⟨Nat.le_of_ble_eq_true rfl, Nat.le_of_ble_eq_true rfl⟩ (by decide) cc_X9 rfl rfl hl.1 (Nat.le_of_ble_eq_true rfl) dL_law_754 rfl ⟨Nat.le_of_ble_eq_true rfl, Nat.le_of_ble_eq_true rfl⟩) (fun r1 σ H locs h wd => ?_)
  try dsimp only at h
  refine lv_aload_n hx hb dL_law_757 rfl (lv_at hl 2 rfl) ?_
  refine lv_aload_n hx hb dL_law_758 rfl (lv_at hl 0 rfl) ?_
  refine lv_iload_n hx hb dL_law_759 rfl (lv_at hl 3 rfl) ?_
  refine lv_iconst (v := (1 : Int32)) hx hb dL_law_760 (by decide) ?_
  refine lv_iadd hx hb dL_law_761 ?_
  refine va_sld hx hb hX hbl hbA wd.1.2.2.2.2 hi1 dL_law_762 ?_
  refine lwMi wd (gRunVq (y := yX10_type) (k := 0) (As := [.int (xs (x3 + (1 : Int32)).toNatClampNeg)]) (rest := [.int r1]) C wd.2.1 (cmX10_type h) ⟨rfl, rfl⟩ gdl_101 nk_X10_type ⟨Nat.le_of_ble_eq_true rfl, Nat.le_of_ble_eq_true rfl⟩ (by decide) mc_X10 rfl rfl hl.1 (Nat.le_of_ble_eq_true rfl) dL_law_763 rfl ⟨Nat.le_of_ble_eq_true rfl, Nat.le_of_ble_eq_true rfl⟩) (fun r2 μ H locs h wd => ?_)
  try dsimp only at h
  refine lv_icmp_eq (tgt := 834) hx hb dL_law_766 (by decide) (fun c1 => ?_) (fun c1 => ?_)
  · exact kk _ _ _ _ _ h.2 wd hl
  · exact absurd h.1 c1
theorem gdl_102 : GoodIn gT (wsV RL 102 RX9 yX9_clear (wsOf yX9_clear cX9_clear 1 (some .int))) := gdV tw3_185 tw3_186 tw3_187 tw1_1 tw3_188
theorem gdl_105 : GoodIn gT (wsV RL 105 RX10 yX10_clear (wsOf yX10_clear cX10_clear 2 (some .int))) := gdV tw5_109 tw5_110 tw5_111 tw1_12 tw5_112
set_option maxHeartbeats 4000000 in
set_option maxRecDepth 100000 in
theorem lc_clear {D : va_G} {cyI cyO : ClassId} {adx adm : Nat → Nat} {p : Program} {l : Launch} {e : Env} {s : State} {m : MethodId} {below : List Frame} {meth : Method} {c : Code} {b L : Nat} {xs : Nat → Int32} (C : Cx p s m #[Value.ref b] meth c code 4 ret RL) (hX : va_X b L xs s s.heap) (hbl : b < s.heap.size) {Q : State → Prop} {Rel Rel2 : St → St → Prop} (hsim : Sim_clear Rel Rel2) {x3 : Int32} {σ μ : St} {H : Heap} {locs : List Loc} {ls : Array Slot} (hR : Rel σ μ) (wd : LWd D cyI cyO adx adm s H locs σ μ) (hbA : ¬ gA adx 60 s.heap.size b) (hl : lv_has ls 4 [(0, .ref b), (1, .ref (adx 56)), (2, .ref (adm 0)), (3, .int x3)]) (hi1 : vp_in (x3 + (1 : Int32)) L) (hi2 : vp_in (x3 + (2 : Int32)) L) (hi3 : vp_in (x3 + (3 : Int32)) L) (hi4 : vp_in (x3 + (4 : Int32)) L) (kk : ∀ (σ μ : St) (H : Heap) (locs : List Loc) (ls : Array Slot), Rel2 σ μ → LWd D cyI cyO adx adm s H locs σ μ → lv_has ls 4 [(0, .ref b), (1, .ref (adx 56)), (2, .ref (adm 0)), (3, .int x3)] → W p l e room_1 s m #[Value.ref b] below meth c H locs 600000 7302250 Q (F0 m 834 ls [])) : W p l e room_1 s m #[Value.ref b] below meth c H locs 600000 7302250 Q (F0 m 771 ls []) := by
  obtain ⟨hx, hb, hr, hml, hown, hts, hlk⟩ := id C
  have h := hsim σ μ  hR
  refine lv_aload_n hx hb dL_law_771 rfl (lv_at hl 1 rfl) ?_
  refine lwXi wd (gRunVq (y := yX9_clear) (k := 56) (As := []) (rest := []) C wd.1 (cmX9_clear (Nat.le_refl 60) h) ⟨rfl, rfl⟩ gdl_102 nk_X9_clear ⟨Nat.le_of_ble_eq_true rfl, Nat.le_of_ble_eq_true rfl⟩ (by decide) cc_X9 rfl rfl hl.1 (Nat.le_of_ble_eq_true rfl) dL_law_772 rfl ⟨Nat.le_of_ble_eq_true rfl, Nat.le_of_ble_eq_true rfl⟩) (fun r1 σ H locs h wd => ?_)
  try dsimp only at h
  refine lv_aload_n hx hb dL_law_775 rfl (lv_at hl 2 rfl) ?_
  refine lwMi wd (gRunVq (y := yX10_clear) (k := 0) (As := []) (rest := [.int r1]) C wd.2.1 (cmX10_clear h) ⟨rfl, rfl⟩ gdl_105 nk_X10_clear ⟨Nat.le_of_ble_eq_true rfl, Nat.le_of_ble_eq_true rfl⟩ (by decide) mc_X10 rfl rfl hl.1 (Nat.le_of_ble_eq_true rfl) dL_law_776 rfl ⟨Nat.le_of_ble_eq_true rfl, Nat.le_of_ble_eq_true rfl⟩) (fun r2 μ H locs h wd => ?_)
  try dsimp only at h
  refine lv_icmp_eq (tgt := 834) hx hb dL_law_779 (by decide) (fun c1 => ?_) (fun c1 => ?_)
  · exact kk _ _ _ _ _ h.2 wd hl
  · exact absurd h.1 c1
theorem gdl_106 : GoodIn gT (wsV RL 106 RX9 yX9_does (wsOf yX9_does cX9_does 5 (some .int))) := gdV tw3_193 tw3_194 tw3_195 tw1_1 tw3_196
theorem gdl_109 : GoodIn gT (wsV RL 109 RX10 yX10_does (wsOf yX10_does cX10_does 1 (some .int))) := gdV tw5_113 tw5_114 tw5_115 tw1_12 tw5_116
set_option maxHeartbeats 4000000 in
set_option maxRecDepth 100000 in
theorem lc_does {D : va_G} {cyI cyO : ClassId} {adx adm : Nat → Nat} {p : Program} {l : Launch} {e : Env} {s : State} {m : MethodId} {below : List Frame} {meth : Method} {c : Code} {b L : Nat} {xs : Nat → Int32} (C : Cx p s m #[Value.ref b] meth c code 4 ret RL) (hX : va_X b L xs s s.heap) (hbl : b < s.heap.size) {Q : State → Prop} {Rel Rel2 : St → St → Prop} (hsim : Sim_does Rel Rel2) {x3 : Int32} {σ μ : St} {H : Heap} {locs : List Loc} {ls : Array Slot} (hR : Rel σ μ) (wd : LWd D cyI cyO adx adm s H locs σ μ) (hbA : ¬ gA adx 60 s.heap.size b) (hl : lv_has ls 4 [(0, .ref b), (1, .ref (adx 56)), (2, .ref (adm 0)), (3, .int x3)]) (hi1 : vp_in (x3 + (1 : Int32)) L) (hi2 : vp_in (x3 + (2 : Int32)) L) (hi3 : vp_in (x3 + (3 : Int32)) L) (hi4 : vp_in (x3 + (4 : Int32)) L) (kk : ∀ (σ μ : St) (H : Heap) (locs : List Loc) (ls : Array Slot), Rel2 σ μ → LWd D cyI cyO adx adm s H locs σ μ → lv_has ls 4 [(0, .ref b), (1, .ref (adx 56)), (2, .ref (adm 0)), (3, .int x3)] → W p l e room_1 s m #[Value.ref b] below meth c H locs 600000 7302250 Q (F0 m 834 ls [])) : W p l e room_1 s m #[Value.ref b] below meth c H locs 600000 7302250 Q (F0 m 784 ls []) := by
  obtain ⟨hx, hb, hr, hml, hown, hts, hlk⟩ := id C
  have h := hsim σ μ  hR
  refine lv_aload_n hx hb dL_law_784 rfl (lv_at hl 1 rfl) ?_
  refine lwXi wd (gRunVq (y := yX9_does) (k := 56) (As := []) (rest := []) C wd.1 (cmX9_does (Nat.le_refl 60) h) ⟨rfl, rfl⟩ gdl_106 nk_X9_does ⟨Nat.le_of_ble_eq_true rfl, Nat.le_of_ble_eq_true rfl⟩ (by decide) cc_X9 rfl rfl hl.1 (Nat.le_of_ble_eq_true rfl) dL_law_785 rfl ⟨Nat.le_of_ble_eq_true rfl, Nat.le_of_ble_eq_true rfl⟩) (fun r1 σ H locs h wd => ?_)
  try dsimp only at h
  refine lv_aload_n hx hb dL_law_788 rfl (lv_at hl 2 rfl) ?_
  refine lwMi wd (gRunVq (y := yX10_does) (k := 0) (As := []) (rest := [.int r1]) C wd.2.1 (cmX10_does h) ⟨rfl, rfl⟩ gdl_109 nk_X10_does ⟨Nat.le_of_ble_eq_true rfl, Nat.le_of_ble_eq_true rfl⟩ (by decide) mc_X10 rfl rfl hl.1 (Nat.le_of_ble_eq_true rfl) dL_law_789 rfl ⟨Nat.le_of_ble_eq_true rfl, Nat.le_of_ble_eq_true rfl⟩) (fun r2 μ H locs h wd => ?_)
  try dsimp only at h
  refine lv_icmp_eq (tgt := 834) hx hb dL_law_792 (by decide) (fun c1 => ?_) (fun c1 => ?_)
  · exact kk _ _ _ _ _ h.2 wd hl
  · exact absurd h.1 c1
theorem gdl_110 : GoodIn gT (wsV RL 110 RX9 yX9_told (wsOf yX9_told cX9_told 2 (some .int))) := gdV tw4_5 tw4_6 tw4_7 tw1_1 tw4_8
theorem gdl_113 : GoodIn gT (wsV RL 113 RX10 yX10_told (wsOf yX10_told cX10_told 2 (some .int))) := gdV tw5_150 tw5_151 tw5_152 tw1_12 tw5_153
set_option maxHeartbeats 4000000 in
set_option maxRecDepth 100000 in
theorem lc_told {D : va_G} {cyI cyO : ClassId} {adx adm : Nat → Nat} {p : Program} {l : Launch} {e : Env} {s : State} {m : MethodId} {below : List Frame} {meth : Method} {c : Code} {b L : Nat} {xs : Nat → Int32} (C : Cx p s m #[Value.ref b] meth c code 4 ret RL) (hX : va_X b L xs s s.heap) (hbl : b < s.heap.size) {Q : State → Prop} {Rel Rel2 : St → St → Prop} (hsim : Sim_told Rel Rel2) {x3 : Int32} {σ μ : St} {H : Heap} {locs : List Loc} {ls : Array Slot} (hR : Rel σ μ) (wd : LWd D cyI cyO adx adm s H locs σ μ) (hbA : ¬ gA adx 60 s.heap.size b) (hl : lv_has ls 4 [(0, .ref b), (1, .ref (adx 56)), (2, .ref (adm 0)), (3, .int x3)]) (hi1 : vp_in (x3 + (1 : Int32)) L) (hi2 : vp_in (x3 + (2 : Int32)) L) (hi3 : vp_in (x3 + (3 : Int32)) L) (hi4 : vp_in (x3 + (4 : Int32)) L) (kk : ∀ (σ μ : St) (H : Heap) (locs : List Loc) (ls : Array Slot), Rel2 σ μ → LWd D cyI cyO adx adm s H locs σ μ → lv_has ls 4 [(0, .ref b), (1, .ref (adx 56)), (2, .ref (adm 0)), (3, .int x3)] → W p l e room_1 s m #[Value.ref b] below meth c H locs 600000 7302250 Q (F0 m 834 ls [])) : W p l e room_1 s m #[Value.ref b] below meth c H locs 600000 7302250 Q (F0 m 797 ls []) := by
  obtain ⟨hx, hb, hr, hml, hown, hts, hlk⟩ := id C
  have h := hsim σ μ (xs (x3 + (1 : Int32)).toNatClampNeg) hR
  refine lv_aload_n hx hb dL_law_797 rfl (lv_at hl 1 rfl) ?_
  refine lv_aload_n hx hb dL_law_798 rfl (lv_at hl 0 rfl) ?_
  refine lv_iload_n hx hb dL_law_799 rfl (lv_at hl 3 rfl) ?_
  refine lv_iconst (v := (1 : Int32)) hx hb dL_law_800 (by decide) ?_
  refine lv_iadd hx hb dL_law_801 ?_
  refine va_sld hx hb hX hbl hbA wd.1.2.2.2.2 hi1 dL_law_802 ?_
  refine lwXi wd (gRunVq (y := yX9_told) (k := 56) (As := [.int (xs (x3 + (1 : Int32)).toNatClampNeg)]) (rest := []) C wd.1 (cmX9_told (Nat.le_refl 60) h) ⟨rfl, rfl⟩ gdl_110 nk_X9_told ⟨Nat.le_of_ble_eq_true rfl, Nat.le_of_ble_eq_true rfl⟩ (by decide) cc_X9 rfl rfl hl.1 (Nat.le_of_ble_eq_true rfl) dL_law_803 rfl ⟨Nat.le_of_ble_eq_true rfl, Nat.le_of_ble_eq_true rfl⟩) (fun r1 σ H locs h wd => ?_)
  try dsimp only at h
  refine lv_aload_n hx hb dL_law_806 rfl (lv_at hl 2 rfl) ?_
  refine lv_aload_n hx hb dL_law_807 rfl (lv_at hl 0 rfl) ?_
  refine lv_iload_n hx hb dL_law_808 rfl (lv_at hl 3 rfl) ?_
  refine lv_iconst (v := (1 : Int32)) hx hb dL_law_809 (by decide) ?_
  refine lv_iadd hx hb dL_law_810 ?_
  refine va_sld hx hb hX hbl hbA wd.1.2.2.2.2 hi1 dL_law_811 ?_
  refine lwMi wd (gRunVq (y := yX10_told) (k := 0) (As := [.int (xs (x3 + (1 : Int32)).toNatClampNeg)]) (rest := [.int r1]) C wd.2.1 (cmX10_told h) ⟨rfl, rfl⟩ gdl_113 nk_X10_told ⟨Nat.le_of_ble_eq_true rfl, Nat.le_of_ble_eq_true rfl⟩ (by decide) mc_X10 rfl rfl hl.1 (Nat.le_of_ble_eq_true rfl) dL_law_812 rfl ⟨Nat.le_of_ble_eq_true rfl, Nat.le_of_ble_eq_true rfl⟩) (fun r2 μ H locs h wd => ?_)
  try dsimp only at h
  refine lv_icmp_eq (tgt := 834) hx hb dL_law_815 (by decide) (fun c1 => ?_) (fun c1 => ?_)
  · exact kk _ _ _ _ _ h.2 wd hl
  · exact absurd h.1 c1
theorem gdl_114 : GoodIn gT (wsV RL 114 RX9 yX9_digest (wsOf yX9_digest cX9_digest 5 (some .long))) := gdV tw4_14 tw4_15 tw4_16 tw1_1 tw4_17
theorem gdl_118 : GoodIn gT (wsV RL 118 RX10 yX10_digest (wsOf yX10_digest cX10_digest 5 (some .long))) := gdV tw5_158 tw5_159 tw5_160 tw1_12 tw5_161
set_option maxHeartbeats 4000000 in
set_option maxRecDepth 100000 in
theorem lc_digest {D : va_G} {cyI cyO : ClassId} {adx adm : Nat → Nat} {p : Program} {l : Launch} {e : Env} {s : State} {m : MethodId} {below : List Frame} {meth : Method} {c : Code} {b L : Nat} {xs : Nat → Int32} (C : Cx p s m #[Value.ref b] meth c code 4 ret RL) (hX : va_X b L xs s s.heap) (hbl : b < s.heap.size) {Q : State → Prop} {Rel Rel2 : St → St → Prop} (hsim : Sim_digest Rel Rel2) {x3 : Int32} {σ μ : St} {H : Heap} {locs : List Loc} {ls : Array Slot} (hR : Rel σ μ) (wd : LWd D cyI cyO adx adm s H locs σ μ) (hbA : ¬ gA adx 60 s.heap.size b) (hl : lv_has ls 4 [(0, .ref b), (1, .ref (adx 56)), (2, .ref (adm 0)), (3, .int x3)]) (hi1 : vp_in (x3 + (1 : Int32)) L) (hi2 : vp_in (x3 + (2 : Int32)) L) (hi3 : vp_in (x3 + (3 : Int32)) L) (hi4 : vp_in (x3 + (4 : Int32)) L) (kk : ∀ (σ μ : St) (H : Heap) (locs : List Loc) (ls : Array Slot), Rel2 σ μ → LWd D cyI cyO adx adm s H locs σ μ → lv_has ls 4 [(0, .ref b), (1, .ref (adx 56)), (2, .ref (adm 0)), (3, .int x3)] → W p l e room_1 s m #[Value.ref b] below meth c H locs 600000 7302250 Q (F0 m 834 ls [])) : W p l e room_1 s m #[Value.ref b] below meth c H locs 600000 7302250 Q (F0 m 820 ls []) := by
  obtain ⟨hx, hb, hr, hml, hown, hts, hlk⟩ := id C
  have h := hsim σ μ  hR
  refine lv_aload_n hx hb dL_law_820 rfl (lv_at hl 1 rfl) ?_
  refine lwXl wd (gRunVq (y := yX9_digest) (k := 56) (As := []) (rest := []) C wd.1 (cmX9_digest (Nat.le_refl 60) h) ⟨rfl, rfl⟩ gdl_114 nk_X9_digest ⟨Nat.le_of_ble_eq_true rfl, Nat.le_of_ble_eq_true rfl⟩ (by decide) cc_X9 rfl rfl hl.1 (Nat.le_of_ble_eq_true rfl) dL_law_821 rfl ⟨Nat.le_of_ble_eq_true rfl, Nat.le_of_ble_eq_true rfl⟩) (fun r1 σ H locs h wd => ?_)
  try dsimp only at h
  refine lv_aload_n hx hb dL_law_824 rfl (lv_at hl 2 rfl) ?_
  refine lwMl wd (gRunVq (y := yX10_digest) (k := 0) (As := []) (rest := [.long r1]) C wd.2.1 (cmX10_digest h) ⟨rfl, rfl⟩ gdl_118 nk_X10_digest ⟨Nat.le_of_ble_eq_true rfl, Nat.le_of_ble_eq_true rfl⟩ (by decide) mc_X10 rfl rfl hl.1 (Nat.le_of_ble_eq_true rfl) dL_law_825 rfl ⟨Nat.le_of_ble_eq_true rfl, Nat.le_of_ble_eq_true rfl⟩) (fun r2 μ H locs h wd => ?_)
  try dsimp only at h
  refine W.lcmp hx hb dL_law_828 ?_
  refine lv_if_eq (tgt := 834) hx hb dL_law_829 (by decide) (fun c1 => ?_) (fun c1 => ?_)
  · exact kk _ _ _ _ _ h.2 wd hl
  · exact absurd (by rw [h.1]; unfold lg_cmp; simp) c1
