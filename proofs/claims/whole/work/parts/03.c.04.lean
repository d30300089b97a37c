section
variable {D : va_G} {cyI cyO : ClassId} {ad : Nat → Nat} {n : Nat}
abbrev rmX6_markReleased : Room := rmOf 1 22
def wpX6_markReleased (x1 : Int32) (σ : St) (Φ : St → Prop) : Prop :=
  wpX9_put 48 x1 (1 : Int32) σ (fun t1 => wpX9_put 49 (t1.1 97) x1 t1 (fun t2 => (∀ t3 : St, t3 = setI t2 97 ((t2.1 97) + (1 : Int32)) → Φ t3)))
set_option maxHeartbeats 4000000 in
set_option maxRecDepth 100000 in
theorem cmX6_markReleased {D : va_G} {cyI cyO : ClassId} {ad : Nat → Nat} {n : Nat} {l : Launch} (hn : 52 ≤ n) {x1 : Int32} {σ : St} {sz : Nat} {Φ : St → Prop} (h : wpX6_markReleased x1 σ Φ) : gMet D (tyL cyI cyO) (cCell ad cyI cyO) ad n l yX6_markReleased cX6_markReleased 2 none rmX6_markReleased [.ref (ad 3), .int x1] σ sz (gQv D (cCell ad cyI cyO) ad n sz Φ) := by
  refine gMet.of (by decide) (Nat.le_of_ble_eq_true rfl) ?_
  intro p e s m below meth c ls hsz C hl wd
  subst hsz
  have C : Cx p s m _ meth c cX6_markReleased 2 none RX6 := C
  obtain ⟨hx, hb, hr, hml, hown, hts, hlk⟩ := id C
  have hl : lv_has ls 2 [(0, .ref (ad 3)), (1, .int x1)] := hl
  unfold wpX6_markReleased at h
  refine lv_aload_n hx hb dX6_markReleased_0 rfl (lv_at hl 0 rfl) ?_
  refine getF C wd (k := 3) (Cn := RX6) (T := TX6) (N := 6) (v := .ref (ad 48)) (by omega) cc_X6 rfl 4 (by decide) rfl inX6 tw1_91 dX6_markReleased_1 ?_
  refine lv_iload_n hx hb dX6_markReleased_4 rfl (lv_at hl 1 rfl) ?_
  refine lv_iconst (v := (1 : Int32)) hx hb dX6_markReleased_5 (by decide) ?_
  refine gCv wd (gRunSN (y := yX9_put) (As := [.ref (ad 48), .int x1, .int (1 : Int32)]) (rest := []) C wd (cmX9_put (by omega) (by omega) (by omega) h) ⟨rfl, rfl⟩ gc_X9_put ns_56 tw1_1 tw1_188 nk_X9_put ⟨Nat.le_of_ble_eq_true rfl, Nat.le_of_ble_eq_true rfl⟩ hl.1 (Nat.le_of_ble_eq_true rfl) dX6_markReleased_6 rfl) (fun t1 H locs h wd => ?_)
  try dsimp only at h
  refine lv_aload_n hx hb dX6_markReleased_9 rfl (lv_at hl 0 rfl) ?_
  refine getF C wd (k := 3) (Cn := RX6) (T := TX6) (N := 6) (v := .ref (ad 49)) (by omega) cc_X6 rfl 5 (by decide) rfl inX6 tw1_93 dX6_markReleased_10 ?_
  refine lv_aload_n hx hb dX6_markReleased_13 rfl (lv_at hl 0 rfl) ?_
  refine getF C wd (k := 3) (Cn := RX6) (T := TX6) (N := 6) (v := .int (t1.1 97)) (by omega) cc_X6 rfl 1 (by decide) rfl inX6 tw1_85 dX6_markReleased_14 ?_
  refine lv_iload_n hx hb dX6_markReleased_17 rfl (lv_at hl 1 rfl) ?_
  refine gCv wd (gRunSN (y := yX9_put) (As := [.ref (ad 49), .int (t1.1 97), .int x1]) (rest := []) C wd (cmX9_put (by omega) (by omega) (by omega) h) ⟨rfl, rfl⟩ gc_X9_put ns_56 tw1_1 tw1_188 nk_X9_put ⟨Nat.le_of_ble_eq_true rfl, Nat.le_of_ble_eq_true rfl⟩ hl.1 (Nat.le_of_ble_eq_true rfl) dX6_markReleased_18 rfl) (fun t2 H locs h wd => ?_)
  try dsimp only at h
  refine lv_aload_n hx hb dX6_markReleased_21 rfl (lv_at hl 0 rfl) ?_
  refine lv_dup hx hb dX6_markReleased_22 rfl ?_
  refine getF C wd (k := 3) (Cn := RX6) (T := TX6) (N := 6) (v := .int (t2.1 97)) (by omega) cc_X6 rfl 1 (by decide) rfl inX6 tw1_85 dX6_markReleased_23 ?_
  refine lv_iconst (v := (1 : Int32)) hx hb dX6_markReleased_26 (by decide) ?_
  refine lv_iadd hx hb dX6_markReleased_27 ?_
  refine putF C wd (k := 3) (Cn := RX6) (T := TX6) (N := 6) (σ' := setI t2 97 ((t2.1 97) + (1 : Int32))) (by omega) cc_X6 rfl tyX6_ok nmX6 1 (by decide) rfl (by decide +kernel) (Nat.le_of_ble_eq_true rfl) inX6 tw1_85 cs_X6_releasedCount dX6_markReleased_28 (fun H locs wd => ?_)
  obtain ⟨t3, et3⟩ : ∃ z : St, z = setI t2 97 ((t2.1 97) + (1 : Int32)) := ⟨_, rfl⟩
  rw [← et3] at wd
  have h := h t3 et3
  exact retV C wd h dX6_markReleased_31
abbrev rmX2_releaseSafe : Room := rmOf 5 109
def wlX2_releaseSafe_4_body (Φ : Int32 → St → Prop) (k_4 : Int32 → Int32 → St → Prop) (x1 : Int32) (x2 : Int32) (σ : St) : Prop :=
  (((30 : Int32) ≤ x2 → Φ x1 σ) ∧ (¬ (30 : Int32) ≤ x2 → wpX2_nextSafe σ (fun r3 t2 => ((r3 = (-1 : Int32) → Φ x1 t2) ∧ (¬ r3 = (-1 : Int32) → wpX6_markReleased r3 t2 (fun t5 => (∀ y6 : Int32, y6 = x1 + (1 : Int32) → (∀ y7 : Int32, y7 = x2 + (1 : Int32) → k_4 y6 y7 t5))))))))
def wlX2_releaseSafe_4 (Φ : Int32 → St → Prop) : Nat → Int32 → Int32 → St → Prop
  | 0 => fun _ _ _ => False
  | N + 1 => fun x1 x2 σ => wlX2_releaseSafe_4_body Φ (wlX2_releaseSafe_4 Φ N) x1 x2 σ
set_option maxHeartbeats 4000000 in
set_option maxRecDepth 100000 in
theorem llX2_releaseSafe_4 {p : Program} {l : Launch} {e : Env} {s : State} {m : MethodId} {args : Array Value} {below : List Frame} {meth : Method} {c : Code} (hn : 52 ≤ n) (C : Cx p s m args meth c cX2_releaseSafe 4 (some .int) RX2) {Φ : Int32 → St → Prop} : ∀ (N : Nat) (x1 : Int32) (x2 : Int32) (σ : St) (H : Heap) (locs : List Loc) (ls : Array Slot), wlX2_releaseSafe_4 Φ N x1 x2 σ → gWd D (tyL cyI cyO) (cCell ad cyI cyO) ad n s H locs σ → lv_has ls 4 [(0, .ref (ad 0)), (1, .int x1), (2, .int x2)] → W p l e rmX2_releaseSafe s m args below meth c H locs 0 0 (MQ below (gQi D (cCell ad cyI cyO) ad n s.heap.size Φ) args s 0 0 (gA ad n s.heap.size)) (F0 m 4 ls []) := by
  obtain ⟨hx, hb, hr, hml, hown, hts, hlk⟩ := id C
  intro N
  induction N with
  | zero =>
    intro x1 x2 σ H locs ls h
    exact False.elim h
  | succ N ih =>
    intro x1 x2 σ H locs ls h wd hl
    have h : wlX2_releaseSafe_4_body Φ (wlX2_releaseSafe_4 Φ N) x1 x2 σ := h
    have hk_4 := ih
    unfold wlX2_releaseSafe_4_body at h
    refine lv_iload_n hx hb dX2_releaseSafe_4 rfl (lv_at hl 2 rfl) ?_
    refine lv_bipush (v := (30 : Int32)) hx hb dX2_releaseSafe_5 (by decide) ?_
    refine lv_icmp_ge (tgt := 40) hx hb dX2_releaseSafe_7 (by decide) (fun c1 => ?_) (fun c1 => ?_)
    · have h := h.1 c1
      refine lv_iload_n hx hb dX2_releaseSafe_40 rfl (lv_at hl 1 rfl) ?_
      exact retI C wd h dX2_releaseSafe_41
    · have h := h.2 c1
      refine lv_aload_n hx hb dX2_releaseSafe_10 rfl (lv_at hl 0 rfl) ?_
      refine gCi wd (gRunV (y := yX2_nextSafe) (k := 0) (As := []) (rest := []) C wd (cmX2_nextSafe (by omega) h) ⟨rfl, rfl⟩ gd_X2_186 nk_X2_nextSafe ⟨Nat.le_of_ble_eq_true rfl, Nat.le_of_ble_eq_true rfl⟩ (by omega) cc_X2 rfl rfl hl.1 (Nat.le_of_ble_eq_true rfl) dX2_releaseSafe_11 rfl) (fun r3 t2 H locs h wd => ?_)
      try dsimp only at h
      refine lv_istore_n (lv' := [(3, .int r3), (0, .ref (ad 0)), (1, .int x1), (2, .int x2)]) hx hb dX2_releaseSafe_14 rfl hl (by decide) rfl (fun ls hl => ?_)
      refine lv_iload_n hx hb dX2_releaseSafe_15 rfl (lv_at hl 0 rfl) ?_
      refine lv_iconst (v := (-1 : Int32)) hx hb dX2_releaseSafe_16 (by decide) ?_
      refine lv_icmp_ne (tgt := 23) hx hb dX2_releaseSafe_17 (by decide) (fun c4 => ?_) (fun c4 => ?_)
      · have h := h.2 c4
        refine lv_aload_n hx hb dX2_releaseSafe_23 rfl (lv_at hl 1 rfl) ?_
        refine getF C wd (k := 0) (Cn := RX2) (T := TX2) (N := 6) (v := .ref (ad 3)) (by omega) cc_X2 rfl 4 (by decide) rfl inX2 tw1_203 dX2_releaseSafe_24 ?_
        refine lv_iload_n hx hb dX2_releaseSafe_27 rfl (lv_at hl 0 rfl) ?_
        refine gCv wd (gRunV (y := yX6_markReleased) (k := 3) (As := [.int r3]) (rest := []) C wd (cmX6_markReleased (by omega) h) ⟨rfl, rfl⟩ gd_X2_189 nk_X6_markReleased ⟨Nat.le_of_ble_eq_true rfl, Nat.le_of_ble_eq_true rfl⟩ (by omega) cc_X6 rfl rfl hl.1 (Nat.le_of_ble_eq_true rfl) dX2_releaseSafe_28 rfl) (fun t5 H locs h wd => ?_)
        try dsimp only at h
        obtain ⟨y6, ey6⟩ : ∃ y : Int32, y = x1 + (1 : Int32) := ⟨_, rfl⟩
        refine lv_iinc (v := y6) (lv' := [(1, .int y6), (3, .int r3), (0, .ref (ad 0)), (2, .int x2)]) hx hb dX2_releaseSafe_31 hl (k := 2) rfl (by rw [ey6]; rfl) (by decide) rfl (fun ls hl => ?_)
        have h := h y6 ey6
        obtain ⟨y7, ey7⟩ : ∃ y : Int32, y = x2 + (1 : Int32) := ⟨_, rfl⟩
        refine lv_iinc (v := y7) (lv' := [(2, .int y7), (1, .int y6), (3, .int r3), (0, .ref (ad 0))]) hx hb dX2_releaseSafe_34 hl (k := 3) rfl (by rw [ey7]; rfl) (by decide) rfl (fun ls hl => ?_)
        have h := h y7 ey7
        refine lv_goto (tgt := 4) hx hb dX2_releaseSafe_37 (by decide) ?_
        exact hk_4 _ _ _ _ _ _ h wd (lv_sub hl [3, 1, 0] rfl)
      · have h := h.1 c4
        refine lv_goto (tgt := 40) hx hb dX2_releaseSafe_20 (by decide) ?_
        refine lv_iload_n hx hb dX2_releaseSafe_40 rfl (lv_at hl 2 rfl) ?_
        exact retI C wd h dX2_releaseSafe_41
def wpX2_releaseSafe (σ : St) (Φ : Int32 → St → Prop) : Prop :=
  (∃ N, wlX2_releaseSafe_4 Φ N (0 : Int32) (0 : Int32) σ)
set_option maxHeartbeats 4000000 in
set_option maxRecDepth 100000 in
theorem cmX2_releaseSafe {D : va_G} {cyI cyO : ClassId} {ad : Nat → Nat} {n : Nat} {l : Launch} (hn : 52 ≤ n) {σ : St} {sz : Nat} {Φ : Int32 → St → Prop} (h : wpX2_releaseSafe σ Φ) : gMet D (tyL cyI cyO) (cCell ad cyI cyO) ad n l yX2_releaseSafe cX2_releaseSafe 4 (some .int) rmX2_releaseSafe [.ref (ad 0)] σ sz (gQi D (cCell ad cyI cyO) ad n sz Φ) := by
  refine gMet.of (by decide) (Nat.le_of_ble_eq_true rfl) ?_
  intro p e s m below meth c ls hsz C hl wd
  subst hsz
  have C : Cx p s m _ meth c cX2_releaseSafe 4 (some .int) RX2 := C
  obtain ⟨hx, hb, hr, hml, hown, hts, hlk⟩ := id C
  have hl : lv_has ls 4 [(0, .ref (ad 0))] := hl
  unfold wpX2_releaseSafe at h
  refine lv_iconst (v := (0 : Int32)) hx hb dX2_releaseSafe_0 (by decide) ?_
  refine lv_istore_n (lv' := [(1, .int (0 : Int32)), (0, .ref (ad 0))]) hx hb dX2_releaseSafe_1 rfl hl (by decide) rfl (fun ls hl => ?_)
  refine lv_iconst (v := (0 : Int32)) hx hb dX2_releaseSafe_2 (by decide) ?_
  refine lv_istore_n (lv' := [(2, .int (0 : Int32)), (1, .int (0 : Int32)), (0, .ref (ad 0))]) hx hb dX2_releaseSafe_3 rfl hl (by decide) rfl (fun ls hl => ?_)
  obtain ⟨N, h⟩ := h
  exact llX2_releaseSafe_4 hn C N _ _ _ _ _ _ h wd (lv_sub hl [2, 1, 0] rfl)
abbrev rmX3_countTo : Room := rmOf 1 21
def wbX3_countTo_27 (Φ : Int32 → St → Prop) (k_4 : Int32 → Int32 → Int32 → St → Prop) (x1 : Int32) (x2 : Int32) (x3 : Int32) (σ : St) : Prop :=
  (∀ y1 : Int32, y1 = x3 + (1 : Int32) → k_4 x1 x2 y1 σ)
set_option maxHeartbeats 4000000 in
set_option maxRecDepth 100000 in
theorem blX3_countTo_27 {p : Program} {l : Launch} {e : Env} {s : State} {m : MethodId} {args : Array Value} {below : List Frame} {meth : Method} {c : Code} (hn : 52 ≤ n) (C : Cx p s m args meth c cX3_countTo 4 (some .int) RX3) {Φ : Int32 → St → Prop} {k_4 : Int32 → Int32 → Int32 → St → Prop} (hk_4 : ∀ (x1 : Int32) (x2 : Int32) (x3 : Int32) (σ : St) (H : Heap) (locs : List Loc) (ls : Array Slot), k_4 x1 x2 x3 σ → gWd D (tyL cyI cyO) (cCell ad cyI cyO) ad n s H locs σ → lv_has ls 4 [(0, .ref (ad 2)), (1, .int x1), (2, .int x2), (3, .int x3)] → W p l e rmX3_countTo s m args below meth c H locs 0 0 (MQ below (gQi D (cCell ad cyI cyO) ad n s.heap.size Φ) args s 0 0 (gA ad n s.heap.size)) (F0 m 4 ls [])) {x1 : Int32} {x2 : Int32} {x3 : Int32} {σ : St} {H : Heap} {locs : List Loc} {ls : Array Slot} (h : wbX3_countTo_27 Φ k_4 x1 x2 x3 σ) (wd : gWd D (tyL cyI cyO) (cCell ad cyI cyO) ad n s H locs σ) (hl : lv_has ls 4 [(0, .ref (ad 2)), (1, .int x1), (2, .int x2), (3, .int x3)]) : W p l e rmX3_countTo s m args below meth c H locs 0 0 (MQ below (gQi D (cCell ad cyI cyO) ad n s.heap.size Φ) args s 0 0 (gA ad n s.heap.size)) (F0 m 27 ls []) := by
  obtain ⟨hx, hb, hr, hml, hown, hts, hlk⟩ := id C
  unfold wbX3_countTo_27 at h
  obtain ⟨y1, ey1⟩ : ∃ y : Int32, y = x3 + (1 : Int32) := ⟨_, rfl⟩
  refine lv_iinc (v := y1) (lv' := [(3, .int y1), (0, .ref (ad 2)), (1, .int x1), (2, .int x2)]) hx hb dX3_countTo_27 hl (k := 3) rfl (by rw [ey1]; rfl) (by decide) rfl (fun ls hl => ?_)
  have h := h y1 ey1
  refine lv_goto (tgt := 4) hx hb dX3_countTo_30 (by decide) ?_
  exact hk_4 _ _ _ _ _ _ _ h wd (lv_sub hl [1, 2, 3, 0] rfl)
def wlX3_countTo_4_body (Φ : Int32 → St → Prop) (k_4 : Int32 → Int32 → Int32 → St → Prop) (x1 : Int32) (x2 : Int32) (x3 : Int32) (σ : St) : Prop :=
  (((σ.1 64) ≤ x3 → Φ x2 σ) ∧ (¬ (σ.1 64) ≤ x3 → wpX9_at 44 x3 σ (fun r3 t2 => ((r3 = x1 → (∀ y5 : Int32, y5 = x2 + (1 : Int32) → wbX3_countTo_27 Φ k_4 x1 y5 x3 t2)) ∧ (¬ r3 = x1 → wbX3_countTo_27 Φ k_4 x1 x2 x3 t2)))))
def wlX3_countTo_4 (Φ : Int32 → St → Prop) : Nat → Int32 → Int32 → Int32 → St → Prop
  | 0 => fun _ _ _ _ => False
  | N + 1 => fun x1 x2 x3 σ => wlX3_countTo_4_body Φ (wlX3_countTo_4 Φ N) x1 x2 x3 σ
set_option maxHeartbeats 4000000 in
set_option maxRecDepth 100000 in
theorem llX3_countTo_4 {p : Program} {l : Launch} {e : Env} {s : State} {m : MethodId} {args : Array Value} {below : List Frame} {meth : Method} {c : Code} (hn : 52 ≤ n) (C : Cx p s m args meth c cX3_countTo 4 (some .int) RX3) {Φ : Int32 → St → Prop} : ∀ (N : Nat) (x1 : Int32) (x2 : Int32) (x3 : Int32) (σ : St) (H : Heap) (locs : List Loc) (ls : Array Slot), wlX3_countTo_4 Φ N x1 x2 x3 σ → gWd D (tyL cyI cyO) (cCell ad cyI cyO) ad n s H locs σ → lv_has ls 4 [(0, .ref (ad 2)), (1, .int x1), (2, .int x2), (3, .int x3)] → W p l e rmX3_countTo s m args below meth c H locs 0 0 (MQ below (gQi D (cCell ad cyI cyO) ad n s.heap.size Φ) args s 0 0 (gA ad n s.heap.size)) (F0 m 4 ls []) := by
  obtain ⟨hx, hb, hr, hml, hown, hts, hlk⟩ := id C
  intro N
  induction N with
  | zero =>
    intro x1 x2 x3 σ H locs ls h
    exact False.elim h
  | succ N ih =>
    intro x1 x2 x3 σ H locs ls h wd hl
    have h : wlX3_countTo_4_body Φ (wlX3_countTo_4 Φ N) x1 x2 x3 σ := h
    have hk_4 := ih
    unfold wlX3_countTo_4_body at h
    refine lv_iload_n hx hb dX3_countTo_4 rfl (lv_at hl 3 rfl) ?_
    refine lv_aload_n hx hb dX3_countTo_5 rfl (lv_at hl 0 rfl) ?_
    refine getF C wd (k := 2) (Cn := RX3) (T := TX3) (N := 5) (v := .int (σ.1 64)) (by omega) cc_X3 rfl 0 (by decide) rfl inX3 tw1_55 dX3_countTo_6 ?_
    refine lv_icmp_ge (tgt := 33) hx hb dX3_countTo_9 (by decide) (fun c1 => ?_) (fun c1 => ?_)
    · have h := h.1 c1
      refine lv_iload_n hx hb dX3_countTo_33 rfl (lv_at hl 2 rfl) ?_
      exact retI C wd h dX3_countTo_34
    · have h := h.2 c1
      refine lv_aload_n hx hb dX3_countTo_12 rfl (lv_at hl 0 rfl) ?_
      refine getF C wd (k := 2) (Cn := RX3) (T := TX3) (N := 5) (v := .ref (ad 44)) (by omega) cc_X3 rfl 2 (by decide) rfl inX3 tw1_60 dX3_countTo_13 ?_
      refine lv_iload_n hx hb dX3_countTo_16 rfl (lv_at hl 3 rfl) ?_
      refine gCi wd (gRunSN (y := yX9_at) (As := [.ref (ad 44), .int x3]) (rest := []) C wd (cmX9_at (by omega) (by omega) (by omega) h) ⟨rfl, rfl⟩ gc_X9_at ns_51 tw1_1 tw2_92 nk_X9_at ⟨Nat.le_of_ble_eq_true rfl, Nat.le_of_ble_eq_true rfl⟩ hl.1 (Nat.le_of_ble_eq_true rfl) dX3_countTo_17 rfl) (fun r3 t2 H locs h wd => ?_)
      try dsimp only at h
      refine lv_iload_n hx hb dX3_countTo_20 rfl (lv_at hl 1 rfl) ?_
      refine lv_icmp_ne (tgt := 27) hx hb dX3_countTo_21 (by decide) (fun c4 => ?_) (fun c4 => ?_)
      · have h := h.2 c4
        exact blX3_countTo_27 hn C hk_4 h wd (lv_sub hl [0, 1, 2, 3] rfl)
      · have h := h.1 c4
        obtain ⟨y5, ey5⟩ : ∃ y : Int32, y = x2 + (1 : Int32) := ⟨_, rfl⟩
        refine lv_iinc (v := y5) (lv' := [(2, .int y5), (0, .ref (ad 2)), (1, .int x1), (3, .int x3)]) hx hb dX3_countTo_24 hl (k := 2) rfl (by rw [ey5]; rfl) (by decide) rfl (fun ls hl => ?_)
        have h := h y5 ey5
        exact blX3_countTo_27 hn C hk_4 h wd (lv_sub hl [1, 2, 0, 3] rfl)
def wpX3_countTo (x1 : Int32) (σ : St) (Φ : Int32 → St → Prop) : Prop :=
  (∃ N, wlX3_countTo_4 Φ N x1 (0 : Int32) (0 : Int32) σ)
set_option maxHeartbeats 4000000 in
set_option maxRecDepth 100000 in
theorem cmX3_countTo {D : va_G} {cyI cyO : ClassId} {ad : Nat → Nat} {n : Nat} {l : Launch} (hn : 52 ≤ n) {x1 : Int32} {σ : St} {sz : Nat} {Φ : Int32 → St → Prop} (h : wpX3_countTo x1 σ Φ) : gMet D (tyL cyI cyO) (cCell ad cyI cyO) ad n l yX3_countTo cX3_countTo 4 (some .int) rmX3_countTo [.ref (ad 2), .int x1] σ sz (gQi D (cCell ad cyI cyO) ad n sz Φ) := by
  refine gMet.of (by decide) (Nat.le_of_ble_eq_true rfl) ?_
  intro p e s m below meth c ls hsz C hl wd
  subst hsz
  have C : Cx p s m _ meth c cX3_countTo 4 (some .int) RX3 := C
  obtain ⟨hx, hb, hr, hml, hown, hts, hlk⟩ := id C
  have hl : lv_has ls 4 [(0, .ref (ad 2)), (1, .int x1)] := hl
  unfold wpX3_countTo at h
  refine lv_iconst (v := (0 : Int32)) hx hb dX3_countTo_0 (by decide) ?_
  refine lv_istore_n (lv' := [(2, .int (0 : Int32)), (0, .ref (ad 2)), (1, .int x1)]) hx hb dX3_countTo_1 rfl hl (by decide) rfl (fun ls hl => ?_)
  refine lv_iconst (v := (0 : Int32)) hx hb dX3_countTo_2 (by decide) ?_
  refine lv_istore_n (lv' := [(3, .int (0 : Int32)), (2, .int (0 : Int32)), (0, .ref (ad 2)), (1, .int x1)]) hx hb dX3_countTo_3 rfl hl (by decide) rfl (fun ls hl => ?_)
  obtain ⟨N, h⟩ := h
  exact llX3_countTo_4 hn C N _ _ _ _ _ _ _ h wd (lv_sub hl [2, 3, 1, 0] rfl)
abbrev rmX6_countHeldBy : Room := rmOf 2 42
def wbX6_countHeldBy_35 (Φ : Int32 → St → Prop) (k_4 : Int32 → Int32 → Int32 → St → Prop) (x1 : Int32) (x2 : Int32) (x3 : Int32) (σ : St) : Prop :=
  (∀ y1 : Int32, y1 = x3 + (1 : Int32) → k_4 x1 x2 y1 σ)
set_option maxHeartbeats 4000000 in
set_option maxRecDepth 100000 in
theorem blX6_countHeldBy_35 {p : Program} {l : Launch} {e : Env} {s : State} {m : MethodId} {args : Array Value} {below : List Frame} {meth : Method} {c : Code} (hn : 52 ≤ n) (C : Cx p s m args meth c cX6_countHeldBy 4 (some .int) RX6) {Φ : Int32 → St → Prop} {k_4 : Int32 → Int32 → Int32 → St → Prop} (hk_4 : ∀ (x1 : Int32) (x2 : Int32) (x3 : Int32) (σ : St) (H : Heap) (locs : List Loc) (ls : Array Slot), k_4 x1 x2 x3 σ → gWd D (tyL cyI cyO) (cCell ad cyI cyO) ad n s H locs σ → lv_has ls 4 [(0, .ref (ad 3)), (1, .int x1), (2, .int x2), (3, .int x3)] → W p l e rmX6_countHeldBy s m args below meth c H locs 0 0 (MQ below (gQi D (cCell ad cyI cyO) ad n s.heap.size Φ) args s 0 0 (gA ad n s.heap.size)) (F0 m 4 ls [])) {x1 : Int32} {x2 : Int32} {x3 : Int32} {σ : St} {H : Heap} {locs : List Loc} {ls : Array Slot} (h : wbX6_countHeldBy_35 Φ k_4 x1 x2 x3 σ) (wd : gWd D (tyL cyI cyO) (cCell ad cyI cyO) ad n s H locs σ) (hl : lv_has ls 4 [(0, .ref (ad 3)), (1, .int x1), (2, .int x2), (3, .int x3)]) : W p l e rmX6_countHeldBy s m args below meth c H locs 0 0 (MQ below (gQi D (cCell ad cyI cyO) ad n s.heap.size Φ) args s 0 0 (gA ad n s.heap.size)) (F0 m 35 ls []) := by
  obtain ⟨hx, hb, hr, hml, hown, hts, hlk⟩ := id C
  unfold wbX6_countHeldBy_35 at h
  obtain ⟨y1, ey1⟩ : ∃ y : Int32, y = x3 + (1 : Int32) := ⟨_, rfl⟩
  refine lv_iinc (v := y1) (lv' := [(3, .int y1), (0, .ref (ad 3)), (1, .int x1), (2, .int x2)]) hx hb dX6_countHeldBy_35 hl (k := 3) rfl (by rw [ey1]; rfl) (by decide) rfl (fun ls hl => ?_)
  have h := h y1 ey1
  refine lv_goto (tgt := 4) hx hb dX6_countHeldBy_38 (by decide) ?_
  exact hk_4 _ _ _ _ _ _ _ h wd (lv_sub hl [1, 2, 3, 0] rfl)
def wlX6_countHeldBy_4_body (Φ : Int32 → St → Prop) (k_4 : Int32 → Int32 → Int32 → St → Prop) (x1 : Int32) (x2 : Int32) (x3 : Int32) (σ : St) : Prop :=
  (((σ.1 96) ≤ x3 → Φ x2 σ) ∧ (¬ (σ.1 96) ≤ x3 → wpX6_isHeld x3 σ (fun r3 t2 => ((r3 = 0 → wbX6_countHeldBy_35 Φ k_4 x1 x2 x3 t2) ∧ (¬ r3 = 0 → wpX9_at 46 x3 t2 (fun r6 t5 => ((r6 = x1 → (∀ y8 : Int32, y8 = x2 + (1 : Int32) → wbX6_countHeldBy_35 Φ k_4 x1 y8 x3 t5)) ∧ (¬ r6 = x1 → wbX6_countHeldBy_35 Φ k_4 x1 x2 x3 t5))))))))
def wlX6_countHeldBy_4 (Φ : Int32 → St → Prop) : Nat → Int32 → Int32 → Int32 → St → Prop
  | 0 => fun _ _ _ _ => False
  | N + 1 => fun x1 x2 x3 σ => wlX6_countHeldBy_4_body Φ (wlX6_countHeldBy_4 Φ N) x1 x2 x3 σ
set_option maxHeartbeats 4000000 in
set_option maxRecDepth 100000 in
theorem llX6_countHeldBy_4 {p : Program} {l : Launch} {e : Env} {s : State} {m : MethodId} {args : Array Value} {below : List Frame} {meth : Method} {c : Code} (hn : 52 ≤ n) (C : Cx p s m args meth c cX6_countHeldBy 4 (some .int) RX6) {Φ : Int32 → St → Prop} : ∀ (N : Nat) (x1 : Int32) (x2 : Int32) (x3 : Int32) (σ : St) (H : Heap) (locs : List Loc) (ls : Array Slot), wlX6_countHeldBy_4 Φ N x1 x2 x3 σ → gWd D (tyL cyI cyO) (cCell ad cyI cyO) ad n s H locs σ → lv_has ls 4 [(0, .ref (ad 3)), (1, .int x1), (2, .int x2), (3, .int x3)] → W p l e rmX6_countHeldBy s m args below meth c H locs 0 0 (MQ below (gQi D (cCell ad cyI cyO) ad n s.heap.size Φ) args s 0 0 (gA ad n s.heap.size)) (F0 m 4 ls []) := by
  obtain ⟨hx, hb, hr, hml, hown, hts, hlk⟩ := id C
  intro N
  induction N with
  | zero =>
    intro x1 x2 x3 σ H locs ls h
    exact False.elim h
  | succ N ih =>
    intro x1 x2 x3 σ H locs ls h wd hl
    have h : wlX6_countHeldBy_4_body Φ (wlX6_countHeldBy_4 Φ N) x1 x2 x3 σ := h
    have hk_4 := ih
    unfold wlX6_countHeldBy_4_body at h
    refine lv_iload_n hx hb dX6_countHeldBy_4 rfl (lv_at hl 3 rfl) ?_
    refine lv_aload_n hx hb dX6_countHeldBy_5 rfl (lv_at hl 0 rfl) ?_
    refine getF C wd (k := 3) (Cn := RX6) (T := TX6) (N := 6) (v := .int (σ.1 96)) (by omega) cc_X6 rfl 0 (by decide) rfl inX6 tw1_82 dX6_countHeldBy_6 ?_
    refine lv_icmp_ge (tgt := 41) hx hb dX6_countHeldBy_9 (by decide) (fun c1 => ?_) (fun c1 => ?_)
    · have h := h.1 c1
      refine lv_iload_n hx hb dX6_countHeldBy_41 rfl (lv_at hl 2 rfl) ?_
      exact retI C wd h dX6_countHeldBy_42
    · have h := h.2 c1
      refine lv_aload_n hx hb dX6_countHeldBy_12 rfl (lv_at hl 0 rfl) ?_
      refine lv_iload_n hx hb dX6_countHeldBy_13 rfl (lv_at hl 3 rfl) ?_
      refine gCi wd (gRunV (y := yX6_isHeld) (k := 3) (As := [.int x3]) (rest := []) C wd (cmX6_isHeld (by omega) h) ⟨rfl, rfl⟩ gd_X6_39 nk_X6_isHeld ⟨Nat.le_of_ble_eq_true rfl, Nat.le_of_ble_eq_true rfl⟩ (by omega) cc_X6 rfl rfl hl.1 (Nat.le_of_ble_eq_true rfl) dX6_countHeldBy_14 rfl) (fun r3 t2 H locs h wd => ?_)
      try dsimp only at h
      refine lv_if_eq (tgt := 35) hx hb dX6_countHeldBy_17 (by decide) (fun c4 => ?_) (fun c4 => ?_)
      · have h := h.1 c4
        exact blX6_countHeldBy_35 hn C hk_4 h wd (lv_sub hl [0, 1, 2, 3] rfl)
      · have h := h.2 c4
        refine lv_aload_n hx hb dX6_countHeldBy_20 rfl (lv_at hl 0 rfl) ?_
        refine getF C wd (k := 3) (Cn := RX6) (T := TX6) (N := 6) (v := .ref (ad 46)) (by omega) cc_X6 rfl 2 (by decide) rfl inX6 tw1_87 dX6_countHeldBy_21 ?_
        refine lv_iload_n hx hb dX6_countHeldBy_24 rfl (lv_at hl 3 rfl) ?_
        refine gCi wd (gRunSN (y := yX9_at) (As := [.ref (ad 46), .int x3]) (rest := []) C wd (cmX9_at (by omega) (by omega) (by omega) h) ⟨rfl, rfl⟩ gc_X9_at ns_55 tw1_1 tw2_92 nk_X9_at ⟨Nat.le_of_ble_eq_true rfl, Nat.le_of_ble_eq_true rfl⟩ hl.1 (Nat.le_of_ble_eq_true rfl) dX6_countHeldBy_25 rfl) (fun r6 t5 H locs h wd => ?_)
        try dsimp only at h
        refine lv_iload_n hx hb dX6_countHeldBy_28 rfl (lv_at hl 1 rfl) ?_
        refine lv_icmp_ne (tgt := 35) hx hb dX6_countHeldBy_29 (by decide) (fun c7 => ?_) (fun c7 => ?_)
        · have h := h.2 c7
          exact blX6_countHeldBy_35 hn C hk_4 h wd (lv_sub hl [0, 1, 2, 3] rfl)
        · have h := h.1 c7
          obtain ⟨y8, ey8⟩ : ∃ y : Int32, y = x2 + (1 : Int32) := ⟨_, rfl⟩
          refine lv_iinc (v := y8) (lv' := [(2, .int y8), (0, .ref (ad 3)), (1, .int x1), (3, .int x3)]) hx hb dX6_countHeldBy_32 hl (k := 2) rfl (by rw [ey8]; rfl) (by decide) rfl (fun ls hl => ?_)
          have h := h y8 ey8
          exact blX6_countHeldBy_35 hn C hk_4 h wd (lv_sub hl [1, 2, 0, 3] rfl)
def wpX6_countHeldBy (x1 : Int32) (σ : St) (Φ : Int32 → St → Prop) : Prop :=
  (∃ N, wlX6_countHeldBy_4 Φ N x1 (0 : Int32) (0 : Int32) σ)
set_option maxHeartbeats 4000000 in
set_option maxRecDepth 100000 in
theorem cmX6_countHeldBy {D : va_G} {cyI cyO : ClassId} {ad : Nat → Nat} {n : Nat} {l : Launch} (hn : 52 ≤ n) {x1 : Int32} {σ : St} {sz : Nat} {Φ : Int32 → St → Prop} (h : wpX6_countHeldBy x1 σ Φ) : gMet D (tyL cyI cyO) (cCell ad cyI cyO) ad n l yX6_countHeldBy cX6_countHeldBy 4 (some .int) rmX6_countHeldBy [.ref (ad 3), .int x1] σ sz (gQi D (cCell ad cyI cyO) ad n sz Φ) := by
  refine gMet.of (by decide) (Nat.le_of_ble_eq_true rfl) ?_
  intro p e s m below meth c ls hsz C hl wd
  subst hsz
  have C : Cx p s m _ meth c cX6_countHeldBy 4 (some .int) RX6 := C
  obtain ⟨hx, hb, hr, hml, hown, hts, hlk⟩ := id C
  have hl : lv_has ls 4 [(0, .ref (ad 3)), (1, .int x1)] := hl
  unfold wpX6_countHeldBy at h
  refine lv_iconst (v := (0 : Int32)) hx hb dX6_countHeldBy_0 (by decide) ?_
  refine lv_istore_n (lv' := [(2, .int (0 : Int32)), (0, .ref (ad 3)), (1, .int x1)]) hx hb dX6_countHeldBy_1 rfl hl (by decide) rfl (fun ls hl => ?_)
  refine lv_iconst (v := (0 : Int32)) hx hb dX6_countHeldBy_2 (by decide) ?_
  refine lv_istore_n (lv' := [(3, .int (0 : Int32)), (2, .int (0 : Int32)), (0, .ref (ad 3)), (1, .int x1)]) hx hb dX6_countHeldBy_3 rfl hl (by decide) rfl (fun ls hl => ?_)
  obtain ⟨N, h⟩ := h
  exact llX6_countHeldBy_4 hn C N _ _ _ _ _ _ _ h wd (lv_sub hl [2, 3, 1, 0] rfl)
abbrev rmX2_tellClerk : Room := rmOf 4 88
def wpX2_tellClerk (x1 : Int32) (x2 : Int32) (σ : St) (Φ : Int32 → St → Prop) : Prop :=
  wpX2_clerk x1 σ (fun r2 t1 => ((x2 = (0 : Int32) → Φ (t1.1 (32 * r2 + 1)) t1) ∧ (x2 = (1 : Int32) → Φ (t1.1 (32 * r2 + 2)) t1) ∧ (x2 = (2 : Int32) → Φ (t1.1 (32 * r2 + 3)) t1) ∧ (x2 = (3 : Int32) → wpX2_firmPage x1 t1 (fun r8 t7 => Φ r8 t7)) ∧ (x2 = (4 : Int32) → Φ (t1.1 (32 * r2 + 4)) t1) ∧ (x2 = (5 : Int32) → wpX0_sumNow r2 t1 (fun r12 t11 => Φ r12 t11)) ∧ (x2 = (6 : Int32) → wpX3_countTo x1 t1 (fun r15 t14 => Φ r15 t14)) ∧ (¬ x2 = (0 : Int32) → ¬ x2 = (1 : Int32) → ¬ x2 = (2 : Int32) → ¬ x2 = (3 : Int32) → ¬ x2 = (4 : Int32) → ¬ x2 = (5 : Int32) → ¬ x2 = (6 : Int32) → wpX6_countHeldBy x1 t1 (fun r17 t16 => Φ r17 t16))))
set_option maxHeartbeats 4000000 in
set_option maxRecDepth 100000 in
theorem cmX2_tellClerk {D : va_G} {cyI cyO : ClassId} {ad : Nat → Nat} {n : Nat} {l : Launch} (hn : 52 ≤ n) {x1 : Int32} {x2 : Int32} {σ : St} {sz : Nat} {Φ : Int32 → St → Prop} (h : wpX2_tellClerk x1 x2 σ Φ) : gMet D (tyL cyI cyO) (cCell ad cyI cyO) ad n l yX2_tellClerk cX2_tellClerk 4 (some .int) rmX2_tellClerk [.ref (ad 0), .int x1, .int x2] σ sz (gQi D (cCell ad cyI cyO) ad n sz Φ) := by
  refine gMet.of (by decide) (Nat.le_of_ble_eq_true rfl) ?_
  intro p e s m below meth c ls hsz C hl wd
  subst hsz
  have C : Cx p s m _ meth c cX2_tellClerk 4 (some .int) RX2 := C
  obtain ⟨hx, hb, hr, hml, hown, hts, hlk⟩ := id C
  have hl : lv_has ls 4 [(0, .ref (ad 0)), (1, .int x1), (2, .int x2)] := hl
  unfold wpX2_tellClerk at h
  refine lv_aload_n hx hb dX2_tellClerk_0 rfl (lv_at hl 0 rfl) ?_
  refine lv_iload_n hx hb dX2_tellClerk_1 rfl (lv_at hl 1 rfl) ?_
  refine gCr wd (gRunV (y := yX2_clerk) (k := 0) (As := [.int x1]) (rest := []) C wd (cmX2_clerk (by omega) h) ⟨rfl, rfl⟩ gd_X2_57 nk_X2_clerk ⟨Nat.le_of_ble_eq_true rfl, Nat.le_of_ble_eq_true rfl⟩ (by omega) cc_X2 rfl rfl hl.1 (Nat.le_of_ble_eq_true rfl) dX2_tellClerk_2 rfl) (fun r2 t1 H locs hr2a hr2b h wd => ?_)
  try dsimp only at h
  refine lv_astore_n (lv' := [(3, .ref (ad r2)), (0, .ref (ad 0)), (1, .int x1), (2, .int x2)]) hx hb dX2_tellClerk_5 rfl hl (by decide) rfl (fun ls hl => ?_)
  refine lv_iload_n hx hb dX2_tellClerk_6 rfl (lv_at hl 3 rfl) ?_
  by_cases c3 : x2 = (0 : Int32)
  · have h := h.1 c3
    refine lv_tableIn (off := 41) (tgt := 48) hx hb dX2_tellClerk_7 (by rw [c3]; decide) (by rw [c3]; decide) (by rw [c3]; rfl) (by decide) ?_
    refine lv_aload_n hx hb dX2_tellClerk_48 rfl (lv_at hl 0 rfl) ?_
    refine getN C wd (k := r2) (Cn := RX0) (T := TX0) (N := 9) (v := .int (t1.1 (32 * r2 + 1))) (by omega) (cc_X0 (k := r2) (by omega) (by omega)) rfl 1 (by decide) rfl inX0 ns_15 dX2_tellClerk_49 ?_
    exact retI C wd h dX2_tellClerk_52
  · skip
    by_cases c4 : x2 = (1 : Int32)
    · have h := h.2.1 c4
      refine lv_tableIn (off := 46) (tgt := 53) hx hb dX2_tellClerk_7 (by rw [c4]; decide) (by rw [c4]; decide) (by rw [c4]; rfl) (by decide) ?_
      refine lv_aload_n hx hb dX2_tellClerk_53 rfl (lv_at hl 0 rfl) ?_
      refine getN C wd (k := r2) (Cn := RX0) (T := TX0) (N := 9) (v := .int (t1.1 (32 * r2 + 2))) (by omega) (cc_X0 (k := r2) (by omega) (by omega)) rfl 2 (by decide) rfl inX0 ns_18 dX2_tellClerk_54 ?_
      exact retI C wd h dX2_tellClerk_57
    · skip
      by_cases c5 : x2 = (2 : Int32)
      · have h := h.2.2.1 c5
        refine lv_tableIn (off := 51) (tgt := 58) hx hb dX2_tellClerk_7 (by rw [c5]; decide) (by rw [c5]; decide) (by rw [c5]; rfl) (by decide) ?_
        refine lv_aload_n hx hb dX2_tellClerk_58 rfl (lv_at hl 0 rfl) ?_
        refine getN C wd (k := r2) (Cn := RX0) (T := TX0) (N := 9) (v := .int (t1.1 (32 * r2 + 3))) (by omega) (cc_X0 (k := r2) (by omega) (by omega)) rfl 3 (by decide) rfl inX0 ns_20 dX2_tellClerk_59 ?_
        exact retI C wd h dX2_tellClerk_62
      · skip
        by_cases c6 : x2 = (3 : Int32)
        · have h := h.2.2.2.1 c6
          refine lv_tableIn (off := 56) (tgt := 63) hx hb dX2_tellClerk_7 (by rw [c6]; decide) (by rw [c6]; decide) (by rw [c6]; rfl) (by decide) ?_
          refine lv_aload_n hx hb dX2_tellClerk_63 rfl (lv_at hl 1 rfl) ?_
          refine lv_iload_n hx hb dX2_tellClerk_64 rfl (lv_at hl 2 rfl) ?_
          refine gCi wd (gRunV (y := yX2_firmPage) (k := 0) (As := [.int x1]) (rest := []) C wd (cmX2_firmPage (by omega) h) ⟨rfl, rfl⟩ gd_X2_161 nk_X2_firmPage ⟨Nat.le_of_ble_eq_true rfl, Nat.le_of_ble_eq_true rfl⟩ (by omega) cc_X2 rfl rfl hl.1 (Nat.le_of_ble_eq_true rfl) dX2_tellClerk_65 rfl) (fun r8 t7 H locs h wd => ?_)
          try dsimp only at h
          exact retI C wd h dX2_tellClerk_68
        · skip
          by_cases c9 : x2 = (4 : Int32)
          · have h := h.2.2.2.2.1 c9
            refine lv_tableIn (off := 62) (tgt := 69) hx hb dX2_tellClerk_7 (by rw [c9]; decide) (by rw [c9]; decide) (by rw [c9]; rfl) (by decide) ?_
            refine lv_aload_n hx hb dX2_tellClerk_69 rfl (lv_at hl 0 rfl) ?_
            refine getN C wd (k := r2) (Cn := RX0) (T := TX0) (N := 9) (v := .int (t1.1 (32 * r2 + 4))) (by omega) (cc_X0 (k := r2) (by omega) (by omega)) rfl 4 (by decide) rfl inX0 ns_22 dX2_tellClerk_70 ?_
            exact retI C wd h dX2_tellClerk_73
          · skip
            by_cases c10 : x2 = (5 : Int32)
            · have h := h.2.2.2.2.2.1 c10
              refine lv_tableIn (off := 67) (tgt := 74) hx hb dX2_tellClerk_7 (by rw [c10]; decide) (by rw [c10]; decide) (by rw [c10]; rfl) (by decide) ?_
              refine lv_aload_n hx hb dX2_tellClerk_74 rfl (lv_at hl 0 rfl) ?_
              refine gCi wd (gRunV (y := yX0_sumNow) (k := r2) (As := []) (rest := []) C wd (cmX0_sumNow (by omega) (by omega) (by omega) h) ⟨rfl, rfl⟩ gd_X2_198 nk_X0_sumNow ⟨Nat.le_of_ble_eq_true rfl, Nat.le_of_ble_eq_true rfl⟩ (by omega) (cc_X0 (k := r2) (by omega) (by omega)) rfl rfl hl.1 (Nat.le_of_ble_eq_true rfl) dX2_tellClerk_75 rfl) (fun r12 t11 H locs h wd => ?_)
              try dsimp only at h
              exact retI C wd h dX2_tellClerk_78
            · skip
              by_cases c13 : x2 = (6 : Int32)
              · have h := h.2.2.2.2.2.2.1 c13
                refine lv_tableIn (off := 72) (tgt := 79) hx hb dX2_tellClerk_7 (by rw [c13]; decide) (by rw [c13]; decide) (by rw [c13]; rfl) (by decide) ?_
                refine lv_aload_n hx hb dX2_tellClerk_79 rfl (lv_at hl 1 rfl) ?_
                refine getF C wd (k := 0) (Cn := RX2) (T := TX2) (N := 6) (v := .ref (ad 2)) (by omega) cc_X2 rfl 3 (by decide) rfl inX2 tw1_201 dX2_tellClerk_80 ?_
                refine lv_iload_n hx hb dX2_tellClerk_83 rfl (lv_at hl 2 rfl) ?_
                refine gCi wd (gRunV (y := yX3_countTo) (k := 2) (As := [.int x1]) (rest := []) C wd (cmX3_countTo (by omega) h) ⟨rfl, rfl⟩ gd_X2_201 nk_X3_countTo ⟨Nat.le_of_ble_eq_true rfl, Nat.le_of_ble_eq_true rfl⟩ (by omega) cc_X3 rfl rfl hl.1 (Nat.le_of_ble_eq_true rfl) dX2_tellClerk_84 rfl) (fun r15 t14 H locs h wd => ?_)
                try dsimp only at h
                exact retI C wd h dX2_tellClerk_87
              · skip
                have h := h.2.2.2.2.2.2.2 c3 c4 c5 c6 c9 c10 c13
                refine lv_tableD (tgt := 88) C dX2_tellClerk_7 ?_ (by decide) ?_
                · by_cases a1 : x2.toInt < 0
                  · exact Or.inl a1
                  by_cases a2 : 6 < x2.toInt
                  · exact Or.inr (Or.inl a2)
                  have b0 : x2.toInt ≠ 0 := fun q => c3 (Int32.toInt_inj.mp q)
                  have b1 : x2.toInt ≠ 1 := fun q => c4 (Int32.toInt_inj.mp q)
                  have b2 : x2.toInt ≠ 2 := fun q => c5 (Int32.toInt_inj.mp q)
                  have b3 : x2.toInt ≠ 3 := fun q => c6 (Int32.toInt_inj.mp q)
                  have b4 : x2.toInt ≠ 4 := fun q => c9 (Int32.toInt_inj.mp q)
                  have b5 : x2.toInt ≠ 5 := fun q => c10 (Int32.toInt_inj.mp q)
                  have b6 : x2.toInt ≠ 6 := fun q => c13 (Int32.toInt_inj.mp q)
                  exact absurd a1 (by omega)
                · refine lv_aload_n hx hb dX2_tellClerk_88 rfl (lv_at hl 1 rfl) ?_
                  refine getF C wd (k := 0) (Cn := RX2) (T := TX2) (N := 6) (v := .ref (ad 3)) (by omega) cc_X2 rfl 4 (by decide) rfl inX2 tw1_203 dX2_tellClerk_89 ?_
                  refine lv_iload_n hx hb dX2_tellClerk_92 rfl (lv_at hl 2 rfl) ?_
                  refine gCi wd (gRunV (y := yX6_countHeldBy) (k := 3) (As := [.int x1]) (rest := []) C wd (cmX6_countHeldBy (by omega) h) ⟨rfl, rfl⟩ gd_X2_204 nk_X6_countHeldBy ⟨Nat.le_of_ble_eq_true rfl, Nat.le_of_ble_eq_true rfl⟩ (by omega) cc_X6 rfl rfl hl.1 (Nat.le_of_ble_eq_true rfl) dX2_tellClerk_93 rfl) (fun r17 t16 H locs h wd => ?_)
                  try dsimp only at h
                  exact retI C wd h dX2_tellClerk_96
abbrev rmX2_tellPage : Room := rmOf 2 43
def wpX2_tellPage (x1 : Int32) (x2 : Int32) (x3 : Int32) (x4 : Int32) (σ : St) (Φ : Int32 → St → Prop) : Prop :=
  wpX2_clerk x1 σ (fun r2 t1 => wpX0_hasPage r2 x2 t1 (fun r4 t3 => ((r4 = 0 → Φ (-3 : Int32) t3) ∧ (¬ r4 = 0 → ((x4 = (0 : Int32) → wpX9_at (13 + 3 * r2) x2 t3 (fun r8 t7 => Φ r8 t7)) ∧ (x4 = (1 : Int32) → wpX9_at (14 + 3 * r2) x2 t3 (fun r11 t10 => Φ r11 t10)) ∧ (x4 = (2 : Int32) → wpX5_lifeOf (r2 + 5) x2 x3 t3 (fun r14 t13 => Φ r14 t13)) ∧ (¬ x4 = (0 : Int32) → ¬ x4 = (1 : Int32) → ¬ x4 = (2 : Int32) → wpX5_pageOf (r2 + 5) x2 x3 t3 (fun r16 t15 => Φ r16 t15)))))))
set_option maxHeartbeats 4000000 in
set_option maxRecDepth 100000 in
theorem cmX2_tellPage {D : va_G} {cyI cyO : ClassId} {ad : Nat → Nat} {n : Nat} {l : Launch} (hn : 52 ≤ n) {x1 : Int32} {x2 : Int32} {x3 : Int32} {x4 : Int32} {σ : St} {sz : Nat} {Φ : Int32 → St → Prop} (h : wpX2_tellPage x1 x2 x3 x4 σ Φ) : gMet D (tyL cyI cyO) (cCell ad cyI cyO) ad n l yX2_tellPage cX2_tellPage 6 (some .int) rmX2_tellPage [.ref (ad 0), .int x1, .int x2, .int x3, .int x4] σ sz (gQi D (cCell ad cyI cyO) ad n sz Φ) := by
  refine gMet.of (by decide) (Nat.le_of_ble_eq_true rfl) ?_
  intro p e s m below meth c ls hsz C hl wd
  subst hsz
  have C : Cx p s m _ meth c cX2_tellPage 6 (some .int) RX2 := C
  obtain ⟨hx, hb, hr, hml, hown, hts, hlk⟩ := id C
  have hl : lv_has ls 6 [(0, .ref (ad 0)), (1, .int x1), (2, .int x2), (3, .int x3), (4, .int x4)] := hl
  unfold wpX2_tellPage at h
  refine lv_aload_n hx hb dX2_tellPage_0 rfl (lv_at hl 0 rfl) ?_
  refine lv_iload_n hx hb dX2_tellPage_1 rfl (lv_at hl 1 rfl) ?_
  refine gCr wd (gRunV (y := yX2_clerk) (k := 0) (As := [.int x1]) (rest := []) C wd (cmX2_clerk (by omega) h) ⟨rfl, rfl⟩ gd_X2_57 nk_X2_clerk ⟨Nat.le_of_ble_eq_true rfl, Nat.le_of_ble_eq_true rfl⟩ (by omega) cc_X2 rfl rfl hl.1 (Nat.le_of_ble_eq_true rfl) dX2_tellPage_2 rfl) (fun r2 t1 H locs hr2a hr2b h wd => ?_)
  try dsimp only at h
  refine lv_astore (lv' := [(5, .ref (ad r2)), (0, .ref (ad 0)), (1, .int x1), (2, .int x2), (3, .int x3), (4, .int x4)]) hx hb dX2_tellPage_5 hl (by decide) rfl (fun ls hl => ?_)
  refine lv_aload hx hb dX2_tellPage_7 (lv_at hl 0 rfl) ?_
  refine lv_iload_n hx hb dX2_tellPage_9 rfl (lv_at hl 3 rfl) ?_
  refine gCi wd (gRunV (y := yX0_hasPage) (k := r2) (As := [.int x2]) (rest := []) C wd (cmX0_hasPage (by omega) (by omega) (by omega) h) ⟨rfl, rfl⟩ gd_X2_207 nk_X0_hasPage ⟨Nat.le_of_ble_eq_true rfl, Nat.le_of_ble_eq_true rfl⟩ (by omega) (cc_X0 (k := r2) (by omega) (by omega)) rfl rfl hl.1 (Nat.le_of_ble_eq_true rfl) dX2_tellPage_10 rfl) (fun r4 t3 H locs h wd => ?_)
  try dsimp only at h
  refine lv_if_ne (tgt := 19) hx hb dX2_tellPage_13 (by decide) (fun c5 => ?_) (fun c5 => ?_)
  · have h := h.2 c5
    refine lv_iload hx hb dX2_tellPage_19 (lv_at hl 5 rfl) ?_
    by_cases c6 : x4 = (0 : Int32)
    · have h := h.1 c6
      refine lv_tableIn (off := 27) (tgt := 48) hx hb dX2_tellPage_21 (by rw [c6]; decide) (by rw [c6]; decide) (by rw [c6]; rfl) (by decide) ?_
      refine lv_aload hx hb dX2_tellPage_48 (lv_at hl 0 rfl) ?_
      refine getN C wd (k := r2) (Cn := RX0) (T := TX0) (N := 9) (v := .ref (ad (13 + 3 * r2))) (by omega) (cc_X0 (k := r2) (by omega) (by omega)) rfl 5 (by decide) rfl inX0 ns_23 dX2_tellPage_50 ?_
      refine lv_iload_n hx hb dX2_tellPage_53 rfl (lv_at hl 3 rfl) ?_
      refine gCi wd (gRunSN (y := yX9_at) (As := [.ref (ad (13 + 3 * r2)), .int x2]) (rest := []) C wd (cmX9_at (by omega) (by omega) (by omega) h) ⟨rfl, rfl⟩ gc_X9_at ns_52 tw1_1 tw2_92 nk_X9_at ⟨Nat.le_of_ble_eq_true rfl, Nat.le_of_ble_eq_true rfl⟩ hl.1 (Nat.le_of_ble_eq_true rfl) dX2_tellPage_54 rfl) (fun r8 t7 H locs h wd => ?_)
      try dsimp only at h
      exact retI C wd h dX2_tellPage_57
    · skip
      by_cases c9 : x4 = (1 : Int32)
      · have h := h.2.1 c9
        refine lv_tableIn (off := 37) (tgt := 58) hx hb dX2_tellPage_21 (by rw [c9]; decide) (by rw [c9]; decide) (by rw [c9]; rfl) (by decide) ?_
        refine lv_aload hx hb dX2_tellPage_58 (lv_at hl 0 rfl) ?_
        refine getN C wd (k := r2) (Cn := RX0) (T := TX0) (N := 9) (v := .ref (ad (14 + 3 * r2))) (by omega) (cc_X0 (k := r2) (by omega) (by omega)) rfl 6 (by decide) rfl inX0 ns_24 dX2_tellPage_60 ?_
        refine lv_iload_n hx hb dX2_tellPage_63 rfl (lv_at hl 3 rfl) ?_
        refine gCi wd (gRunSN (y := yX9_at) (As := [.ref (ad (14 + 3 * r2)), .int x2]) (rest := []) C wd (cmX9_at (by omega) (by omega) (by omega) h) ⟨rfl, rfl⟩ gc_X9_at ns_52 tw1_1 tw2_92 nk_X9_at ⟨Nat.le_of_ble_eq_true rfl, Nat.le_of_ble_eq_true rfl⟩ hl.1 (Nat.le_of_ble_eq_true rfl) dX2_tellPage_64 rfl) (fun r11 t10 H locs h wd => ?_)
        try dsimp only at h
        exact retI C wd h dX2_tellPage_67
      · skip
        by_cases c12 : x4 = (2 : Int32)
        · have h := h.2.2.1 c12
          refine lv_tableIn (off := 47) (tgt := 68) hx hb dX2_tellPage_21 (by rw [c12]; decide) (by rw [c12]; decide) (by rw [c12]; rfl) (by decide) ?_
          refine lv_aload hx hb dX2_tellPage_68 (lv_at hl 0 rfl) ?_
          refine getN C wd (k := r2) (Cn := RX0) (T := TX0) (N := 9) (v := .ref (ad (r2 + 5))) (by omega) (cc_X0 (k := r2) (by omega) (by omega)) rfl 7 (by decide) rfl inX0 ns_27 dX2_tellPage_70 ?_
          refine lv_iload_n hx hb dX2_tellPage_73 rfl (lv_at hl 3 rfl) ?_
          refine lv_iload_n hx hb dX2_tellPage_74 rfl (lv_at hl 4 rfl) ?_
          refine gCi wd (gRunV (y := yX5_lifeOf) (k := r2 + 5) (As := [.int x2, .int x3]) (rest := []) C wd (cmX5_lifeOf (by omega) (by omega) (by omega) h) ⟨rfl, rfl⟩ gd_X2_100 nk_X5_lifeOf ⟨Nat.le_of_ble_eq_true rfl, Nat.le_of_ble_eq_true rfl⟩ (by omega) (cc_X5 (k := r2 + 5) (by omega) (by omega)) rfl rfl hl.1 (Nat.le_of_ble_eq_true rfl) dX2_tellPage_75 rfl) (fun r14 t13 H locs h wd => ?_)
          try dsimp only at h
          exact retI C wd h dX2_tellPage_78
        · skip
          have h := h.2.2.2 c6 c9 c12
          refine lv_tableD (tgt := 79) C dX2_tellPage_21 ?_ (by decide) ?_
          · by_cases a1 : x4.toInt < 0
            · exact Or.inl a1
            by_cases a2 : 2 < x4.toInt
            · exact Or.inr (Or.inl a2)
            have b0 : x4.toInt ≠ 0 := fun q => c6 (Int32.toInt_inj.mp q)
            have b1 : x4.toInt ≠ 1 := fun q => c9 (Int32.toInt_inj.mp q)
            have b2 : x4.toInt ≠ 2 := fun q => c12 (Int32.toInt_inj.mp q)
            exact absurd a1 (by omega)
          · refine lv_aload hx hb dX2_tellPage_79 (lv_at hl 0 rfl) ?_
            refine getN C wd (k := r2) (Cn := RX0) (T := TX0) (N := 9) (v := .ref (ad (r2 + 5))) (by omega) (cc_X0 (k := r2) (by omega) (by omega)) rfl 7 (by decide) rfl inX0 ns_27 dX2_tellPage_81 ?_
            refine lv_iload_n hx hb dX2_tellPage_84 rfl (lv_at hl 3 rfl) ?_
            refine lv_iload_n hx hb dX2_tellPage_85 rfl (lv_at hl 4 rfl) ?_
            refine gCi wd (gRunV (y := yX5_pageOf) (k := r2 + 5) (As := [.int x2, .int x3]) (rest := []) C wd (cmX5_pageOf (by omega) (by omega) (by omega) h) ⟨rfl, rfl⟩ gd_X2_105 nk_X5_pageOf ⟨Nat.le_of_ble_eq_true rfl, Nat.le_of_ble_eq_true rfl⟩ (by omega) (cc_X5 (k := r2 + 5) (by omega) (by omega)) rfl rfl hl.1 (Nat.le_of_ble_eq_true rfl) dX2_tellPage_86 rfl) (fun r16 t15 H locs h wd => ?_)
            try dsimp only at h
            exact retI C wd h dX2_tellPage_89
  · have h := h.1 c5
    refine lv_bipush (v := (-3 : Int32)) hx hb dX2_tellPage_16 (by decide) ?_
    exact retI C wd h dX2_tellPage_18
abbrev rmX2_tellLetter : Room := rmOf 3 66
def wpX2_tellLetter (x1 : Int32) (x2 : Int32) (x3 : Int32) (σ : St) (Φ : Int32 → St → Prop) : Prop :=
  wpX3_find x1 x2 σ (fun r2 t1 => ((r2 = (-1 : Int32) → Φ (-1 : Int32) t1) ∧ (¬ r2 = (-1 : Int32) → wpX9_at 43 r2 t1 (fun r5 t4 => ((x3 = (0 : Int32) → Φ r5 t4) ∧ (x3 = (1 : Int32) → wpX9_at 45 r2 t4 (fun r9 t8 => Φ r9 t8)) ∧ (x3 = (2 : Int32) → wpX2_isDeadLetter r2 t4 (fun r12 t11 => ((r12 = 0 → Φ (0 : Int32) t11) ∧ (¬ r12 = 0 → Φ (1 : Int32) t11)))) ∧ (¬ x3 = (0 : Int32) → ¬ x3 = (1 : Int32) → ¬ x3 = (2 : Int32) → wpX5_pageOf 15 r2 r5 t4 (fun r15 t14 => Φ r15 t14)))))))
set_option maxHeartbeats 4000000 in
set_option maxRecDepth 100000 in
theorem cmX2_tellLetter {D : va_G} {cyI cyO : ClassId} {ad : Nat → Nat} {n : Nat} {l : Launch} (hn : 52 ≤ n) {x1 : Int32} {x2 : Int32} {x3 : Int32} {σ : St} {sz : Nat} {Φ : Int32 → St → Prop} (h : wpX2_tellLetter x1 x2 x3 σ Φ) : gMet D (tyL cyI cyO) (cCell ad cyI cyO) ad n l yX2_tellLetter cX2_tellLetter 6 (some .int) rmX2_tellLetter [.ref (ad 0), .int x1, .int x2, .int x3] σ sz (gQi D (cCell ad cyI cyO) ad n sz Φ) := by
  refine gMet.of (by decide) (Nat.le_of_ble_eq_true rfl) ?_
  intro p e s m below meth c ls hsz C hl wd
  subst hsz
  have C : Cx p s m _ meth c cX2_tellLetter 6 (some .int) RX2 := C
  obtain ⟨hx, hb, hr, hml, hown, hts, hlk⟩ := id C
  have hl : lv_has ls 6 [(0, .ref (ad 0)), (1, .int x1), (2, .int x2), (3, .int x3)] := hl
  unfold wpX2_tellLetter at h
  refine lv_aload_n hx hb dX2_tellLetter_0 rfl (lv_at hl 0 rfl) ?_
  refine getF C wd (k := 0) (Cn := RX2) (T := TX2) (N := 6) (v := .ref (ad 2)) (by omega) cc_X2 rfl 3 (by decide) rfl inX2 tw1_201 dX2_tellLetter_1 ?_
  refine lv_iload_n hx hb dX2_tellLetter_4 rfl (lv_at hl 1 rfl) ?_
  refine lv_iload_n hx hb dX2_tellLetter_5 rfl (lv_at hl 2 rfl) ?_
  refine gCi wd (gRunV (y := yX3_find) (k := 2) (As := [.int x1, .int x2]) (rest := []) C wd (cmX3_find (by omega) h) ⟨rfl, rfl⟩ gd_X2_73 nk_X3_find ⟨Nat.le_of_ble_eq_true rfl, Nat.le_of_ble_eq_true rfl⟩ (by omega) cc_X3 rfl rfl hl.1 (Nat.le_of_ble_eq_true rfl) dX2_tellLetter_6 rfl) (fun r2 t1 H locs h wd => ?_)
  try dsimp only at h
  refine lv_istore (lv' := [(4, .int r2), (0, .ref (ad 0)), (1, .int x1), (2, .int x2), (3, .int x3)]) hx hb dX2_tellLetter_9 hl (by decide) rfl (fun ls hl => ?_)
  refine lv_iload hx hb dX2_tellLetter_11 (lv_at hl 0 rfl) ?_
  refine lv_iconst (v := (-1 : Int32)) hx hb dX2_tellLetter_13 (by decide) ?_
  refine lv_icmp_ne (tgt := 19) hx hb dX2_tellLetter_14 (by decide) (fun c3 => ?_) (fun c3 => ?_)
  · have h := h.2 c3
    refine lv_aload_n hx hb dX2_tellLetter_19 rfl (lv_at hl 1 rfl) ?_
    refine getF C wd (k := 0) (Cn := RX2) (T := TX2) (N := 6) (v := .ref (ad 2)) (by omega) cc_X2 rfl 3 (by decide) rfl inX2 tw1_201 dX2_tellLetter_20 ?_
    refine getN C wd (k := 2) (Cn := RX3) (T := TX3) (N := 5) (v := .ref (ad 43)) (by omega) cc_X3 rfl 1 (by decide) rfl inX3 ns_3 dX2_tellLetter_23 ?_
    refine lv_iload hx hb dX2_tellLetter_26 (lv_at hl 0 rfl) ?_
    refine gCi wd (gRunSN (y := yX9_at) (As := [.ref (ad 43), .int r2]) (rest := []) C wd (cmX9_at (by omega) (by omega) (by omega) h) ⟨rfl, rfl⟩ gc_X9_at ns_52 tw1_1 tw2_92 nk_X9_at ⟨Nat.le_of_ble_eq_true rfl, Nat.le_of_ble_eq_true rfl⟩ hl.1 (Nat.le_of_ble_eq_true rfl) dX2_tellLetter_28 rfl) (fun r5 t4 H locs h wd => ?_)
    try dsimp only at h
    refine lv_istore (lv' := [(5, .int r5), (4, .int r2), (0, .ref (ad 0)), (1, .int x1), (2, .int x2), (3, .int x3)]) hx hb dX2_tellLetter_31 hl (by decide) rfl (fun ls hl => ?_)
    refine lv_iload_n hx hb dX2_tellLetter_33 rfl (lv_at hl 5 rfl) ?_
    by_cases c6 : x3 = (0 : Int32)
    · have h := h.1 c6
      refine lv_tableIn (off := 26) (tgt := 60) hx hb dX2_tellLetter_34 (by rw [c6]; decide) (by rw [c6]; decide) (by rw [c6]; rfl) (by decide) ?_
      refine lv_iload hx hb dX2_tellLetter_60 (lv_at hl 0 rfl) ?_
      exact retI C wd h dX2_tellLetter_62
    · skip
      by_cases c7 : x3 = (1 : Int32)
      · have h := h.2.1 c7
        refine lv_tableIn (off := 29) (tgt := 63) hx hb dX2_tellLetter_34 (by rw [c7]; decide) (by rw [c7]; decide) (by rw [c7]; rfl) (by decide) ?_
        refine lv_aload_n hx hb dX2_tellLetter_63 rfl (lv_at hl 2 rfl) ?_
        refine getF C wd (k := 0) (Cn := RX2) (T := TX2) (N := 6) (v := .ref (ad 2)) (by omega) cc_X2 rfl 3 (by decide) rfl inX2 tw1_201 dX2_tellLetter_64 ?_
        refine getN C wd (k := 2) (Cn := RX3) (T := TX3) (N := 5) (v := .ref (ad 45)) (by omega) cc_X3 rfl 3 (by decide) rfl inX3 ns_4 dX2_tellLetter_67 ?_
        refine lv_iload hx hb dX2_tellLetter_70 (lv_at hl 1 rfl) ?_
        refine gCi wd (gRunSN (y := yX9_at) (As := [.ref (ad 45), .int r2]) (rest := []) C wd (cmX9_at (by omega) (by omega) (by omega) h) ⟨rfl, rfl⟩ gc_X9_at ns_52 tw1_1 tw2_92 nk_X9_at ⟨Nat.le_of_ble_eq_true rfl, Nat.le_of_ble_eq_true rfl⟩ hl.1 (Nat.le_of_ble_eq_true rfl) dX2_tellLetter_72 rfl) (fun r9 t8 H locs h wd => ?_)
        try dsimp only at h
        exact retI C wd h dX2_tellLetter_75
      · skip
        by_cases c10 : x3 = (2 : Int32)
        · have h := h.2.2.1 c10
          refine lv_tableIn (off := 42) (tgt := 76) hx hb dX2_tellLetter_34 (by rw [c10]; decide) (by rw [c10]; decide) (by rw [c10]; rfl) (by decide) ?_
          refine lv_aload_n hx hb dX2_tellLetter_76 rfl (lv_at hl 2 rfl) ?_
          refine lv_iload hx hb dX2_tellLetter_77 (lv_at hl 1 rfl) ?_
          refine gCi wd (gRunV (y := yX2_isDeadLetter) (k := 0) (As := [.int r2]) (rest := []) C wd (cmX2_isDeadLetter (by omega) h) ⟨rfl, rfl⟩ gd_X2_77 nk_X2_isDeadLetter ⟨Nat.le_of_ble_eq_true rfl, Nat.le_of_ble_eq_true rfl⟩ (by omega) cc_X2 rfl rfl hl.1 (Nat.le_of_ble_eq_true rfl) dX2_tellLetter_79 rfl) (fun r12 t11 H locs h wd => ?_)
          try dsimp only at h
          refine lv_if_eq (tgt := 89) hx hb dX2_tellLetter_82 (by decide) (fun c13 => ?_) (fun c13 => ?_)
          · have h := h.1 c13
            refine lv_iconst (v := (0 : Int32)) hx hb dX2_tellLetter_89 (by decide) ?_
            exact retI C wd h dX2_tellLetter_90
          · have h := h.2 c13
            refine lv_iconst (v := (1 : Int32)) hx hb dX2_tellLetter_85 (by decide) ?_
            refine lv_goto (tgt := 90) hx hb dX2_tellLetter_86 (by decide) ?_
            exact retI C wd h dX2_tellLetter_90
        · skip
          have h := h.2.2.2 c6 c7 c10
          refine lv_tableD (tgt := 91) C dX2_tellLetter_34 ?_ (by decide) ?_
          · by_cases a1 : x3.toInt < 0
            · exact Or.inl a1
            by_cases a2 : 2 < x3.toInt
            · exact Or.inr (Or.inl a2)
            have b0 : x3.toInt ≠ 0 := fun q => c6 (Int32.toInt_inj.mp q)
            have b1 : x3.toInt ≠ 1 := fun q => c7 (Int32.toInt_inj.mp q)
            have b2 : x3.toInt ≠ 2 := fun q => c10 (Int32.toInt_inj.mp q)
            exact absurd a1 (by omega)
          · refine lv_aload_n hx hb dX2_tellLetter_91 rfl (lv_at hl 2 rfl) ?_
            refine getF C wd (k := 0) (Cn := RX2) (T := TX2) (N := 6) (v := .ref (ad 2)) (by omega) cc_X2 rfl 3 (by decide) rfl inX2 tw1_201 dX2_tellLetter_92 ?_
            refine getN C wd (k := 2) (Cn := RX3) (T := TX3) (N := 5) (v := .ref (ad 15)) (by omega) cc_X3 rfl 4 (by decide) rfl inX3 ns_5 dX2_tellLetter_95 ?_
            refine lv_iload hx hb dX2_tellLetter_98 (lv_at hl 1 rfl) ?_
            refine lv_iload hx hb dX2_tellLetter_100 (lv_at hl 0 rfl) ?_
            refine gCi wd (gRunV (y := yX5_pageOf) (k := 15) (As := [.int r2, .int r5]) (rest := []) C wd (cmX5_pageOf (by omega) (by omega) (by omega) h) ⟨rfl, rfl⟩ gd_X2_105 nk_X5_pageOf ⟨Nat.le_of_ble_eq_true rfl, Nat.le_of_ble_eq_true rfl⟩ (by omega) (cc_X5 (k := 15) (by omega) (by omega)) rfl rfl hl.1 (Nat.le_of_ble_eq_true rfl) dX2_tellLetter_102 rfl) (fun r15 t14 H locs h wd => ?_)
            try dsimp only at h
            exact retI C wd h dX2_tellLetter_105
  · have h := h.1 c3
    refine lv_iconst (v := (-1 : Int32)) hx hb dX2_tellLetter_17 (by decide) ?_
    exact retI C wd h dX2_tellLetter_18
abbrev rmX2_tellSaying : Room := rmOf 4 87
def wpX2_tellSaying (x1 : Int32) (x2 : Int32) (σ : St) (Φ : Int32 → St → Prop) : Prop :=
  ((x1 < (σ.1 96) → ((x2 = (0 : Int32) → wpX9_at 46 x1 σ (fun r4 t3 => Φ r4 t3)) ∧ (x2 = (1 : Int32) → wpX9_at 47 x1 σ (fun r7 t6 => Φ r7 t6)) ∧ (x2 = (2 : Int32) → wpX9_at 48 x1 σ (fun r10 t9 => Φ r10 t9)) ∧ (¬ x2 = (0 : Int32) → ¬ x2 = (1 : Int32) → ¬ x2 = (2 : Int32) → wpX2_isSafe x1 σ (fun r12 t11 => ((r12 = 0 → Φ (0 : Int32) t11) ∧ (¬ r12 = 0 → Φ (1 : Int32) t11)))))) ∧ (¬ x1 < (σ.1 96) → Φ (-1 : Int32) σ))
set_option maxHeartbeats 4000000 in
set_option maxRecDepth 100000 in
theorem cmX2_tellSaying {D : va_G} {cyI cyO : ClassId} {ad : Nat → Nat} {n : Nat} {l : Launch} (hn : 52 ≤ n) {x1 : Int32} {x2 : Int32} {σ : St} {sz : Nat} {Φ : Int32 → St → Prop} (h : wpX2_tellSaying x1 x2 σ Φ) : gMet D (tyL cyI cyO) (cCell ad cyI cyO) ad n l yX2_tellSaying cX2_tellSaying 3 (some .int) rmX2_tellSaying [.ref (ad 0), .int x1, .int x2] σ sz (gQi D (cCell ad cyI cyO) ad n sz Φ) := by
  refine gMet.of (by decide) (Nat.le_of_ble_eq_true rfl) ?_
  intro p e s m below meth c ls hsz C hl wd
  subst hsz
  have C : Cx p s m _ meth c cX2_tellSaying 3 (some .int) RX2 := C
  obtain ⟨hx, hb, hr, hml, hown, hts, hlk⟩ := id C
  have hl : lv_has ls 3 [(0, .ref (ad 0)), (1, .int x1), (2, .int x2)] := hl
  unfold wpX2_tellSaying at h
  refine lv_iload_n hx hb dX2_tellSaying_0 rfl (lv_at hl 1 rfl) ?_
  refine lv_aload_n hx hb dX2_tellSaying_1 rfl (lv_at hl 0 rfl) ?_
  refine getF C wd (k := 0) (Cn := RX2) (T := TX2) (N := 6) (v := .ref (ad 3)) (by omega) cc_X2 rfl 4 (by decide) rfl inX2 tw1_203 dX2_tellSaying_2 ?_
  refine getN C wd (k := 3) (Cn := RX6) (T := TX6) (N := 6) (v := .int (σ.1 96)) (by omega) cc_X6 rfl 0 (by decide) rfl inX6 ns_7 dX2_tellSaying_5 ?_
  refine lv_icmp_lt (tgt := 13) hx hb dX2_tellSaying_8 (by decide) (fun c1 => ?_) (fun c1 => ?_)
  · have h := h.1 c1
    refine lv_iload_n hx hb dX2_tellSaying_13 rfl (lv_at hl 2 rfl) ?_
    by_cases c2 : x2 = (0 : Int32)
    · have h := h.1 c2
      refine lv_tableIn (off := 26) (tgt := 40) hx hb dX2_tellSaying_14 (by rw [c2]; decide) (by rw [c2]; decide) (by rw [c2]; rfl) (by decide) ?_
      refine lv_aload_n hx hb dX2_tellSaying_40 rfl (lv_at hl 0 rfl) ?_
      refine getF C wd (k := 0) (Cn := RX2) (T := TX2) (N := 6) (v := .ref (ad 3)) (by omega) cc_X2 rfl 4 (by decide) rfl inX2 tw1_203 dX2_tellSaying_41 ?_
      refine getN C wd (k := 3) (Cn := RX6) (T := TX6) (N := 6) (v := .ref (ad 46)) (by omega) cc_X6 rfl 2 (by decide) rfl inX6 ns_10 dX2_tellSaying_44 ?_
      refine lv_iload_n hx hb dX2_tellSaying_47 rfl (lv_at hl 1 rfl) ?_
      refine gCi wd (gRunSN (y := yX9_at) (As := [.ref (ad 46), .int x1]) (rest := []) C wd (cmX9_at (by omega) (by omega) (by omega) h) ⟨rfl, rfl⟩ gc_X9_at ns_52 tw1_1 tw2_92 nk_X9_at ⟨Nat.le_of_ble_eq_true rfl, Nat.le_of_ble_eq_true rfl⟩ hl.1 (Nat.le_of_ble_eq_true rfl) dX2_tellSaying_48 rfl) (fun r4 t3 H locs h wd => ?_)
      try dsimp only at h
      exact retI C wd h dX2_tellSaying_51
    · skip
      by_cases c5 : x2 = (1 : Int32)
      · have h := h.2.1 c5
        refine lv_tableIn (off := 38) (tgt := 52) hx hb dX2_tellSaying_14 (by rw [c5]; decide) (by rw [c5]; decide) (by rw [c5]; rfl) (by decide) ?_
        refine lv_aload_n hx hb dX2_tellSaying_52 rfl (lv_at hl 0 rfl) ?_
        refine getF C wd (k := 0) (Cn := RX2) (T := TX2) (N := 6) (v := .ref (ad 3)) (by omega) cc_X2 rfl 4 (by decide) rfl inX2 tw1_203 dX2_tellSaying_53 ?_
        refine getN C wd (k := 3) (Cn := RX6) (T := TX6) (N := 6) (v := .ref (ad 47)) (by omega) cc_X6 rfl 3 (by decide) rfl inX6 ns_11 dX2_tellSaying_56 ?_
        refine lv_iload_n hx hb dX2_tellSaying_59 rfl (lv_at hl 1 rfl) ?_
        refine gCi wd (gRunSN (y := yX9_at) (As := [.ref (ad 47), .int x1]) (rest := []) C wd (cmX9_at (by omega) (by omega) (by omega) h) ⟨rfl, rfl⟩ gc_X9_at ns_52 tw1_1 tw2_92 nk_X9_at ⟨Nat.le_of_ble_eq_true rfl, Nat.le_of_ble_eq_true rfl⟩ hl.1 (Nat.le_of_ble_eq_true rfl) dX2_tellSaying_60 rfl) (fun r7 t6 H locs h wd => ?_)
        try dsimp only at h
        exact retI C wd h dX2_tellSaying_63
      · skip
        by_cases c8 : x2 = (2 : Int32)
        · have h := h.2.2.1 c8
          refine lv_tableIn (off := 50) (tgt := 64) hx hb dX2_tellSaying_14 (by rw [c8]; decide) (by rw [c8]; decide) (by rw [c8]; rfl) (by decide) ?_
          refine lv_aload_n hx hb dX2_tellSaying_64 rfl (lv_at hl 0 rfl) ?_
          refine getF C wd (k := 0) (Cn := RX2) (T := TX2) (N := 6) (v := .ref (ad 3)) (by omega) cc_X2 rfl 4 (by decide) rfl inX2 tw1_203 dX2_tellSaying_65 ?_
          refine getN C wd (k := 3) (Cn := RX6) (T := TX6) (N := 6) (v := .ref (ad 48)) (by omega) cc_X6 rfl 4 (by decide) rfl inX6 ns_12 dX2_tellSaying_68 ?_
          refine lv_iload_n hx hb dX2_tellSaying_71 rfl (lv_at hl 1 rfl) ?_
          refine gCi wd (gRunSN (y := yX9_at) (As := [.ref (ad 48), .int x1]) (rest := []) C wd (cmX9_at (by omega) (by omega) (by omega) h) ⟨rfl, rfl⟩ gc_X9_at ns_52 tw1_1 tw2_92 nk_X9_at ⟨Nat.le_of_ble_eq_true rfl, Nat.le_of_ble_eq_true rfl⟩ hl.1 (Nat.le_of_ble_eq_true rfl) dX2_tellSaying_72 rfl) (fun r10 t9 H locs h wd => ?_)
          try dsimp only at h
          exact retI C wd h dX2_tellSaying_75
        · skip
          have h := h.2.2.2 c2 c5 c8
          refine lv_tableD (tgt := 76) C dX2_tellSaying_14 ?_ (by decide) ?_
          · by_cases a1 : x2.toInt < 0
            · exact Or.inl a1
            by_cases a2 : 2 < x2.toInt
            · exact Or.inr (Or.inl a2)
            have b0 : x2.toInt ≠ 0 := fun q => c2 (Int32.toInt_inj.mp q)
            have b1 : x2.toInt ≠ 1 := fun q => c5 (Int32.toInt_inj.mp q)
            have b2 : x2.toInt ≠ 2 := fun q => c8 (Int32.toInt_inj.mp q)
            exact absurd a1 (by omega)
          · refine lv_aload_n hx hb dX2_tellSaying_76 rfl (lv_at hl 0 rfl) ?_
            refine lv_iload_n hx hb dX2_tellSaying_77 rfl (lv_at hl 1 rfl) ?_
            refine gCi wd (gRunV (y := yX2_isSafe) (k := 0) (As := [.int x1]) (rest := []) C wd (cmX2_isSafe (by omega) h) ⟨rfl, rfl⟩ gd_X2_192 nk_X2_isSafe ⟨Nat.le_of_ble_eq_true rfl, Nat.le_of_ble_eq_true rfl⟩ (by omega) cc_X2 rfl rfl hl.1 (Nat.le_of_ble_eq_true rfl) dX2_tellSaying_78 rfl) (fun r12 t11 H locs h wd => ?_)
            try dsimp only at h
            refine lv_if_eq (tgt := 88) hx hb dX2_tellSaying_81 (by decide) (fun c13 => ?_) (fun c13 => ?_)
            · have h := h.1 c13
              refine lv_iconst (v := (0 : Int32)) hx hb dX2_tellSaying_88 (by decide) ?_
              exact retI C wd h dX2_tellSaying_89
            · have h := h.2 c13
              refine lv_iconst (v := (1 : Int32)) hx hb dX2_tellSaying_84 (by decide) ?_
              refine lv_goto (tgt := 89) hx hb dX2_tellSaying_85 (by decide) ?_
              exact retI C wd h dX2_tellSaying_89
  · have h := h.2 c1
    refine lv_iconst (v := (-1 : Int32)) hx hb dX2_tellSaying_11 (by decide) ?_
    exact retI C wd h dX2_tellSaying_12
abbrev rmX2_doDrawn : Room := rmOf 5 120
def wpX2_doDrawn (x1 : Int64) (σ : St) (Φ : Int32 → St → Prop) : Prop :=
  wpX9_leftOver (x1 / (65536 : Int64)) (σ.1 0) σ (fun r2 t1 => wpX9_leftOver (x1 / (1024 : Int64)) (9 : Int32) t1 (fun r4 t3 => ((r4 = (0 : Int32) → wpX9_leftOver (x1 / (32768 : Int64)) (1000 : Int32) t3 (fun r7 t6 => wpX2_addWork r2 r7 t6 (fun r9 t8 => Φ r9 t8))) ∧ (r4 = (1 : Int32) → wpX9_leftOver (x1 / (32768 : Int64)) (1000 : Int32) t3 (fun r12 t11 => wpX2_addWork r2 r12 t11 (fun r14 t13 => Φ r14 t13))) ∧ (r4 = (2 : Int32) → wpX9_leftOver (x1 / (32768 : Int64)) (1000 : Int32) t3 (fun r17 t16 => wpX2_addWork r2 r17 t16 (fun r19 t18 => Φ r19 t18))) ∧ (r4 = (3 : Int32) → wpX9_leftOver ((r2 + (1 : Int32)).toInt64) (t3.1 0) t3 (fun r22 t21 => wpX2_sendLetter r2 r22 t21 (fun r24 t23 => Φ r24 t23))) ∧ (r4 = (4 : Int32) → wpX9_leftOver ((r2 + (1 : Int32)).toInt64) (t3.1 0) t3 (fun r27 t26 => wpX2_sendLetter r2 r27 t26 (fun r29 t28 => Φ r29 t28))) ∧ (r4 = (5 : Int32) → wpX2_takeLetter r2 (0 : Int32) t3 (fun r32 t31 => Φ r32 t31)) ∧ (r4 = (6 : Int32) → wpX2_takeLetter r2 (0 : Int32) t3 (fun r35 t34 => Φ r35 t34)) ∧ (r4 = (7 : Int32) → wpX2_writePages r2 (2 : Int32) t3 (fun r38 t37 => Φ r38 t37)) ∧ (¬ r4 = (0 : Int32) → ¬ r4 = (1 : Int32) → ¬ r4 = (2 : Int32) → ¬ r4 = (3 : Int32) → ¬ r4 = (4 : Int32) → ¬ r4 = (5 : Int32) → ¬ r4 = (6 : Int32) → ¬ r4 = (7 : Int32) → wpX2_addSaying r2 t3 (fun r40 t39 => Φ r40 t39)))))
set_option maxHeartbeats 4000000 in
set_option maxRecDepth 100000 in
theorem cmX2_doDrawn {D : va_G} {cyI cyO : ClassId} {ad : Nat → Nat} {n : Nat} {l : Launch} (hn : 52 ≤ n) {x1 : Int64} {σ : St} {sz : Nat} {Φ : Int32 → St → Prop} (h : wpX2_doDrawn x1 σ Φ) : gMet D (tyL cyI cyO) (cCell ad cyI cyO) ad n l yX2_doDrawn cX2_doDrawn 4 (some .int) rmX2_doDrawn [.ref (ad 0), .long x1] σ sz (gQi D (cCell ad cyI cyO) ad n sz Φ) := by
  refine gMet.of (by decide) (Nat.le_of_ble_eq_true rfl) ?_
  intro p e s m below meth c ls hsz C hl wd
  subst hsz
  have C : Cx p s m _ meth c cX2_doDrawn 4 (some .int) RX2 := C
  obtain ⟨hx, hb, hr, hml, hown, hts, hlk⟩ := id C
  have hl : lv_has ls 4 [(0, .ref (ad 0)), (1, .long x1)] := hl
  unfold wpX2_doDrawn at h
  refine lv_lload_n hx hb dX2_doDrawn_0 rfl (lv_at hl 1 rfl) ?_
  refine lv_ldc2 (v := (65536 : Int64)) hx hb hown (hts _ tw3_5) dX2_doDrawn_1 ?_
  refine lv_ldiv hx hb dX2_doDrawn_4 (by decide) ?_
  refine lv_aload_n hx hb dX2_doDrawn_5 rfl (lv_at hl 0 rfl) ?_
  refine getF C wd (k := 0) (Cn := RX2) (T := TX2) (N := 6) (v := .int (σ.1 0)) (by omega) cc_X2 rfl 0 (by decide) rfl inX2 tw1_195 dX2_doDrawn_6 ?_
  refine gCi wd (gRunSN (y := yX9_leftOver) (As := [.long (x1 / (65536 : Int64)), .int (σ.1 0)]) (rest := []) C wd (cmX9_leftOver h) ⟨rfl, rfl⟩ gc_X9_leftOver ns_57 tw1_1 tw2_97 nk_X9_leftOver ⟨Nat.le_of_ble_eq_true rfl, Nat.le_of_ble_eq_true rfl⟩ hl.1 (Nat.le_of_ble_eq_true rfl) dX2_doDrawn_9 rfl) (fun r2 t1 H locs h wd => ?_)
  try dsimp only at h
  refine lv_istore_n (lv' := [(3, .int r2), (0, .ref (ad 0)), (1, .long x1)]) hx hb dX2_doDrawn_12 rfl hl (by decide) rfl (fun ls hl => ?_)
  refine lv_lload_n hx hb dX2_doDrawn_13 rfl (lv_at hl 2 rfl) ?_
  refine lv_ldc2 (v := (1024 : Int64)) hx hb hown (hts _ tw3_7) dX2_doDrawn_14 ?_
  refine lv_ldiv hx hb dX2_doDrawn_17 (by decide) ?_
  refine lv_bipush (v := (9 : Int32)) hx hb dX2_doDrawn_18 (by decide) ?_
  refine gCi wd (gRunSN (y := yX9_leftOver) (As := [.long (x1 / (1024 : Int64)), .int (9 : Int32)]) (rest := []) C wd (cmX9_leftOver h) ⟨rfl, rfl⟩ gc_X9_leftOver ns_57 tw1_1 tw2_97 nk_X9_leftOver ⟨Nat.le_of_ble_eq_true rfl, Nat.le_of_ble_eq_true rfl⟩ hl.1 (Nat.le_of_ble_eq_true rfl) dX2_doDrawn_20 rfl) (fun r4 t3 H locs h wd => ?_)
  try dsimp only at h
  by_cases c5 : r4 = (0 : Int32)
  · have h := h.1 c5
    refine lv_tableIn (off := 45) (tgt := 68) hx hb dX2_doDrawn_23 (by rw [c5]; decide) (by rw [c5]; decide) (by rw [c5]; rfl) (by decide) ?_
    refine lv_aload_n hx hb dX2_doDrawn_68 rfl (lv_at hl 1 rfl) ?_
    refine lv_iload_n hx hb dX2_doDrawn_69 rfl (lv_at hl 0 rfl) ?_
    refine lv_lload_n hx hb dX2_doDrawn_70 rfl (lv_at hl 2 rfl) ?_
    refine lv_ldc2 (v := (32768 : Int64)) hx hb hown (hts _ tw3_8) dX2_doDrawn_71 ?_
    refine lv_ldiv hx hb dX2_doDrawn_74 (by decide) ?_
    refine lv_sipush (v := (1000 : Int32)) hx hb dX2_doDrawn_75 (by decide) ?_
    refine gCi wd (gRunSN (y := yX9_leftOver) (As := [.long (x1 / (32768 : Int64)), .int (1000 : Int32)]) (rest := [.int r2, .ref (ad 0)]) C wd (cmX9_leftOver h) ⟨rfl, rfl⟩ gc_X9_leftOver ns_57 tw1_1 tw2_97 nk_X9_leftOver ⟨Nat.le_of_ble_eq_true rfl, Nat.le_of_ble_eq_true rfl⟩ hl.1 (Nat.le_of_ble_eq_true rfl) dX2_doDrawn_78 rfl) (fun r7 t6 H locs h wd => ?_)
    try dsimp only at h
    refine gCi wd (gRunV (y := yX2_addWork) (k := 0) (As := [.int r2, .int r7]) (rest := []) C wd (cmX2_addWork (by omega) h) ⟨rfl, rfl⟩ gd_X2_230 nk_X2_addWork ⟨Nat.le_of_ble_eq_true rfl, Nat.le_of_ble_eq_true rfl⟩ (by omega) cc_X2 rfl rfl hl.1 (Nat.le_of_ble_eq_true rfl) dX2_doDrawn_81 rfl) (fun r9 t8 H locs h wd => ?_)
    try dsimp only at h
    exact retI C wd h dX2_doDrawn_84
  · skip
    by_cases c10 : r4 = (1 : Int32)
    · have h := h.2.1 c10
      refine lv_tableIn (off := 45) (tgt := 68) hx hb dX2_doDrawn_23 (by rw [c10]; decide) (by rw [c10]; decide) (by rw [c10]; rfl) (by decide) ?_
      refine lv_aload_n hx hb dX2_doDrawn_68 rfl (lv_at hl 1 rfl) ?_
      refine lv_iload_n hx hb dX2_doDrawn_69 rfl (lv_at hl 0 rfl) ?_
      refine lv_lload_n hx hb dX2_doDrawn_70 rfl (lv_at hl 2 rfl) ?_
      refine lv_ldc2 (v := (32768 : Int64)) hx hb hown (hts _ tw3_8) dX2_doDrawn_71 ?_
      refine lv_ldiv hx hb dX2_doDrawn_74 (by decide) ?_
      refine lv_sipush (v := (1000 : Int32)) hx hb dX2_doDrawn_75 (by decide) ?_
      refine gCi wd (gRunSN (y := yX9_leftOver) (As := [.long (x1 / (32768 : Int64)), .int (1000 : Int32)]) (rest := [.int r2, .ref (ad 0)]) C wd (cmX9_leftOver h) ⟨rfl, rfl⟩ gc_X9_leftOver ns_57 tw1_1 tw2_97 nk_X9_leftOver ⟨Nat.le_of_ble_eq_true rfl, Nat.le_of_ble_eq_true rfl⟩ hl.1 (Nat.le_of_ble_eq_true rfl) dX2_doDrawn_78 rfl) (fun r12 t11 H locs h wd => ?_)
      try dsimp only at h
      refine gCi wd (gRunV (y := yX2_addWork) (k := 0) (As := [.int r2, .int r12]) (rest := []) C wd (cmX2_addWork (by omega) h) ⟨rfl, rfl⟩ gd_X2_230 nk_X2_addWork ⟨Nat.le_of_ble_eq_true rfl, Nat.le_of_ble_eq_true rfl⟩ (by omega) cc_X2 rfl rfl hl.1 (Nat.le_of_ble_eq_true rfl) dX2_doDrawn_81 rfl) (fun r14 t13 H locs h wd => ?_)
      try dsimp only at h
      exact retI C wd h dX2_doDrawn_84
    · skip
      by_cases c15 : r4 = (2 : Int32)
      · have h := h.2.2.1 c15
        refine lv_tableIn (off := 45) (tgt := 68) hx hb dX2_doDrawn_23 (by rw [c15]; decide) (by rw [c15]; decide) (by rw [c15]; rfl) (by decide) ?_
        refine lv_aload_n hx hb dX2_doDrawn_68 rfl (lv_at hl 1 rfl) ?_
        refine lv_iload_n hx hb dX2_doDrawn_69 rfl (lv_at hl 0 rfl) ?_
        refine lv_lload_n hx hb dX2_doDrawn_70 rfl (lv_at hl 2 rfl) ?_
        refine lv_ldc2 (v := (32768 : Int64)) hx hb hown (hts _ tw3_8) dX2_doDrawn_71 ?_
        refine lv_ldiv hx hb dX2_doDrawn_74 (by decide) ?_
        refine lv_sipush (v := (1000 : Int32)) hx hb dX2_doDrawn_75 (by decide) ?_
        refine gCi wd (gRunSN (y := yX9_leftOver) (As := [.long (x1 / (32768 : Int64)), .int (1000 : Int32)]) (rest := [.int r2, .ref (ad 0)]) C wd (cmX9_leftOver h) ⟨rfl, rfl⟩ gc_X9_leftOver ns_57 tw1_1 tw2_97 nk_X9_leftOver ⟨Nat.le_of_ble_eq_true rfl, Nat.le_of_ble_eq_true rfl⟩ hl.1 (Nat.le_of_ble_eq_true rfl) dX2_doDrawn_78 rfl) (fun r17 t16 H locs h wd => ?_)
        try dsimp only at h
        refine gCi wd (gRunV (y := yX2_addWork) (k := 0) (As := [.int r2, .int r17]) (rest := []) C wd (cmX2_addWork (by omega) h) ⟨rfl, rfl⟩ gd_X2_230 nk_X2_addWork ⟨Nat.le_of_ble_eq_true rfl, Nat.le_of_ble_eq_true rfl⟩ (by omega) cc_X2 rfl rfl hl.1 (Nat.le_of_ble_eq_true rfl) dX2_doDrawn_81 rfl) (fun r19 t18 H locs h wd => ?_)
        try dsimp only at h
        exact retI C wd h dX2_doDrawn_84
      · skip
        by_cases c20 : r4 = (3 : Int32)
        · have h := h.2.2.2.1 c20
          refine lv_tableIn (off := 62) (tgt := 85) hx hb dX2_doDrawn_23 (by rw [c20]; decide) (by rw [c20]; decide) (by rw [c20]; rfl) (by decide) ?_
          refine lv_aload_n hx hb dX2_doDrawn_85 rfl (lv_at hl 1 rfl) ?_
          refine lv_iload_n hx hb dX2_doDrawn_86 rfl (lv_at hl 0 rfl) ?_
          refine lv_iload_n hx hb dX2_doDrawn_87 rfl (lv_at hl 0 rfl) ?_
          refine lv_iconst (v := (1 : Int32)) hx hb dX2_doDrawn_88 (by decide) ?_
          refine lv_iadd hx hb dX2_doDrawn_89 ?_
          refine lv_i2l hx hb dX2_doDrawn_90 rfl ?_
          refine lv_aload_n hx hb dX2_doDrawn_91 rfl (lv_at hl 1 rfl) ?_
          refine getF C wd (k := 0) (Cn := RX2) (T := TX2) (N := 6) (v := .int (t3.1 0)) (by omega) cc_X2 rfl 0 (by decide) rfl inX2 tw1_195 dX2_doDrawn_92 ?_
          refine gCi wd (gRunSN (y := yX9_leftOver) (As := [.long ((r2 + (1 : Int32)).toInt64), .int (t3.1 0)]) (rest := [.int r2, .ref (ad 0)]) C wd (cmX9_leftOver h) ⟨rfl, rfl⟩ gc_X9_leftOver ns_57 tw1_1 tw2_97 nk_X9_leftOver ⟨Nat.le_of_ble_eq_true rfl, Nat.le_of_ble_eq_true rfl⟩ hl.1 (Nat.le_of_ble_eq_true rfl) dX2_doDrawn_95 rfl) (fun r22 t21 H locs h wd => ?_)
          try dsimp only at h
          refine gCi wd (gRunV (y := yX2_sendLetter) (k := 0) (As := [.int r2, .int r22]) (rest := []) C wd (cmX2_sendLetter (by omega) h) ⟨rfl, rfl⟩ gd_X2_233 nk_X2_sendLetter ⟨Nat.le_of_ble_eq_true rfl, Nat.le_of_ble_eq_true rfl⟩ (by omega) cc_X2 rfl rfl hl.1 (Nat.le_of_ble_eq_true rfl) dX2_doDrawn_98 rfl) (fun r24 t23 H locs h wd => ?_)
          try dsimp only at h
          exact retI C wd h dX2_doDrawn_101
        · skip
          by_cases c25 : r4 = (4 : Int32)
          · have h := h.2.2.2.2.1 c25
            refine lv_tableIn (off := 62) (tgt := 85) hx hb dX2_doDrawn_23 (by rw [c25]; decide) (by rw [c25]; decide) (by rw [c25]; rfl) (by decide) ?_
            refine lv_aload_n hx hb dX2_doDrawn_85 rfl (lv_at hl 1 rfl) ?_
            refine lv_iload_n hx hb dX2_doDrawn_86 rfl (lv_at hl 0 rfl) ?_
            refine lv_iload_n hx hb dX2_doDrawn_87 rfl (lv_at hl 0 rfl) ?_
            refine lv_iconst (v := (1 : Int32)) hx hb dX2_doDrawn_88 (by decide) ?_
            refine lv_iadd hx hb dX2_doDrawn_89 ?_
            refine lv_i2l hx hb dX2_doDrawn_90 rfl ?_
            refine lv_aload_n hx hb dX2_doDrawn_91 rfl (lv_at hl 1 rfl) ?_
            refine getF C wd (k := 0) (Cn := RX2) (T := TX2) (N := 6) (v := .int (t3.1 0)) (by omega) cc_X2 rfl 0 (by decide) rfl inX2 tw1_195 dX2_doDrawn_92 ?_
            refine gCi wd (gRunSN (y := yX9_leftOver) (As := [.long ((r2 + (1 : Int32)).toInt64), .int (t3.1 0)]) (rest := [.int r2, .ref (ad 0)]) C wd (cmX9_leftOver h) ⟨rfl, rfl⟩ gc_X9_leftOver ns_57 tw1_1 tw2_97 nk_X9_leftOver ⟨Nat.le_of_ble_eq_true rfl, Nat.le_of_ble_eq_true rfl⟩ hl.1 (Nat.le_of_ble_eq_true rfl) dX2_doDrawn_95 rfl) (fun r27 t26 H locs h wd => ?_)
            try dsimp only at h
            refine gCi wd (gRunV (y := yX2_sendLetter) (k := 0) (As := [.int r2, .int r27]) (rest := []) C wd (cmX2_sendLetter (by omega) h) ⟨rfl, rfl⟩ gd_X2_233 nk_X2_sendLetter ⟨Nat.le_of_ble_eq_true rfl, Nat.le_of_ble_eq_true rfl⟩ (by omega) cc_X2 rfl rfl hl.1 (Nat.le_of_ble_eq_true rfl) dX2_doDrawn_98 rfl) (fun r29 t28 H locs h wd => ?_)
            try dsimp only at h
            exact retI C wd h dX2_doDrawn_101
          · skip
            by_cases c30 : r4 = (5 : Int32)
            · have h := h.2.2.2.2.2.1 c30
              refine lv_tableIn (off := 79) (tgt := 102) hx hb dX2_doDrawn_23 (by rw [c30]; decide) (by rw [c30]; decide) (by rw [c30]; rfl) (by decide) ?_
              refine lv_aload_n hx hb dX2_doDrawn_102 rfl (lv_at hl 1 rfl) ?_
              refine lv_iload_n hx hb dX2_doDrawn_103 rfl (lv_at hl 0 rfl) ?_
              refine lv_iconst (v := (0 : Int32)) hx hb dX2_doDrawn_104 (by decide) ?_
              refine gCi wd (gRunV (y := yX2_takeLetter) (k := 0) (As := [.int r2, .int (0 : Int32)]) (rest := []) C wd (cmX2_takeLetter (by omega) h) ⟨rfl, rfl⟩ gd_X2_236 nk_X2_takeLetter ⟨Nat.le_of_ble_eq_true rfl, Nat.le_of_ble_eq_true rfl⟩ (by omega) cc_X2 rfl rfl hl.1 (Nat.le_of_ble_eq_true rfl) dX2_doDrawn_105 rfl) (fun r32 t31 H locs h wd => ?_)
              try dsimp only at h
              exact retI C wd h dX2_doDrawn_108
            · skip
              by_cases c33 : r4 = (6 : Int32)
              · have h := h.2.2.2.2.2.2.1 c33
                refine lv_tableIn (off := 79) (tgt := 102) hx hb dX2_doDrawn_23 (by rw [c33]; decide) (by rw [c33]; decide) (by rw [c33]; rfl) (by decide) ?_
                refine lv_aload_n hx hb dX2_doDrawn_102 rfl (lv_at hl 1 rfl) ?_
                refine lv_iload_n hx hb dX2_doDrawn_103 rfl (lv_at hl 0 rfl) ?_
                refine lv_iconst (v := (0 : Int32)) hx hb dX2_doDrawn_104 (by decide) ?_
                refine gCi wd (gRunV (y := yX2_takeLetter) (k := 0) (As := [.int r2, .int (0 : Int32)]) (rest := []) C wd (cmX2_takeLetter (by omega) h) ⟨rfl, rfl⟩ gd_X2_236 nk_X2_takeLetter ⟨Nat.le_of_ble_eq_true rfl, Nat.le_of_ble_eq_true rfl⟩ (by omega) cc_X2 rfl rfl hl.1 (Nat.le_of_ble_eq_true rfl) dX2_doDrawn_105 rfl) (fun r35 t34 H locs h wd => ?_)
                try dsimp only at h
                exact retI C wd h dX2_doDrawn_108
              · skip
                by_cases c36 : r4 = (7 : Int32)
                · have h := h.2.2.2.2.2.2.2.1 c36
                  refine lv_tableIn (off := 86) (tgt := 109) hx hb dX2_doDrawn_23 (by rw [c36]; decide) (by rw [c36]; decide) (by rw [c36]; rfl) (by decide) ?_
                  refine lv_aload_n hx hb dX2_doDrawn_109 rfl (lv_at hl 1 rfl) ?_
                  refine lv_iload_n hx hb dX2_doDrawn_110 rfl (lv_at hl 0 rfl) ?_
                  refine lv_iconst (v := (2 : Int32)) hx hb dX2_doDrawn_111 (by decide) ?_
                  refine gCi wd (gRunV (y := yX2_writePages) (k := 0) (As := [.int r2, .int (2 : Int32)]) (rest := []) C wd (cmX2_writePages (by omega) h) ⟨rfl, rfl⟩ gd_X2_239 nk_X2_writePages ⟨Nat.le_of_ble_eq_true rfl, Nat.le_of_ble_eq_true rfl⟩ (by omega) cc_X2 rfl rfl hl.1 (Nat.le_of_ble_eq_true rfl) dX2_doDrawn_112 rfl) (fun r38 t37 H locs h wd => ?_)
                  try dsimp only at h
                  exact retI C wd h dX2_doDrawn_115
                · skip
                  have h := h.2.2.2.2.2.2.2.2 c5 c10 c15 c20 c25 c30 c33 c36
                  refine lv_tableD (tgt := 116) C dX2_doDrawn_23 ?_ (by decide) ?_
                  · by_cases a1 : r4.toInt < 0
                    · exact Or.inl a1
                    by_cases a2 : 7 < r4.toInt
                    · exact Or.inr (Or.inl a2)
                    have b0 : r4.toInt ≠ 0 := fun q => c5 (Int32.toInt_inj.mp q)
                    have b1 : r4.toInt ≠ 1 := fun q => c10 (Int32.toInt_inj.mp q)
                    have b2 : r4.toInt ≠ 2 := fun q => c15 (Int32.toInt_inj.mp q)
                    have b3 : r4.toInt ≠ 3 := fun q => c20 (Int32.toInt_inj.mp q)
                    have b4 : r4.toInt ≠ 4 := fun q => c25 (Int32.toInt_inj.mp q)
                    have b5 : r4.toInt ≠ 5 := fun q => c30 (Int32.toInt_inj.mp q)
                    have b6 : r4.toInt ≠ 6 := fun q => c33 (Int32.toInt_inj.mp q)
                    have b7 : r4.toInt ≠ 7 := fun q => c36 (Int32.toInt_inj.mp q)
                    exact absurd a1 (by omega)
                  · refine lv_aload_n hx hb dX2_doDrawn_116 rfl (lv_at hl 1 rfl) ?_
                    refine lv_iload_n hx hb dX2_doDrawn_117 rfl (lv_at hl 0 rfl) ?_
                    refine gCi wd (gRunV (y := yX2_addSaying) (k := 0) (As := [.int r2]) (rest := []) C wd (cmX2_addSaying (by omega) h) ⟨rfl, rfl⟩ gd_X2_242 nk_X2_addSaying ⟨Nat.le_of_ble_eq_true rfl, Nat.le_of_ble_eq_true rfl⟩ (by omega) cc_X2 rfl rfl hl.1 (Nat.le_of_ble_eq_true rfl) dX2_doDrawn_118 rfl) (fun r40 t39 H locs h wd => ?_)
                    try dsimp only at h
                    exact retI C wd h dX2_doDrawn_121
abbrev rmX2_follow : Room := rmOf 6 132
def wpX2_follow (x1 : Int32) (x2 : Int32) (x3 : Int32) (σ : St) (Φ : Int32 → St → Prop) : Prop :=
  ((x1 = (103 : Int32) → wpX2_takeLetter x2 x3 σ (fun r3 t2 => Φ r3 t2)) ∧ (x1 = (108 : Int32) → wpX2_writePages x2 (24 : Int32) σ (fun r6 t5 => Φ r6 t5)) ∧ (x1 = (111 : Int32) → wpX2_addSaying x2 σ (fun r9 t8 => Φ r9 t8)) ∧ (x1 = (114 : Int32) → wpX2_releaseSafe σ (fun r12 t11 => Φ r12 t11)) ∧ (x1 = (115 : Int32) → wpX2_sendLetter x2 x3 σ (fun r15 t14 => Φ r15 t14)) ∧ (x1 = (119 : Int32) → wpX2_addWork x2 x3 σ (fun r18 t17 => Φ r18 t17)) ∧ (x1 = (120 : Int32) → wpX2_lose x2 σ (fun r21 t20 => Φ r21 t20)) ∧ (¬ x1 = (103 : Int32) → ¬ x1 = (108 : Int32) → ¬ x1 = (111 : Int32) → ¬ x1 = (114 : Int32) → ¬ x1 = (115 : Int32) → ¬ x1 = (119 : Int32) → ¬ x1 = (120 : Int32) → wpX2_cutAll σ (fun r23 t22 => Φ r23 t22)))
set_option maxHeartbeats 4000000 in
set_option maxRecDepth 100000 in
theorem cmX2_follow {D : va_G} {cyI cyO : ClassId} {ad : Nat → Nat} {n : Nat} {l : Launch} (hn : 52 ≤ n) {x1 : Int32} {x2 : Int32} {x3 : Int32} {σ : St} {sz : Nat} {Φ : Int32 → St → Prop} (h : wpX2_follow x1 x2 x3 σ Φ) : gMet D (tyL cyI cyO) (cCell ad cyI cyO) ad n l yX2_follow cX2_follow 4 (some .int) rmX2_follow [.ref (ad 0), .int x1, .int x2, .int x3] σ sz (gQi D (cCell ad cyI cyO) ad n sz Φ) := by
  refine gMet.of (by decide) (Nat.le_of_ble_eq_true rfl) ?_
  intro p e s m below meth c ls hsz C hl wd
  subst hsz
  have C : Cx p s m _ meth c cX2_follow 4 (some .int) RX2 := C
  obtain ⟨hx, hb, hr, hml, hown, hts, hlk⟩ := id C
  have hl : lv_has ls 4 [(0, .ref (ad 0)), (1, .int x1), (2, .int x2), (3, .int x3)] := hl
  unfold wpX2_follow at h
  refine lv_iload_n hx hb dX2_follow_0 rfl (lv_at hl 1 rfl) ?_
  by_cases c1 : x1 = (103 : Int32)
  · have h := h.1 c1
    refine lv_tableIn (off := 101) (tgt := 102) hx hb dX2_follow_1 (by rw [c1]; decide) (by rw [c1]; decide) (by rw [c1]; rfl) (by decide) ?_
    refine lv_aload_n hx hb dX2_follow_102 rfl (lv_at hl 0 rfl) ?_
    refine lv_iload_n hx hb dX2_follow_103 rfl (lv_at hl 2 rfl) ?_
    refine lv_iload_n hx hb dX2_follow_104 rfl (lv_at hl 3 rfl) ?_
    refine gCi wd (gRunV (y := yX2_takeLetter) (k := 0) (As := [.int x2, .int x3]) (rest := []) C wd (cmX2_takeLetter (by omega) h) ⟨rfl, rfl⟩ gd_X2_236 nk_X2_takeLetter ⟨Nat.le_of_ble_eq_true rfl, Nat.le_of_ble_eq_true rfl⟩ (by omega) cc_X2 rfl rfl hl.1 (Nat.le_of_ble_eq_true rfl) dX2_follow_105 rfl) (fun r3 t2 H locs h wd => ?_)
    try dsimp only at h
    exact retI C wd h dX2_follow_108
  · skip
    by_cases c4 : x1 = (108 : Int32)
    · have h := h.2.1 c4
      refine lv_tableIn (off := 108) (tgt := 109) hx hb dX2_follow_1 (by rw [c4]; decide) (by rw [c4]; decide) (by rw [c4]; rfl) (by decide) ?_
      refine lv_aload_n hx hb dX2_follow_109 rfl (lv_at hl 0 rfl) ?_
      refine lv_iload_n hx hb dX2_follow_110 rfl (lv_at hl 2 rfl) ?_
      refine lv_bipush (v := (24 : Int32)) hx hb dX2_follow_111 (by decide) ?_
      refine gCi wd (gRunV (y := yX2_writePages) (k := 0) (As := [.int x2, .int (24 : Int32)]) (rest := []) C wd (cmX2_writePages (by omega) h) ⟨rfl, rfl⟩ gd_X2_239 nk_X2_writePages ⟨Nat.le_of_ble_eq_true rfl, Nat.le_of_ble_eq_true rfl⟩ (by omega) cc_X2 rfl rfl hl.1 (Nat.le_of_ble_eq_true rfl) dX2_follow_113 rfl) (fun r6 t5 H locs h wd => ?_)
      try dsimp only at h
      exact retI C wd h dX2_follow_116
    · skip
      by_cases c7 : x1 = (111 : Int32)
      · have h := h.2.2.1 c7
        refine lv_tableIn (off := 122) (tgt := 123) hx hb dX2_follow_1 (by rw [c7]; decide) (by rw [c7]; decide) (by rw [c7]; rfl) (by decide) ?_
        refine lv_aload_n hx hb dX2_follow_123 rfl (lv_at hl 0 rfl) ?_
        refine lv_iload_n hx hb dX2_follow_124 rfl (lv_at hl 2 rfl) ?_
        refine gCi wd (gRunV (y := yX2_addSaying) (k := 0) (As := [.int x2]) (rest := []) C wd (cmX2_addSaying (by omega) h) ⟨rfl, rfl⟩ gd_X2_242 nk_X2_addSaying ⟨Nat.le_of_ble_eq_true rfl, Nat.le_of_ble_eq_true rfl⟩ (by omega) cc_X2 rfl rfl hl.1 (Nat.le_of_ble_eq_true rfl) dX2_follow_125 rfl) (fun r9 t8 H locs h wd => ?_)
        try dsimp only at h
        exact retI C wd h dX2_follow_128
      · skip
        by_cases c10 : x1 = (114 : Int32)
        · have h := h.2.2.2.1 c10
          refine lv_tableIn (off := 128) (tgt := 129) hx hb dX2_follow_1 (by rw [c10]; decide) (by rw [c10]; decide) (by rw [c10]; rfl) (by decide) ?_
          refine lv_aload_n hx hb dX2_follow_129 rfl (lv_at hl 0 rfl) ?_
          refine gCi wd (gRunV (y := yX2_releaseSafe) (k := 0) (As := []) (rest := []) C wd (cmX2_releaseSafe (by omega) h) ⟨rfl, rfl⟩ gd_X2_248 nk_X2_releaseSafe ⟨Nat.le_of_ble_eq_true rfl, Nat.le_of_ble_eq_true rfl⟩ (by omega) cc_X2 rfl rfl hl.1 (Nat.le_of_ble_eq_true rfl) dX2_follow_130 rfl) (fun r12 t11 H locs h wd => ?_)
          try dsimp only at h
          exact retI C wd h dX2_follow_133
        · skip
          by_cases c13 : x1 = (115 : Int32)
          · have h := h.2.2.2.2.1 c13
            refine lv_tableIn (off := 94) (tgt := 95) hx hb dX2_follow_1 (by rw [c13]; decide) (by rw [c13]; decide) (by rw [c13]; rfl) (by decide) ?_
            refine lv_aload_n hx hb dX2_follow_95 rfl (lv_at hl 0 rfl) ?_
            refine lv_iload_n hx hb dX2_follow_96 rfl (lv_at hl 2 rfl) ?_
            refine lv_iload_n hx hb dX2_follow_97 rfl (lv_at hl 3 rfl) ?_
            refine gCi wd (gRunV (y := yX2_sendLetter) (k := 0) (As := [.int x2, .int x3]) (rest := []) C wd (cmX2_sendLetter (by omega) h) ⟨rfl, rfl⟩ gd_X2_233 nk_X2_sendLetter ⟨Nat.le_of_ble_eq_true rfl, Nat.le_of_ble_eq_true rfl⟩ (by omega) cc_X2 rfl rfl hl.1 (Nat.le_of_ble_eq_true rfl) dX2_follow_98 rfl) (fun r15 t14 H locs h wd => ?_)
            try dsimp only at h
            exact retI C wd h dX2_follow_101
          · skip
            by_cases c16 : x1 = (119 : Int32)
            · have h := h.2.2.2.2.2.1 c16
              refine lv_tableIn (off := 87) (tgt := 88) hx hb dX2_follow_1 (by rw [c16]; decide) (by rw [c16]; decide) (by rw [c16]; rfl) (by decide) ?_
              refine lv_aload_n hx hb dX2_follow_88 rfl (lv_at hl 0 rfl) ?_
              refine lv_iload_n hx hb dX2_follow_89 rfl (lv_at hl 2 rfl) ?_
              refine lv_iload_n hx hb dX2_follow_90 rfl (lv_at hl 3 rfl) ?_
              refine gCi wd (gRunV (y := yX2_addWork) (k := 0) (As := [.int x2, .int x3]) (rest := []) C wd (cmX2_addWork (by omega) h) ⟨rfl, rfl⟩ gd_X2_230 nk_X2_addWork ⟨Nat.le_of_ble_eq_true rfl, Nat.le_of_ble_eq_true rfl⟩ (by omega) cc_X2 rfl rfl hl.1 (Nat.le_of_ble_eq_true rfl) dX2_follow_91 rfl) (fun r18 t17 H locs h wd => ?_)
              try dsimp only at h
              exact retI C wd h dX2_follow_94
            · skip
              by_cases c19 : x1 = (120 : Int32)
              · have h := h.2.2.2.2.2.2.1 c19
                refine lv_tableIn (off := 116) (tgt := 117) hx hb dX2_follow_1 (by rw [c19]; decide) (by rw [c19]; decide) (by rw [c19]; rfl) (by decide) ?_
                refine lv_aload_n hx hb dX2_follow_117 rfl (lv_at hl 0 rfl) ?_
                refine lv_iload_n hx hb dX2_follow_118 rfl (lv_at hl 2 rfl) ?_
                refine gCi wd (gRunV (y := yX2_lose) (k := 0) (As := [.int x2]) (rest := []) C wd (cmX2_lose (by omega) h) ⟨rfl, rfl⟩ gd_X2_245 nk_X2_lose ⟨Nat.le_of_ble_eq_true rfl, Nat.le_of_ble_eq_true rfl⟩ (by omega) cc_X2 rfl rfl hl.1 (Nat.le_of_ble_eq_true rfl) dX2_follow_119 rfl) (fun r21 t20 H locs h wd => ?_)
                try dsimp only at h
                exact retI C wd h dX2_follow_122
              · skip
                have h := h.2.2.2.2.2.2.2 c1 c4 c7 c10 c13 c16 c19
                refine lv_tableD (tgt := 134) C dX2_follow_1 ?_ (by decide) ?_
                · by_cases a1 : x1.toInt < 103
                  · exact Or.inl a1
                  by_cases a2 : 120 < x1.toInt
                  · exact Or.inr (Or.inl a2)
                  have b0 : x1.toInt ≠ 103 := fun q => c1 (Int32.toInt_inj.mp q)
                  have b1 : x1.toInt ≠ 108 := fun q => c4 (Int32.toInt_inj.mp q)
                  have b2 : x1.toInt ≠ 111 := fun q => c7 (Int32.toInt_inj.mp q)
                  have b3 : x1.toInt ≠ 114 := fun q => c10 (Int32.toInt_inj.mp q)
                  have b4 : x1.toInt ≠ 115 := fun q => c13 (Int32.toInt_inj.mp q)
                  have b5 : x1.toInt ≠ 119 := fun q => c16 (Int32.toInt_inj.mp q)
                  have b6 : x1.toInt ≠ 120 := fun q => c19 (Int32.toInt_inj.mp q)
                  have b : x1.toInt = 104 ∨ x1.toInt = 105 ∨ x1.toInt = 106 ∨ x1.toInt = 107 ∨ x1.toInt = 109 ∨ x1.toInt = 110 ∨ x1.toInt = 112 ∨ x1.toInt = 113 ∨ x1.toInt = 116 ∨ x1.toInt = 117 ∨ x1.toInt = 118 := by omega
                  rcases b with b | b | b | b | b | b | b | b | b | b | b <;> rw [b] <;> exact Or.inr (Or.inr rfl)
                · refine lv_aload_n hx hb dX2_follow_134 rfl (lv_at hl 0 rfl) ?_
                  refine gCi wd (gRunV (y := yX2_cutAll) (k := 0) (As := []) (rest := []) C wd (cmX2_cutAll (by omega) h) ⟨rfl, rfl⟩ gd_X2_251 nk_X2_cutAll ⟨Nat.le_of_ble_eq_true rfl, Nat.le_of_ble_eq_true rfl⟩ (by omega) cc_X2 rfl rfl hl.1 (Nat.le_of_ble_eq_true rfl) dX2_follow_135 rfl) (fun r23 t22 H locs h wd => ?_)
                  try dsimp only at h
                  exact retI C wd h dX2_follow_138
end
