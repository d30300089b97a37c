section
variable {D : va_G} {cyI cyO : ClassId} {ad : Nat → Nat} {n : Nat}
abbrev rmX9_dead : Room := rmOf 2 44
def wbX9_dead_36 (Φ : Int32 → St → Prop) (x1 : Int32) (x2 : Int32) (x3 : Int32) (z0 : Int32) (σ : St) : Prop :=
  ((z0 = 0 → wpX7_counted (-2 : Int32) σ (fun r8 t7 => Φ r8 t7)) ∧ (¬ z0 = 0 → wpX2_clerk x1 σ (fun r3 t2 => wpX0_isDeadRest r3 x2 x3 t2 (fun r5 t4 => ((r5 = 0 → Φ (0 : Int32) t4) ∧ (¬ r5 = 0 → Φ (1 : Int32) t4))))))
set_option maxHeartbeats 4000000 in
set_option maxRecDepth 100000 in
theorem blX9_dead_36 {p : Program} {l : Launch} {e : Env} {s : State} {m : MethodId} {args : Array Value} {below : List Frame} {meth : Method} {c : Code} (hn : 60 ≤ n) (C : Cx p s m args meth c cX9_dead 5 (some .int) RX9) {Φ : Int32 → St → Prop} {x1 : Int32} {x2 : Int32} {x3 : Int32} {z0 : Int32} {σ : St} {H : Heap} {locs : List Loc} {ls : Array Slot} (h : wbX9_dead_36 Φ x1 x2 x3 z0 σ) (wd : gWd D (tyL cyI cyO) (cCell ad cyI cyO) ad n s H locs σ) (hl : lv_has ls 5 [(0, .ref (ad 56)), (1, .int x1), (2, .int x2), (3, .int x3)]) : W p l e rmX9_dead s m args below meth c H locs 0 0 (MQ below (gQi D (cCell ad cyI cyO) ad n s.heap.size Φ) args s 0 0 (gA ad n s.heap.size)) (F0 m 36 ls [.int z0]) := by
  obtain ⟨hx, hb, hr, hml, hown, hts, hlk⟩ := id C
  unfold wbX9_dead_36 at h
  refine lv_istore (lv' := [(4, .int z0), (0, .ref (ad 56)), (1, .int x1), (2, .int x2), (3, .int x3)]) hx hb dX9_dead_36 hl (by decide) rfl (fun ls hl => ?_)
  refine lv_iload hx hb dX9_dead_38 (lv_at hl 0 rfl) ?_
  refine lv_if_ne (tgt := 53) hx hb dX9_dead_40 (by decide) (fun c1 => ?_) (fun c1 => ?_)
  · have h := h.2 c1
    refine lv_aload_n hx hb dX9_dead_53 rfl (lv_at hl 1 rfl) ?_
    refine getF C wd (k := 56) (Cn := RX9) (T := TX9) (N := 4) (v := .ref (ad 0)) (by omega) cc_X9 rfl 0 (by decide) rfl inX9 tw2_42 dX9_dead_54 ?_
    refine lv_iload_n hx hb dX9_dead_57 rfl (lv_at hl 2 rfl) ?_
    refine gCr wd (gRunV (y := yX2_clerk) (k := 0) (As := [.int x1]) (rest := []) C wd (cmX2_clerk (by omega) h) ⟨rfl, rfl⟩ gd_X9_94 nk_X2_clerk ⟨Nat.le_of_ble_eq_true rfl, Nat.le_of_ble_eq_true rfl⟩ (by omega) cc_X2 rfl rfl hl.1 (Nat.le_of_ble_eq_true rfl) dX9_dead_58 rfl) (fun r3 t2 H locs hr3a hr3b h wd => ?_)
    try dsimp only at h
    refine lv_iload_n hx hb dX9_dead_61 rfl (lv_at hl 3 rfl) ?_
    refine lv_iload_n hx hb dX9_dead_62 rfl (lv_at hl 4 rfl) ?_
    refine gCi wd (gRunV (y := yX0_isDeadRest) (k := r3) (As := [.int x2, .int x3]) (rest := []) C wd (cmX0_isDeadRest (by omega) (by omega) (by omega) h) ⟨rfl, rfl⟩ gd_X9_98 nk_X0_isDeadRest ⟨Nat.le_of_ble_eq_true rfl, Nat.le_of_ble_eq_true rfl⟩ (by omega) (cc_X0 (k := r3) (by omega) (by omega)) rfl rfl hl.1 (Nat.le_of_ble_eq_true rfl) dX9_dead_63 rfl) (fun r5 t4 H locs h wd => ?_)
    try dsimp only at h
    refine lv_if_eq (tgt := 73) hx hb dX9_dead_66 (by decide) (fun c6 => ?_) (fun c6 => ?_)
    · have h := h.1 c6
      refine lv_iconst (v := (0 : Int32)) hx hb dX9_dead_73 (by decide) ?_
      exact retI C wd h dX9_dead_74
    · have h := h.2 c6
      refine lv_iconst (v := (1 : Int32)) hx hb dX9_dead_69 (by decide) ?_
      refine lv_goto (tgt := 74) hx hb dX9_dead_70 (by decide) ?_
      exact retI C wd h dX9_dead_74
  · have h := h.1 c1
    refine lv_aload_n hx hb dX9_dead_43 rfl (lv_at hl 1 rfl) ?_
    refine getF C wd (k := 56) (Cn := RX9) (T := TX9) (N := 4) (v := .ref (ad 59)) (by omega) cc_X9 rfl 3 (by decide) rfl inX9 tw2_45 dX9_dead_44 ?_
    refine lv_bipush (v := (-2 : Int32)) hx hb dX9_dead_47 (by decide) ?_
    refine gCi wd (gRunV (y := yX7_counted) (k := 59) (As := [.int (-2 : Int32)]) (rest := []) C wd (cmX7_counted (by omega) h) ⟨rfl, rfl⟩ gd_X9_41 nk_X7_counted ⟨Nat.le_of_ble_eq_true rfl, Nat.le_of_ble_eq_true rfl⟩ (by omega) cc_X7 rfl rfl hl.1 (Nat.le_of_ble_eq_true rfl) dX9_dead_49 rfl) (fun r8 t7 H locs h wd => ?_)
    try dsimp only at h
    exact retI C wd h dX9_dead_52
def wbX9_dead_35 (Φ : Int32 → St → Prop) (x1 : Int32) (x2 : Int32) (x3 : Int32) (σ : St) : Prop :=
  wbX9_dead_36 Φ x1 x2 x3 (0 : Int32) σ
set_option maxHeartbeats 4000000 in
set_option maxRecDepth 100000 in
theorem blX9_dead_35 {p : Program} {l : Launch} {e : Env} {s : State} {m : MethodId} {args : Array Value} {below : List Frame} {meth : Method} {c : Code} (hn : 60 ≤ n) (C : Cx p s m args meth c cX9_dead 5 (some .int) RX9) {Φ : Int32 → St → Prop} {x1 : Int32} {x2 : Int32} {x3 : Int32} {σ : St} {H : Heap} {locs : List Loc} {ls : Array Slot} (h : wbX9_dead_35 Φ x1 x2 x3 σ) (wd : gWd D (tyL cyI cyO) (cCell ad cyI cyO) ad n s H locs σ) (hl : lv_has ls 5 [(0, .ref (ad 56)), (1, .int x1), (2, .int x2), (3, .int x3)]) : W p l e rmX9_dead s m args below meth c H locs 0 0 (MQ below (gQi D (cCell ad cyI cyO) ad n s.heap.size Φ) args s 0 0 (gA ad n s.heap.size)) (F0 m 35 ls []) := by
  obtain ⟨hx, hb, hr, hml, hown, hts, hlk⟩ := id C
  unfold wbX9_dead_35 at h
  refine lv_iconst (v := (0 : Int32)) hx hb dX9_dead_35 (by decide) ?_
  exact blX9_dead_36 hn C h wd (lv_sub hl [0, 1, 2, 3] rfl)
def wpX9_dead (x1 : Int32) (x2 : Int32) (x3 : Int32) (σ : St) (Φ : Int32 → St → Prop) : Prop :=
  wpX2_hasClerk x1 σ (fun r2 t1 => ((r2 = 0 → wbX9_dead_35 Φ x1 x2 x3 t1) ∧ (¬ r2 = 0 → wpX9_within x2 (0 : Int32) (99 : Int32) t1 (fun r5 t4 => ((r5 = 0 → wbX9_dead_35 Φ x1 x2 x3 t4) ∧ (¬ r5 = 0 → wpX9_within x3 (0 : Int32) (99 : Int32) t4 (fun r8 t7 => ((r8 = 0 → wbX9_dead_35 Φ x1 x2 x3 t7) ∧ (¬ r8 = 0 → wbX9_dead_36 Φ x1 x2 x3 (1 : Int32) t7)))))))))
set_option maxHeartbeats 4000000 in
set_option maxRecDepth 100000 in
theorem cmX9_dead {D : va_G} {cyI cyO : ClassId} {ad : Nat → Nat} {n : Nat} {l : Launch} (hn : 60 ≤ n) {x1 : Int32} {x2 : Int32} {x3 : Int32} {σ : St} {sz : Nat} {Φ : Int32 → St → Prop} (h : wpX9_dead x1 x2 x3 σ Φ) : gMet D (tyL cyI cyO) (cCell ad cyI cyO) ad n l yX9_dead cX9_dead 5 (some .int) rmX9_dead [.ref (ad 56), .int x1, .int x2, .int x3] σ sz (gQi D (cCell ad cyI cyO) ad n sz Φ) := by
  refine gMet.of (by decide) (Nat.le_of_ble_eq_true rfl) ?_
  intro p e s m below meth c ls hsz C hl wd
  subst hsz
  have C : Cx p s m _ meth c cX9_dead 5 (some .int) RX9 := C
  obtain ⟨hx, hb, hr, hml, hown, hts, hlk⟩ := id C
  have hl : lv_has ls 5 [(0, .ref (ad 56)), (1, .int x1), (2, .int x2), (3, .int x3)] := hl
  unfold wpX9_dead at h
  refine lv_aload_n hx hb dX9_dead_0 rfl (lv_at hl 0 rfl) ?_
  refine getF C wd (k := 56) (Cn := RX9) (T := TX9) (N := 4) (v := .ref (ad 0)) (by omega) cc_X9 rfl 0 (by decide) rfl inX9 tw2_42 dX9_dead_1 ?_
  refine lv_iload_n hx hb dX9_dead_4 rfl (lv_at hl 1 rfl) ?_
  refine gCi wd (gRunV (y := yX2_hasClerk) (k := 0) (As := [.int x1]) (rest := []) C wd (cmX2_hasClerk (by omega) h) ⟨rfl, rfl⟩ gd_X9_53 nk_X2_hasClerk ⟨Nat.le_of_ble_eq_true rfl, Nat.le_of_ble_eq_true rfl⟩ (by omega) cc_X2 rfl rfl hl.1 (Nat.le_of_ble_eq_true rfl) dX9_dead_5 rfl) (fun r2 t1 H locs h wd => ?_)
  try dsimp only at h
  refine lv_if_eq (tgt := 35) hx hb dX9_dead_8 (by decide) (fun c3 => ?_) (fun c3 => ?_)
  · have h := h.1 c3
    exact blX9_dead_35 hn C h wd (lv_sub hl [0, 1, 2, 3] rfl)
  · have h := h.2 c3
    refine lv_iload_n hx hb dX9_dead_11 rfl (lv_at hl 2 rfl) ?_
    refine lv_iconst (v := (0 : Int32)) hx hb dX9_dead_12 (by decide) ?_
    refine lv_bipush (v := (99 : Int32)) hx hb dX9_dead_13 (by decide) ?_
    refine gCi wd (gRunS (y := yX9_within) (As := [.int x2, .int (0 : Int32), .int (99 : Int32)]) (rest := []) C wd (cmX9_within h) ⟨rfl, rfl⟩ gd_X9_37 nk_X9_within ⟨Nat.le_of_ble_eq_true rfl, Nat.le_of_ble_eq_true rfl⟩ hl.1 (Nat.le_of_ble_eq_true rfl) dX9_dead_15 rfl) (fun r5 t4 H locs h wd => ?_)
    try dsimp only at h
    refine lv_if_eq (tgt := 35) hx hb dX9_dead_18 (by decide) (fun c6 => ?_) (fun c6 => ?_)
    · have h := h.1 c6
      exact blX9_dead_35 hn C h wd (lv_sub hl [0, 1, 2, 3] rfl)
    · have h := h.2 c6
      refine lv_iload_n hx hb dX9_dead_21 rfl (lv_at hl 3 rfl) ?_
      refine lv_iconst (v := (0 : Int32)) hx hb dX9_dead_22 (by decide) ?_
      refine lv_bipush (v := (99 : Int32)) hx hb dX9_dead_23 (by decide) ?_
      refine gCi wd (gRunS (y := yX9_within) (As := [.int x3, .int (0 : Int32), .int (99 : Int32)]) (rest := []) C wd (cmX9_within h) ⟨rfl, rfl⟩ gd_X9_37 nk_X9_within ⟨Nat.le_of_ble_eq_true rfl, Nat.le_of_ble_eq_true rfl⟩ hl.1 (Nat.le_of_ble_eq_true rfl) dX9_dead_25 rfl) (fun r8 t7 H locs h wd => ?_)
      try dsimp only at h
      refine lv_if_eq (tgt := 35) hx hb dX9_dead_28 (by decide) (fun c9 => ?_) (fun c9 => ?_)
      · have h := h.1 c9
        exact blX9_dead_35 hn C h wd (lv_sub hl [0, 1, 2, 3] rfl)
      · have h := h.2 c9
        refine lv_iconst (v := (1 : Int32)) hx hb dX9_dead_31 (by decide) ?_
        refine lv_goto (tgt := 36) hx hb dX9_dead_32 (by decide) ?_
        exact blX9_dead_36 hn C h wd (lv_sub hl [0, 1, 2, 3] rfl)
abbrev rmX9_end : Room := rmOf 2 42
def wbX9_end_52 (Φ : Int32 → St → Prop) (z1 : Int32) (σ : St) : Prop :=
  wpX7_counted z1 σ (fun r2 t1 => Φ r2 t1)
set_option maxHeartbeats 4000000 in
set_option maxRecDepth 100000 in
theorem blX9_end_52 {p : Program} {l : Launch} {e : Env} {s : State} {m : MethodId} {args : Array Value} {below : List Frame} {meth : Method} {c : Code} (hn : 60 ≤ n) (C : Cx p s m args meth c cX9_end 4 (some .int) RX9) {Φ : Int32 → St → Prop} {z1 : Int32} {σ : St} {H : Heap} {locs : List Loc} {ls : Array Slot} (h : wbX9_end_52 Φ z1 σ) (wd : gWd D (tyL cyI cyO) (cCell ad cyI cyO) ad n s H locs σ) (hl : lv_has ls 4 []) : W p l e rmX9_end s m args below meth c H locs 0 0 (MQ below (gQi D (cCell ad cyI cyO) ad n s.heap.size Φ) args s 0 0 (gA ad n s.heap.size)) (F0 m 52 ls [.int z1, .ref (ad 59)]) := by
  obtain ⟨hx, hb, hr, hml, hown, hts, hlk⟩ := id C
  unfold wbX9_end_52 at h
  refine gCi wd (gRunV (y := yX7_counted) (k := 59) (As := [.int z1]) (rest := []) C wd (cmX7_counted (by omega) h) ⟨rfl, rfl⟩ gd_X9_41 nk_X7_counted ⟨Nat.le_of_ble_eq_true rfl, Nat.le_of_ble_eq_true rfl⟩ (by omega) cc_X7 rfl rfl hl.1 (Nat.le_of_ble_eq_true rfl) dX9_end_52 rfl) (fun r2 t1 H locs h wd => ?_)
  try dsimp only at h
  exact retI C wd h dX9_end_55
def wbX9_end_26 (Φ : Int32 → St → Prop) (x1 : Int32) (x2 : Int32) (z0 : Int32) (σ : St) : Prop :=
  ((z0 = 0 → wbX9_end_52 Φ (-2 : Int32) σ) ∧ (¬ z0 = 0 → wpX2_clerk x1 σ (fun r3 t2 => wpX0_endOf r3 x2 t2 (fun r5 t4 => wbX9_end_52 Φ r5 t4))))
set_option maxHeartbeats 4000000 in
set_option maxRecDepth 100000 in
theorem blX9_end_26 {p : Program} {l : Launch} {e : Env} {s : State} {m : MethodId} {args : Array Value} {below : List Frame} {meth : Method} {c : Code} (hn : 60 ≤ n) (C : Cx p s m args meth c cX9_end 4 (some .int) RX9) {Φ : Int32 → St → Prop} {x1 : Int32} {x2 : Int32} {z0 : Int32} {σ : St} {H : Heap} {locs : List Loc} {ls : Array Slot} (h : wbX9_end_26 Φ x1 x2 z0 σ) (wd : gWd D (tyL cyI cyO) (cCell ad cyI cyO) ad n s H locs σ) (hl : lv_has ls 4 [(0, .ref (ad 56)), (1, .int x1), (2, .int x2)]) : W p l e rmX9_end s m args below meth c H locs 0 0 (MQ below (gQi D (cCell ad cyI cyO) ad n s.heap.size Φ) args s 0 0 (gA ad n s.heap.size)) (F0 m 26 ls [.int z0]) := by
  obtain ⟨hx, hb, hr, hml, hown, hts, hlk⟩ := id C
  unfold wbX9_end_26 at h
  refine lv_istore_n (lv' := [(3, .int z0), (0, .ref (ad 56)), (1, .int x1), (2, .int x2)]) hx hb dX9_end_26 rfl hl (by decide) rfl (fun ls hl => ?_)
  refine lv_aload_n hx hb dX9_end_27 rfl (lv_at hl 1 rfl) ?_
  refine getF C wd (k := 56) (Cn := RX9) (T := TX9) (N := 4) (v := .ref (ad 59)) (by omega) cc_X9 rfl 3 (by decide) rfl inX9 tw2_45 dX9_end_28 ?_
  refine lv_iload_n hx hb dX9_end_31 rfl (lv_at hl 0 rfl) ?_
  refine lv_if_eq (tgt := 50) hx hb dX9_end_32 (by decide) (fun c1 => ?_) (fun c1 => ?_)
  · have h := h.1 c1
    refine lv_bipush (v := (-2 : Int32)) hx hb dX9_end_50 (by decide) ?_
    exact blX9_end_52 hn C h wd (lv_sub hl [] rfl)
  · have h := h.2 c1
    refine lv_aload_n hx hb dX9_end_35 rfl (lv_at hl 1 rfl) ?_
    refine getF C wd (k := 56) (Cn := RX9) (T := TX9) (N := 4) (v := .ref (ad 0)) (by omega) cc_X9 rfl 0 (by decide) rfl inX9 tw2_42 dX9_end_36 ?_
    refine lv_iload_n hx hb dX9_end_39 rfl (lv_at hl 2 rfl) ?_
    refine gCr wd (gRunV (y := yX2_clerk) (k := 0) (As := [.int x1]) (rest := [.ref (ad 59)]) C wd (cmX2_clerk (by omega) h) ⟨rfl, rfl⟩ gd_X9_94 nk_X2_clerk ⟨Nat.le_of_ble_eq_true rfl, Nat.le_of_ble_eq_true rfl⟩ (by omega) cc_X2 rfl rfl hl.1 (Nat.le_of_ble_eq_true rfl) dX9_end_40 rfl) (fun r3 t2 H locs hr3a hr3b h wd => ?_)
    try dsimp only at h
    refine lv_iload_n hx hb dX9_end_43 rfl (lv_at hl 3 rfl) ?_
    refine gCi wd (gRunV (y := yX0_endOf) (k := r3) (As := [.int x2]) (rest := [.ref (ad 59)]) C wd (cmX0_endOf (by omega) (by omega) (by omega) h) ⟨rfl, rfl⟩ gd_X9_104 nk_X0_endOf ⟨Nat.le_of_ble_eq_true rfl, Nat.le_of_ble_eq_true rfl⟩ (by omega) (cc_X0 (k := r3) (by omega) (by omega)) rfl rfl hl.1 (Nat.le_of_ble_eq_true rfl) dX9_end_44 rfl) (fun r5 t4 H locs h wd => ?_)
    try dsimp only at h
    refine lv_goto (tgt := 52) hx hb dX9_end_47 (by decide) ?_
    exact blX9_end_52 hn C h wd (lv_sub hl [] rfl)
def wbX9_end_25 (Φ : Int32 → St → Prop) (x1 : Int32) (x2 : Int32) (σ : St) : Prop :=
  wbX9_end_26 Φ x1 x2 (0 : Int32) σ
set_option maxHeartbeats 4000000 in
set_option maxRecDepth 100000 in
theorem blX9_end_25 {p : Program} {l : Launch} {e : Env} {s : State} {m : MethodId} {args : Array Value} {below : List Frame} {meth : Method} {c : Code} (hn : 60 ≤ n) (C : Cx p s m args meth c cX9_end 4 (some .int) RX9) {Φ : Int32 → St → Prop} {x1 : Int32} {x2 : Int32} {σ : St} {H : Heap} {locs : List Loc} {ls : Array Slot} (h : wbX9_end_25 Φ x1 x2 σ) (wd : gWd D (tyL cyI cyO) (cCell ad cyI cyO) ad n s H locs σ) (hl : lv_has ls 4 [(0, .ref (ad 56)), (1, .int x1), (2, .int x2)]) : W p l e rmX9_end s m args below meth c H locs 0 0 (MQ below (gQi D (cCell ad cyI cyO) ad n s.heap.size Φ) args s 0 0 (gA ad n s.heap.size)) (F0 m 25 ls []) := by
  obtain ⟨hx, hb, hr, hml, hown, hts, hlk⟩ := id C
  unfold wbX9_end_25 at h
  refine lv_iconst (v := (0 : Int32)) hx hb dX9_end_25 (by decide) ?_
  exact blX9_end_26 hn C h wd (lv_sub hl [0, 1, 2] rfl)
def wpX9_end (x1 : Int32) (x2 : Int32) (σ : St) (Φ : Int32 → St → Prop) : Prop :=
  wpX2_hasClerk x1 σ (fun r2 t1 => ((r2 = 0 → wbX9_end_25 Φ x1 x2 t1) ∧ (¬ r2 = 0 → wpX9_within x2 (0 : Int32) (99 : Int32) t1 (fun r5 t4 => ((r5 = 0 → wbX9_end_25 Φ x1 x2 t4) ∧ (¬ r5 = 0 → wbX9_end_26 Φ x1 x2 (1 : Int32) t4))))))
set_option maxHeartbeats 4000000 in
set_option maxRecDepth 100000 in
theorem cmX9_end {D : va_G} {cyI cyO : ClassId} {ad : Nat → Nat} {n : Nat} {l : Launch} (hn : 60 ≤ n) {x1 : Int32} {x2 : Int32} {σ : St} {sz : Nat} {Φ : Int32 → St → Prop} (h : wpX9_end x1 x2 σ Φ) : gMet D (tyL cyI cyO) (cCell ad cyI cyO) ad n l yX9_end cX9_end 4 (some .int) rmX9_end [.ref (ad 56), .int x1, .int x2] σ sz (gQi D (cCell ad cyI cyO) ad n sz Φ) := by
  refine gMet.of (by decide) (Nat.le_of_ble_eq_true rfl) ?_
  intro p e s m below meth c ls hsz C hl wd
  subst hsz
  have C : Cx p s m _ meth c cX9_end 4 (some .int) RX9 := C
  obtain ⟨hx, hb, hr, hml, hown, hts, hlk⟩ := id C
  have hl : lv_has ls 4 [(0, .ref (ad 56)), (1, .int x1), (2, .int x2)] := hl
  unfold wpX9_end at h
  refine lv_aload_n hx hb dX9_end_0 rfl (lv_at hl 0 rfl) ?_
  refine getF C wd (k := 56) (Cn := RX9) (T := TX9) (N := 4) (v := .ref (ad 0)) (by omega) cc_X9 rfl 0 (by decide) rfl inX9 tw2_42 dX9_end_1 ?_
  refine lv_iload_n hx hb dX9_end_4 rfl (lv_at hl 1 rfl) ?_
  refine gCi wd (gRunV (y := yX2_hasClerk) (k := 0) (As := [.int x1]) (rest := []) C wd (cmX2_hasClerk (by omega) h) ⟨rfl, rfl⟩ gd_X9_53 nk_X2_hasClerk ⟨Nat.le_of_ble_eq_true rfl, Nat.le_of_ble_eq_true rfl⟩ (by omega) cc_X2 rfl rfl hl.1 (Nat.le_of_ble_eq_true rfl) dX9_end_5 rfl) (fun r2 t1 H locs h wd => ?_)
  try dsimp only at h
  refine lv_if_eq (tgt := 25) hx hb dX9_end_8 (by decide) (fun c3 => ?_) (fun c3 => ?_)
  · have h := h.1 c3
    exact blX9_end_25 hn C h wd (lv_sub hl [0, 1, 2] rfl)
  · have h := h.2 c3
    refine lv_iload_n hx hb dX9_end_11 rfl (lv_at hl 2 rfl) ?_
    refine lv_iconst (v := (0 : Int32)) hx hb dX9_end_12 (by decide) ?_
    refine lv_bipush (v := (99 : Int32)) hx hb dX9_end_13 (by decide) ?_
    refine gCi wd (gRunS (y := yX9_within) (As := [.int x2, .int (0 : Int32), .int (99 : Int32)]) (rest := []) C wd (cmX9_within h) ⟨rfl, rfl⟩ gd_X9_37 nk_X9_within ⟨Nat.le_of_ble_eq_true rfl, Nat.le_of_ble_eq_true rfl⟩ hl.1 (Nat.le_of_ble_eq_true rfl) dX9_end_15 rfl) (fun r5 t4 H locs h wd => ?_)
    try dsimp only at h
    refine lv_if_eq (tgt := 25) hx hb dX9_end_18 (by decide) (fun c6 => ?_) (fun c6 => ?_)
    · have h := h.1 c6
      exact blX9_end_25 hn C h wd (lv_sub hl [0, 1, 2] rfl)
    · have h := h.2 c6
      refine lv_iconst (v := (1 : Int32)) hx hb dX9_end_21 (by decide) ?_
      refine lv_goto (tgt := 26) hx hb dX9_end_22 (by decide) ?_
      exact blX9_end_26 hn C h wd (lv_sub hl [0, 1, 2] rfl)
abbrev rmX9_letter : Room := rmOf 4 91
def wbX9_letter_55 (Φ : Int32 → St → Prop) (z1 : Int32) (σ : St) : Prop :=
  wpX7_counted z1 σ (fun r2 t1 => Φ r2 t1)
set_option maxHeartbeats 4000000 in
set_option maxRecDepth 100000 in
theorem blX9_letter_55 {p : Program} {l : Launch} {e : Env} {s : State} {m : MethodId} {args : Array Value} {below : List Frame} {meth : Method} {c : Code} (hn : 60 ≤ n) (C : Cx p s m args meth c cX9_letter 5 (some .int) RX9) {Φ : Int32 → St → Prop} {z1 : Int32} {σ : St} {H : Heap} {locs : List Loc} {ls : Array Slot} (h : wbX9_letter_55 Φ z1 σ) (wd : gWd D (tyL cyI cyO) (cCell ad cyI cyO) ad n s H locs σ) (hl : lv_has ls 5 []) : W p l e rmX9_letter s m args below meth c H locs 0 0 (MQ below (gQi D (cCell ad cyI cyO) ad n s.heap.size Φ) args s 0 0 (gA ad n s.heap.size)) (F0 m 55 ls [.int z1, .ref (ad 59)]) := by
  obtain ⟨hx, hb, hr, hml, hown, hts, hlk⟩ := id C
  unfold wbX9_letter_55 at h
  refine gCi wd (gRunV (y := yX7_counted) (k := 59) (As := [.int z1]) (rest := []) C wd (cmX7_counted (by omega) h) ⟨rfl, rfl⟩ gd_X9_41 nk_X7_counted ⟨Nat.le_of_ble_eq_true rfl, Nat.le_of_ble_eq_true rfl⟩ (by omega) cc_X7 rfl rfl hl.1 (Nat.le_of_ble_eq_true rfl) dX9_letter_55 rfl) (fun r2 t1 H locs h wd => ?_)
  try dsimp only at h
  exact retI C wd h dX9_letter_58
def wbX9_letter_29 (Φ : Int32 → St → Prop) (x1 : Int32) (x2 : Int32) (x3 : Int32) (z0 : Int32) (σ : St) : Prop :=
  ((z0 = 0 → wbX9_letter_55 Φ (-2 : Int32) σ) ∧ (¬ z0 = 0 → wpX2_tellLetter x1 x2 x3 σ (fun r3 t2 => wbX9_letter_55 Φ r3 t2)))
set_option maxHeartbeats 4000000 in
set_option maxRecDepth 100000 in
theorem blX9_letter_29 {p : Program} {l : Launch} {e : Env} {s : State} {m : MethodId} {args : Array Value} {below : List Frame} {meth : Method} {c : Code} (hn : 60 ≤ n) (C : Cx p s m args meth c cX9_letter 5 (some .int) RX9) {Φ : Int32 → St → Prop} {x1 : Int32} {x2 : Int32} {x3 : Int32} {z0 : Int32} {σ : St} {H : Heap} {locs : List Loc} {ls : Array Slot} (h : wbX9_letter_29 Φ x1 x2 x3 z0 σ) (wd : gWd D (tyL cyI cyO) (cCell ad cyI cyO) ad n s H locs σ) (hl : lv_has ls 5 [(0, .ref (ad 56)), (1, .int x1), (2, .int x2), (3, .int x3)]) : W p l e rmX9_letter s m args below meth c H locs 0 0 (MQ below (gQi D (cCell ad cyI cyO) ad n s.heap.size Φ) args s 0 0 (gA ad n s.heap.size)) (F0 m 29 ls [.int z0]) := by
  obtain ⟨hx, hb, hr, hml, hown, hts, hlk⟩ := id C
  unfold wbX9_letter_29 at h
  refine lv_istore (lv' := [(4, .int z0), (0, .ref (ad 56)), (1, .int x1), (2, .int x2), (3, .int x3)]) hx hb dX9_letter_29 hl (by decide) rfl (fun ls hl => ?_)
  refine lv_aload_n hx hb dX9_letter_31 rfl (lv_at hl 1 rfl) ?_
  refine getF C wd (k := 56) (Cn := RX9) (T := TX9) (N := 4) (v := .ref (ad 59)) (by omega) cc_X9 rfl 3 (by decide) rfl inX9 tw2_45 dX9_letter_32 ?_
  refine lv_iload hx hb dX9_letter_35 (lv_at hl 0 rfl) ?_
  refine lv_if_eq (tgt := 53) hx hb dX9_letter_37 (by decide) (fun c1 => ?_) (fun c1 => ?_)
  · have h := h.1 c1
    refine lv_bipush (v := (-2 : Int32)) hx hb dX9_letter_53 (by decide) ?_
    exact blX9_letter_55 hn C h wd (lv_sub hl [] rfl)
  · have h := h.2 c1
    refine lv_aload_n hx hb dX9_letter_40 rfl (lv_at hl 1 rfl) ?_
    refine getF C wd (k := 56) (Cn := RX9) (T := TX9) (N := 4) (v := .ref (ad 0)) (by omega) cc_X9 rfl 0 (by decide) rfl inX9 tw2_42 dX9_letter_41 ?_
    refine lv_iload_n hx hb dX9_letter_44 rfl (lv_at hl 2 rfl) ?_
    refine lv_iload_n hx hb dX9_letter_45 rfl (lv_at hl 3 rfl) ?_
    refine lv_iload_n hx hb dX9_letter_46 rfl (lv_at hl 4 rfl) ?_
    refine gCi wd (gRunV (y := yX2_tellLetter) (k := 0) (As := [.int x1, .int x2, .int x3]) (rest := [.ref (ad 59)]) C wd (cmX2_tellLetter (by omega) h) ⟨rfl, rfl⟩ gd_X9_107 nk_X2_tellLetter ⟨Nat.le_of_ble_eq_true rfl, Nat.le_of_ble_eq_true rfl⟩ (by omega) cc_X2 rfl rfl hl.1 (Nat.le_of_ble_eq_true rfl) dX9_letter_47 rfl) (fun r3 t2 H locs h wd => ?_)
    try dsimp only at h
    refine lv_goto (tgt := 55) hx hb dX9_letter_50 (by decide) ?_
    exact blX9_letter_55 hn C h wd (lv_sub hl [] rfl)
def wbX9_letter_28 (Φ : Int32 → St → Prop) (x1 : Int32) (x2 : Int32) (x3 : Int32) (σ : St) : Prop :=
  wbX9_letter_29 Φ x1 x2 x3 (0 : Int32) σ
set_option maxHeartbeats 4000000 in
set_option maxRecDepth 100000 in
theorem blX9_letter_28 {p : Program} {l : Launch} {e : Env} {s : State} {m : MethodId} {args : Array Value} {below : List Frame} {meth : Method} {c : Code} (hn : 60 ≤ n) (C : Cx p s m args meth c cX9_letter 5 (some .int) RX9) {Φ : Int32 → St → Prop} {x1 : Int32} {x2 : Int32} {x3 : Int32} {σ : St} {H : Heap} {locs : List Loc} {ls : Array Slot} (h : wbX9_letter_28 Φ x1 x2 x3 σ) (wd : gWd D (tyL cyI cyO) (cCell ad cyI cyO) ad n s H locs σ) (hl : lv_has ls 5 [(0, .ref (ad 56)), (1, .int x1), (2, .int x2), (3, .int x3)]) : W p l e rmX9_letter s m args below meth c H locs 0 0 (MQ below (gQi D (cCell ad cyI cyO) ad n s.heap.size Φ) args s 0 0 (gA ad n s.heap.size)) (F0 m 28 ls []) := by
  obtain ⟨hx, hb, hr, hml, hown, hts, hlk⟩ := id C
  unfold wbX9_letter_28 at h
  refine lv_iconst (v := (0 : Int32)) hx hb dX9_letter_28 (by decide) ?_
  exact blX9_letter_29 hn C h wd (lv_sub hl [0, 1, 2, 3] rfl)
def wpX9_letter (x1 : Int32) (x2 : Int32) (x3 : Int32) (σ : St) (Φ : Int32 → St → Prop) : Prop :=
  wpX2_hasClerk x1 σ (fun r2 t1 => ((r2 = 0 → wbX9_letter_28 Φ x1 x2 x3 t1) ∧ (¬ r2 = 0 → ((x2 < 0 → wbX9_letter_28 Φ x1 x2 x3 t1) ∧ (¬ x2 < 0 → wpX9_within x3 (0 : Int32) (3 : Int32) t1 (fun r6 t5 => ((r6 = 0 → wbX9_letter_28 Φ x1 x2 x3 t5) ∧ (¬ r6 = 0 → wbX9_letter_29 Φ x1 x2 x3 (1 : Int32) t5))))))))
set_option maxHeartbeats 4000000 in
set_option maxRecDepth 100000 in
theorem cmX9_letter {D : va_G} {cyI cyO : ClassId} {ad : Nat → Nat} {n : Nat} {l : Launch} (hn : 60 ≤ n) {x1 : Int32} {x2 : Int32} {x3 : Int32} {σ : St} {sz : Nat} {Φ : Int32 → St → Prop} (h : wpX9_letter x1 x2 x3 σ Φ) : gMet D (tyL cyI cyO) (cCell ad cyI cyO) ad n l yX9_letter cX9_letter 5 (some .int) rmX9_letter [.ref (ad 56), .int x1, .int x2, .int x3] σ sz (gQi D (cCell ad cyI cyO) ad n sz Φ) := by
  refine gMet.of (by decide) (Nat.le_of_ble_eq_true rfl) ?_
  intro p e s m below meth c ls hsz C hl wd
  subst hsz
  have C : Cx p s m _ meth c cX9_letter 5 (some .int) RX9 := C
  obtain ⟨hx, hb, hr, hml, hown, hts, hlk⟩ := id C
  have hl : lv_has ls 5 [(0, .ref (ad 56)), (1, .int x1), (2, .int x2), (3, .int x3)] := hl
  unfold wpX9_letter at h
  refine lv_aload_n hx hb dX9_letter_0 rfl (lv_at hl 0 rfl) ?_
  refine getF C wd (k := 56) (Cn := RX9) (T := TX9) (N := 4) (v := .ref (ad 0)) (by omega) cc_X9 rfl 0 (by decide) rfl inX9 tw2_42 dX9_letter_1 ?_
  refine lv_iload_n hx hb dX9_letter_4 rfl (lv_at hl 1 rfl) ?_
  refine gCi wd (gRunV (y := yX2_hasClerk) (k := 0) (As := [.int x1]) (rest := []) C wd (cmX2_hasClerk (by omega) h) ⟨rfl, rfl⟩ gd_X9_53 nk_X2_hasClerk ⟨Nat.le_of_ble_eq_true rfl, Nat.le_of_ble_eq_true rfl⟩ (by omega) cc_X2 rfl rfl hl.1 (Nat.le_of_ble_eq_true rfl) dX9_letter_5 rfl) (fun r2 t1 H locs h wd => ?_)
  try dsimp only at h
  refine lv_if_eq (tgt := 28) hx hb dX9_letter_8 (by decide) (fun c3 => ?_) (fun c3 => ?_)
  · have h := h.1 c3
    exact blX9_letter_28 hn C h wd (lv_sub hl [0, 1, 2, 3] rfl)
  · have h := h.2 c3
    refine lv_iload_n hx hb dX9_letter_11 rfl (lv_at hl 2 rfl) ?_
    refine lv_if_lt (tgt := 28) hx hb dX9_letter_12 (by decide) (fun c4 => ?_) (fun c4 => ?_)
    · have h := h.1 c4
      exact blX9_letter_28 hn C h wd (lv_sub hl [0, 1, 2, 3] rfl)
    · have h := h.2 c4
      refine lv_iload_n hx hb dX9_letter_15 rfl (lv_at hl 3 rfl) ?_
      refine lv_iconst (v := (0 : Int32)) hx hb dX9_letter_16 (by decide) ?_
      refine lv_iconst (v := (3 : Int32)) hx hb dX9_letter_17 (by decide) ?_
      refine gCi wd (gRunS (y := yX9_within) (As := [.int x3, .int (0 : Int32), .int (3 : Int32)]) (rest := []) C wd (cmX9_within h) ⟨rfl, rfl⟩ gd_X9_37 nk_X9_within ⟨Nat.le_of_ble_eq_true rfl, Nat.le_of_ble_eq_true rfl⟩ hl.1 (Nat.le_of_ble_eq_true rfl) dX9_letter_18 rfl) (fun r6 t5 H locs h wd => ?_)
      try dsimp only at h
      refine lv_if_eq (tgt := 28) hx hb dX9_letter_21 (by decide) (fun c7 => ?_) (fun c7 => ?_)
      · have h := h.1 c7
        exact blX9_letter_28 hn C h wd (lv_sub hl [0, 1, 2, 3] rfl)
      · have h := h.2 c7
        refine lv_iconst (v := (1 : Int32)) hx hb dX9_letter_24 (by decide) ?_
        refine lv_goto (tgt := 29) hx hb dX9_letter_25 (by decide) ?_
        exact blX9_letter_29 hn C h wd (lv_sub hl [0, 1, 2, 3] rfl)
abbrev rmX9_sweeps : Room := rmOf 5 114
def wpX9_sweeps (σ : St) (Φ : Int32 → St → Prop) : Prop :=
  wpX2_sweepLetters σ (fun r2 t1 => Φ r2 t1)
set_option maxHeartbeats 4000000 in
set_option maxRecDepth 100000 in
theorem cmX9_sweeps {D : va_G} {cyI cyO : ClassId} {ad : Nat → Nat} {n : Nat} {l : Launch} (hn : 60 ≤ n) {σ : St} {sz : Nat} {Φ : Int32 → St → Prop} (h : wpX9_sweeps σ Φ) : gMet D (tyL cyI cyO) (cCell ad cyI cyO) ad n l yX9_sweeps cX9_sweeps 1 (some .int) rmX9_sweeps [.ref (ad 56)] σ sz (gQi D (cCell ad cyI cyO) ad n sz Φ) := by
  refine gMet.of (by decide) (Nat.le_of_ble_eq_true rfl) ?_
  intro p e s m below meth c ls hsz C hl wd
  subst hsz
  have C : Cx p s m _ meth c cX9_sweeps 1 (some .int) RX9 := C
  obtain ⟨hx, hb, hr, hml, hown, hts, hlk⟩ := id C
  have hl : lv_has ls 1 [(0, .ref (ad 56))] := hl
  unfold wpX9_sweeps at h
  refine lv_aload_n hx hb dX9_sweeps_0 rfl (lv_at hl 0 rfl) ?_
  refine getF C wd (k := 56) (Cn := RX9) (T := TX9) (N := 4) (v := .ref (ad 0)) (by omega) cc_X9 rfl 0 (by decide) rfl inX9 tw2_42 dX9_sweeps_1 ?_
  refine gCi wd (gRunV (y := yX2_sweepLetters) (k := 0) (As := []) (rest := []) C wd (cmX2_sweepLetters (by omega) h) ⟨rfl, rfl⟩ gd_X9_111 nk_X2_sweepLetters ⟨Nat.le_of_ble_eq_true rfl, Nat.le_of_ble_eq_true rfl⟩ (by omega) cc_X2 rfl rfl hl.1 (Nat.le_of_ble_eq_true rfl) dX9_sweeps_4 rfl) (fun r2 t1 H locs h wd => ?_)
  try dsimp only at h
  exact retI C wd h dX9_sweeps_7
abbrev rmX9_says : Room := rmOf 4 85
def wbX9_says_28 (Φ : Int32 → St → Prop) (z1 : Int32) (σ : St) : Prop :=
  wpX7_counted z1 σ (fun r2 t1 => Φ r2 t1)
set_option maxHeartbeats 4000000 in
set_option maxRecDepth 100000 in
theorem blX9_says_28 {p : Program} {l : Launch} {e : Env} {s : State} {m : MethodId} {args : Array Value} {below : List Frame} {meth : Method} {c : Code} (hn : 60 ≤ n) (C : Cx p s m args meth c cX9_says 2 (some .int) RX9) {Φ : Int32 → St → Prop} {z1 : Int32} {σ : St} {H : Heap} {locs : List Loc} {ls : Array Slot} (h : wbX9_says_28 Φ z1 σ) (wd : gWd D (tyL cyI cyO) (cCell ad cyI cyO) ad n s H locs σ) (hl : lv_has ls 2 []) : W p l e rmX9_says s m args below meth c H locs 0 0 (MQ below (gQi D (cCell ad cyI cyO) ad n s.heap.size Φ) args s 0 0 (gA ad n s.heap.size)) (F0 m 28 ls [.int z1, .ref (ad 59)]) := by
  obtain ⟨hx, hb, hr, hml, hown, hts, hlk⟩ := id C
  unfold wbX9_says_28 at h
  refine gCi wd (gRunV (y := yX7_counted) (k := 59) (As := [.int z1]) (rest := []) C wd (cmX7_counted (by omega) h) ⟨rfl, rfl⟩ gd_X9_41 nk_X7_counted ⟨Nat.le_of_ble_eq_true rfl, Nat.le_of_ble_eq_true rfl⟩ (by omega) cc_X7 rfl rfl hl.1 (Nat.le_of_ble_eq_true rfl) dX9_says_28 rfl) (fun r2 t1 H locs h wd => ?_)
  try dsimp only at h
  exact retI C wd h dX9_says_31
def wpX9_says (x1 : Int32) (σ : St) (Φ : Int32 → St → Prop) : Prop :=
  wpX2_hasClerk x1 σ (fun r2 t1 => ((r2 = 0 → wbX9_says_28 Φ (-2 : Int32) t1) ∧ (¬ r2 = 0 → wpX2_addSaying x1 t1 (fun r5 t4 => wbX9_says_28 Φ r5 t4))))
set_option maxHeartbeats 4000000 in
set_option maxRecDepth 100000 in
theorem cmX9_says {D : va_G} {cyI cyO : ClassId} {ad : Nat → Nat} {n : Nat} {l : Launch} (hn : 60 ≤ n) {x1 : Int32} {σ : St} {sz : Nat} {Φ : Int32 → St → Prop} (h : wpX9_says x1 σ Φ) : gMet D (tyL cyI cyO) (cCell ad cyI cyO) ad n l yX9_says cX9_says 2 (some .int) rmX9_says [.ref (ad 56), .int x1] σ sz (gQi D (cCell ad cyI cyO) ad n sz Φ) := by
  refine gMet.of (by decide) (Nat.le_of_ble_eq_true rfl) ?_
  intro p e s m below meth c ls hsz C hl wd
  subst hsz
  have C : Cx p s m _ meth c cX9_says 2 (some .int) RX9 := C
  obtain ⟨hx, hb, hr, hml, hown, hts, hlk⟩ := id C
  have hl : lv_has ls 2 [(0, .ref (ad 56)), (1, .int x1)] := hl
  unfold wpX9_says at h
  refine lv_aload_n hx hb dX9_says_0 rfl (lv_at hl 0 rfl) ?_
  refine getF C wd (k := 56) (Cn := RX9) (T := TX9) (N := 4) (v := .ref (ad 59)) (by omega) cc_X9 rfl 3 (by decide) rfl inX9 tw2_45 dX9_says_1 ?_
  refine lv_aload_n hx hb dX9_says_4 rfl (lv_at hl 0 rfl) ?_
  refine getF C wd (k := 56) (Cn := RX9) (T := TX9) (N := 4) (v := .ref (ad 0)) (by omega) cc_X9 rfl 0 (by decide) rfl inX9 tw2_42 dX9_says_5 ?_
  refine lv_iload_n hx hb dX9_says_8 rfl (lv_at hl 1 rfl) ?_
  refine gCi wd (gRunV (y := yX2_hasClerk) (k := 0) (As := [.int x1]) (rest := [.ref (ad 59)]) C wd (cmX2_hasClerk (by omega) h) ⟨rfl, rfl⟩ gd_X9_53 nk_X2_hasClerk ⟨Nat.le_of_ble_eq_true rfl, Nat.le_of_ble_eq_true rfl⟩ (by omega) cc_X2 rfl rfl hl.1 (Nat.le_of_ble_eq_true rfl) dX9_says_9 rfl) (fun r2 t1 H locs h wd => ?_)
  try dsimp only at h
  refine lv_if_eq (tgt := 26) hx hb dX9_says_12 (by decide) (fun c3 => ?_) (fun c3 => ?_)
  · have h := h.1 c3
    refine lv_bipush (v := (-2 : Int32)) hx hb dX9_says_26 (by decide) ?_
    exact blX9_says_28 hn C h wd (lv_sub hl [] rfl)
  · have h := h.2 c3
    refine lv_aload_n hx hb dX9_says_15 rfl (lv_at hl 0 rfl) ?_
    refine getF C wd (k := 56) (Cn := RX9) (T := TX9) (N := 4) (v := .ref (ad 0)) (by omega) cc_X9 rfl 0 (by decide) rfl inX9 tw2_42 dX9_says_16 ?_
    refine lv_iload_n hx hb dX9_says_19 rfl (lv_at hl 1 rfl) ?_
    refine gCi wd (gRunV (y := yX2_addSaying) (k := 0) (As := [.int x1]) (rest := [.ref (ad 59)]) C wd (cmX2_addSaying (by omega) h) ⟨rfl, rfl⟩ gd_X9_115 nk_X2_addSaying ⟨Nat.le_of_ble_eq_true rfl, Nat.le_of_ble_eq_true rfl⟩ (by omega) cc_X2 rfl rfl hl.1 (Nat.le_of_ble_eq_true rfl) dX9_says_20 rfl) (fun r5 t4 H locs h wd => ?_)
    try dsimp only at h
    refine lv_goto (tgt := 28) hx hb dX9_says_23 (by decide) ?_
    exact blX9_says_28 hn C h wd (lv_sub hl [] rfl)
abbrev rmX9_release : Room := rmOf 6 132
def wpX9_release (σ : St) (Φ : Int32 → St → Prop) : Prop :=
  wpX2_releaseSafe σ (fun r2 t1 => Φ r2 t1)
set_option maxHeartbeats 4000000 in
set_option maxRecDepth 100000 in
theorem cmX9_release {D : va_G} {cyI cyO : ClassId} {ad : Nat → Nat} {n : Nat} {l : Launch} (hn : 60 ≤ n) {σ : St} {sz : Nat} {Φ : Int32 → St → Prop} (h : wpX9_release σ Φ) : gMet D (tyL cyI cyO) (cCell ad cyI cyO) ad n l yX9_release cX9_release 1 (some .int) rmX9_release [.ref (ad 56)] σ sz (gQi D (cCell ad cyI cyO) ad n sz Φ) := by
  refine gMet.of (by decide) (Nat.le_of_ble_eq_true rfl) ?_
  intro p e s m below meth c ls hsz C hl wd
  subst hsz
  have C : Cx p s m _ meth c cX9_release 1 (some .int) RX9 := C
  obtain ⟨hx, hb, hr, hml, hown, hts, hlk⟩ := id C
  have hl : lv_has ls 1 [(0, .ref (ad 56))] := hl
  unfold wpX9_release at h
  refine lv_aload_n hx hb dX9_release_0 rfl (lv_at hl 0 rfl) ?_
  refine getF C wd (k := 56) (Cn := RX9) (T := TX9) (N := 4) (v := .ref (ad 0)) (by omega) cc_X9 rfl 0 (by decide) rfl inX9 tw2_42 dX9_release_1 ?_
  refine gCi wd (gRunV (y := yX2_releaseSafe) (k := 0) (As := []) (rest := []) C wd (cmX2_releaseSafe (by omega) h) ⟨rfl, rfl⟩ gd_X9_118 nk_X2_releaseSafe ⟨Nat.le_of_ble_eq_true rfl, Nat.le_of_ble_eq_true rfl⟩ (by omega) cc_X2 rfl rfl hl.1 (Nat.le_of_ble_eq_true rfl) dX9_release_4 rfl) (fun r2 t1 H locs h wd => ?_)
  try dsimp only at h
  exact retI C wd h dX9_release_7
abbrev rmX9_saying : Room := rmOf 5 109
def wbX9_saying_41 (Φ : Int32 → St → Prop) (z1 : Int32) (σ : St) : Prop :=
  wpX7_counted z1 σ (fun r2 t1 => Φ r2 t1)
set_option maxHeartbeats 4000000 in
set_option maxRecDepth 100000 in
theorem blX9_saying_41 {p : Program} {l : Launch} {e : Env} {s : State} {m : MethodId} {args : Array Value} {below : List Frame} {meth : Method} {c : Code} (hn : 60 ≤ n) (C : Cx p s m args meth c cX9_saying 4 (some .int) RX9) {Φ : Int32 → St → Prop} {z1 : Int32} {σ : St} {H : Heap} {locs : List Loc} {ls : Array Slot} (h : wbX9_saying_41 Φ z1 σ) (wd : gWd D (tyL cyI cyO) (cCell ad cyI cyO) ad n s H locs σ) (hl : lv_has ls 4 []) : W p l e rmX9_saying s m args below meth c H locs 0 0 (MQ below (gQi D (cCell ad cyI cyO) ad n s.heap.size Φ) args s 0 0 (gA ad n s.heap.size)) (F0 m 41 ls [.int z1, .ref (ad 59)]) := by
  obtain ⟨hx, hb, hr, hml, hown, hts, hlk⟩ := id C
  unfold wbX9_saying_41 at h
  refine gCi wd (gRunV (y := yX7_counted) (k := 59) (As := [.int z1]) (rest := []) C wd (cmX7_counted (by omega) h) ⟨rfl, rfl⟩ gd_X9_41 nk_X7_counted ⟨Nat.le_of_ble_eq_true rfl, Nat.le_of_ble_eq_true rfl⟩ (by omega) cc_X7 rfl rfl hl.1 (Nat.le_of_ble_eq_true rfl) dX9_saying_41 rfl) (fun r2 t1 H locs h wd => ?_)
  try dsimp only at h
  exact retI C wd h dX9_saying_44
def wbX9_saying_18 (Φ : Int32 → St → Prop) (x1 : Int32) (x2 : Int32) (z0 : Int32) (σ : St) : Prop :=
  ((z0 = 0 → wbX9_saying_41 Φ (-2 : Int32) σ) ∧ (¬ z0 = 0 → wpX2_tellSaying x1 x2 σ (fun r3 t2 => wbX9_saying_41 Φ r3 t2)))
set_option maxHeartbeats 4000000 in
set_option maxRecDepth 100000 in
theorem blX9_saying_18 {p : Program} {l : Launch} {e : Env} {s : State} {m : MethodId} {args : Array Value} {below : List Frame} {meth : Method} {c : Code} (hn : 60 ≤ n) (C : Cx p s m args meth c cX9_saying 4 (some .int) RX9) {Φ : Int32 → St → Prop} {x1 : Int32} {x2 : Int32} {z0 : Int32} {σ : St} {H : Heap} {locs : List Loc} {ls : Array Slot} (h : wbX9_saying_18 Φ x1 x2 z0 σ) (wd : gWd D (tyL cyI cyO) (cCell ad cyI cyO) ad n s H locs σ) (hl : lv_has ls 4 [(0, .ref (ad 56)), (1, .int x1), (2, .int x2)]) : W p l e rmX9_saying s m args below meth c H locs 0 0 (MQ below (gQi D (cCell ad cyI cyO) ad n s.heap.size Φ) args s 0 0 (gA ad n s.heap.size)) (F0 m 18 ls [.int z0]) := by
  obtain ⟨hx, hb, hr, hml, hown, hts, hlk⟩ := id C
  unfold wbX9_saying_18 at h
  refine lv_istore_n (lv' := [(3, .int z0), (0, .ref (ad 56)), (1, .int x1), (2, .int x2)]) hx hb dX9_saying_18 rfl hl (by decide) rfl (fun ls hl => ?_)
  refine lv_aload_n hx hb dX9_saying_19 rfl (lv_at hl 1 rfl) ?_
  refine getF C wd (k := 56) (Cn := RX9) (T := TX9) (N := 4) (v := .ref (ad 59)) (by omega) cc_X9 rfl 3 (by decide) rfl inX9 tw2_45 dX9_saying_20 ?_
  refine lv_iload_n hx hb dX9_saying_23 rfl (lv_at hl 0 rfl) ?_
  refine lv_if_eq (tgt := 39) hx hb dX9_saying_24 (by decide) (fun c1 => ?_) (fun c1 => ?_)
  · have h := h.1 c1
    refine lv_bipush (v := (-2 : Int32)) hx hb dX9_saying_39 (by decide) ?_
    exact blX9_saying_41 hn C h wd (lv_sub hl [] rfl)
  · have h := h.2 c1
    refine lv_aload_n hx hb dX9_saying_27 rfl (lv_at hl 1 rfl) ?_
    refine getF C wd (k := 56) (Cn := RX9) (T := TX9) (N := 4) (v := .ref (ad 0)) (by omega) cc_X9 rfl 0 (by decide) rfl inX9 tw2_42 dX9_saying_28 ?_
    refine lv_iload_n hx hb dX9_saying_31 rfl (lv_at hl 2 rfl) ?_
    refine lv_iload_n hx hb dX9_saying_32 rfl (lv_at hl 3 rfl) ?_
    refine gCi wd (gRunV (y := yX2_tellSaying) (k := 0) (As := [.int x1, .int x2]) (rest := [.ref (ad 59)]) C wd (cmX2_tellSaying (by omega) h) ⟨rfl, rfl⟩ gd_X9_121 nk_X2_tellSaying ⟨Nat.le_of_ble_eq_true rfl, Nat.le_of_ble_eq_true rfl⟩ (by omega) cc_X2 rfl rfl hl.1 (Nat.le_of_ble_eq_true rfl) dX9_saying_33 rfl) (fun r3 t2 H locs h wd => ?_)
    try dsimp only at h
    refine lv_goto (tgt := 41) hx hb dX9_saying_36 (by decide) ?_
    exact blX9_saying_41 hn C h wd (lv_sub hl [] rfl)
def wbX9_saying_17 (Φ : Int32 → St → Prop) (x1 : Int32) (x2 : Int32) (σ : St) : Prop :=
  wbX9_saying_18 Φ x1 x2 (0 : Int32) σ
set_option maxHeartbeats 4000000 in
set_option maxRecDepth 100000 in
theorem blX9_saying_17 {p : Program} {l : Launch} {e : Env} {s : State} {m : MethodId} {args : Array Value} {below : List Frame} {meth : Method} {c : Code} (hn : 60 ≤ n) (C : Cx p s m args meth c cX9_saying 4 (some .int) RX9) {Φ : Int32 → St → Prop} {x1 : Int32} {x2 : Int32} {σ : St} {H : Heap} {locs : List Loc} {ls : Array Slot} (h : wbX9_saying_17 Φ x1 x2 σ) (wd : gWd D (tyL cyI cyO) (cCell ad cyI cyO) ad n s H locs σ) (hl : lv_has ls 4 [(0, .ref (ad 56)), (1, .int x1), (2, .int x2)]) : W p l e rmX9_saying s m args below meth c H locs 0 0 (MQ below (gQi D (cCell ad cyI cyO) ad n s.heap.size Φ) args s 0 0 (gA ad n s.heap.size)) (F0 m 17 ls []) := by
  obtain ⟨hx, hb, hr, hml, hown, hts, hlk⟩ := id C
  unfold wbX9_saying_17 at h
  refine lv_iconst (v := (0 : Int32)) hx hb dX9_saying_17 (by decide) ?_
  exact blX9_saying_18 hn C h wd (lv_sub hl [0, 1, 2] rfl)
def wpX9_saying (x1 : Int32) (x2 : Int32) (σ : St) (Φ : Int32 → St → Prop) : Prop :=
  ((x1 < 0 → wbX9_saying_17 Φ x1 x2 σ) ∧ (¬ x1 < 0 → wpX9_within x2 (0 : Int32) (3 : Int32) σ (fun r3 t2 => ((r3 = 0 → wbX9_saying_17 Φ x1 x2 t2) ∧ (¬ r3 = 0 → wbX9_saying_18 Φ x1 x2 (1 : Int32) t2)))))
set_option maxHeartbeats 4000000 in
set_option maxRecDepth 100000 in
theorem cmX9_saying {D : va_G} {cyI cyO : ClassId} {ad : Nat → Nat} {n : Nat} {l : Launch} (hn : 60 ≤ n) {x1 : Int32} {x2 : Int32} {σ : St} {sz : Nat} {Φ : Int32 → St → Prop} (h : wpX9_saying x1 x2 σ Φ) : gMet D (tyL cyI cyO) (cCell ad cyI cyO) ad n l yX9_saying cX9_saying 4 (some .int) rmX9_saying [.ref (ad 56), .int x1, .int x2] σ sz (gQi D (cCell ad cyI cyO) ad n sz Φ) := by
  refine gMet.of (by decide) (Nat.le_of_ble_eq_true rfl) ?_
  intro p e s m below meth c ls hsz C hl wd
  subst hsz
  have C : Cx p s m _ meth c cX9_saying 4 (some .int) RX9 := C
  obtain ⟨hx, hb, hr, hml, hown, hts, hlk⟩ := id C
  have hl : lv_has ls 4 [(0, .ref (ad 56)), (1, .int x1), (2, .int x2)] := hl
  unfold wpX9_saying at h
  refine lv_iload_n hx hb dX9_saying_0 rfl (lv_at hl 1 rfl) ?_
  refine lv_if_lt (tgt := 17) hx hb dX9_saying_1 (by decide) (fun c1 => ?_) (fun c1 => ?_)
  · have h := h.1 c1
    exact blX9_saying_17 hn C h wd (lv_sub hl [0, 1, 2] rfl)
  · have h := h.2 c1
    refine lv_iload_n hx hb dX9_saying_4 rfl (lv_at hl 2 rfl) ?_
    refine lv_iconst (v := (0 : Int32)) hx hb dX9_saying_5 (by decide) ?_
    refine lv_iconst (v := (3 : Int32)) hx hb dX9_saying_6 (by decide) ?_
    refine gCi wd (gRunS (y := yX9_within) (As := [.int x2, .int (0 : Int32), .int (3 : Int32)]) (rest := []) C wd (cmX9_within h) ⟨rfl, rfl⟩ gd_X9_37 nk_X9_within ⟨Nat.le_of_ble_eq_true rfl, Nat.le_of_ble_eq_true rfl⟩ hl.1 (Nat.le_of_ble_eq_true rfl) dX9_saying_7 rfl) (fun r3 t2 H locs h wd => ?_)
    try dsimp only at h
    refine lv_if_eq (tgt := 17) hx hb dX9_saying_10 (by decide) (fun c4 => ?_) (fun c4 => ?_)
    · have h := h.1 c4
      exact blX9_saying_17 hn C h wd (lv_sub hl [0, 1, 2] rfl)
    · have h := h.2 c4
      refine lv_iconst (v := (1 : Int32)) hx hb dX9_saying_13 (by decide) ?_
      refine lv_goto (tgt := 18) hx hb dX9_saying_14 (by decide) ?_
      exact blX9_saying_18 hn C h wd (lv_sub hl [0, 1, 2] rfl)
abbrev rmX9_released : Room := rmOf 2 42
def wbX9_released_24 (Φ : Int32 → St → Prop) (z1 : Int32) (σ : St) : Prop :=
  wpX7_counted z1 σ (fun r2 t1 => Φ r2 t1)
set_option maxHeartbeats 4000000 in
set_option maxRecDepth 100000 in
theorem blX9_released_24 {p : Program} {l : Launch} {e : Env} {s : State} {m : MethodId} {args : Array Value} {below : List Frame} {meth : Method} {c : Code} (hn : 60 ≤ n) (C : Cx p s m args meth c cX9_released 2 (some .int) RX9) {Φ : Int32 → St → Prop} {z1 : Int32} {σ : St} {H : Heap} {locs : List Loc} {ls : Array Slot} (h : wbX9_released_24 Φ z1 σ) (wd : gWd D (tyL cyI cyO) (cCell ad cyI cyO) ad n s H locs σ) (hl : lv_has ls 2 []) : W p l e rmX9_released s m args below meth c H locs 0 0 (MQ below (gQi D (cCell ad cyI cyO) ad n s.heap.size Φ) args s 0 0 (gA ad n s.heap.size)) (F0 m 24 ls [.int z1, .ref (ad 59)]) := by
  obtain ⟨hx, hb, hr, hml, hown, hts, hlk⟩ := id C
  unfold wbX9_released_24 at h
  refine gCi wd (gRunV (y := yX7_counted) (k := 59) (As := [.int z1]) (rest := []) C wd (cmX7_counted (by omega) h) ⟨rfl, rfl⟩ gd_X9_41 nk_X7_counted ⟨Nat.le_of_ble_eq_true rfl, Nat.le_of_ble_eq_true rfl⟩ (by omega) cc_X7 rfl rfl hl.1 (Nat.le_of_ble_eq_true rfl) dX9_released_24 rfl) (fun r2 t1 H locs h wd => ?_)
  try dsimp only at h
  exact retI C wd h dX9_released_27
def wpX9_released (x1 : Int32) (σ : St) (Φ : Int32 → St → Prop) : Prop :=
  ((x1 < 0 → wbX9_released_24 Φ (-2 : Int32) σ) ∧ (¬ x1 < 0 → wpX6_releasedAt x1 σ (fun r3 t2 => wbX9_released_24 Φ r3 t2)))
set_option maxHeartbeats 4000000 in
set_option maxRecDepth 100000 in
theorem cmX9_released {D : va_G} {cyI cyO : ClassId} {ad : Nat → Nat} {n : Nat} {l : Launch} (hn : 60 ≤ n) {x1 : Int32} {σ : St} {sz : Nat} {Φ : Int32 → St → Prop} (h : wpX9_released x1 σ Φ) : gMet D (tyL cyI cyO) (cCell ad cyI cyO) ad n l yX9_released cX9_released 2 (some .int) rmX9_released [.ref (ad 56), .int x1] σ sz (gQi D (cCell ad cyI cyO) ad n sz Φ) := by
  refine gMet.of (by decide) (Nat.le_of_ble_eq_true rfl) ?_
  intro p e s m below meth c ls hsz C hl wd
  subst hsz
  have C : Cx p s m _ meth c cX9_released 2 (some .int) RX9 := C
  obtain ⟨hx, hb, hr, hml, hown, hts, hlk⟩ := id C
  have hl : lv_has ls 2 [(0, .ref (ad 56)), (1, .int x1)] := hl
  unfold wpX9_released at h
  refine lv_aload_n hx hb dX9_released_0 rfl (lv_at hl 0 rfl) ?_
  refine getF C wd (k := 56) (Cn := RX9) (T := TX9) (N := 4) (v := .ref (ad 59)) (by omega) cc_X9 rfl 3 (by decide) rfl inX9 tw2_45 dX9_released_1 ?_
  refine lv_iload_n hx hb dX9_released_4 rfl (lv_at hl 1 rfl) ?_
  refine lv_if_lt (tgt := 22) hx hb dX9_released_5 (by decide) (fun c1 => ?_) (fun c1 => ?_)
  · have h := h.1 c1
    refine lv_bipush (v := (-2 : Int32)) hx hb dX9_released_22 (by decide) ?_
    exact blX9_released_24 hn C h wd (lv_sub hl [] rfl)
  · have h := h.2 c1
    refine lv_aload_n hx hb dX9_released_8 rfl (lv_at hl 0 rfl) ?_
    refine getF C wd (k := 56) (Cn := RX9) (T := TX9) (N := 4) (v := .ref (ad 0)) (by omega) cc_X9 rfl 0 (by decide) rfl inX9 tw2_42 dX9_released_9 ?_
    refine getN C wd (k := 0) (Cn := RX2) (T := TX2) (N := 6) (v := .ref (ad 3)) (by omega) cc_X2 rfl 4 (by decide) rfl inX2 ns_34 dX9_released_12 ?_
    refine lv_iload_n hx hb dX9_released_15 rfl (lv_at hl 1 rfl) ?_
    refine gCi wd (gRunV (y := yX6_releasedAt) (k := 3) (As := [.int x1]) (rest := [.ref (ad 59)]) C wd (cmX6_releasedAt (by omega) h) ⟨rfl, rfl⟩ gd_X9_128 nk_X6_releasedAt ⟨Nat.le_of_ble_eq_true rfl, Nat.le_of_ble_eq_true rfl⟩ (by omega) cc_X6 rfl rfl hl.1 (Nat.le_of_ble_eq_true rfl) dX9_released_16 rfl) (fun r3 t2 H locs h wd => ?_)
    try dsimp only at h
    refine lv_goto (tgt := 24) hx hb dX9_released_19 (by decide) ?_
    exact blX9_released_24 hn C h wd (lv_sub hl [] rfl)
abbrev rmX9_cuts : Room := rmOf 5 110
def wbX9_cuts_28 (Φ : Int32 → St → Prop) (z1 : Int32) (σ : St) : Prop :=
  wpX7_counted z1 σ (fun r2 t1 => Φ r2 t1)
set_option maxHeartbeats 4000000 in
set_option maxRecDepth 100000 in
theorem blX9_cuts_28 {p : Program} {l : Launch} {e : Env} {s : State} {m : MethodId} {args : Array Value} {below : List Frame} {meth : Method} {c : Code} (hn : 60 ≤ n) (C : Cx p s m args meth c cX9_cuts 2 (some .int) RX9) {Φ : Int32 → St → Prop} {z1 : Int32} {σ : St} {H : Heap} {locs : List Loc} {ls : Array Slot} (h : wbX9_cuts_28 Φ z1 σ) (wd : gWd D (tyL cyI cyO) (cCell ad cyI cyO) ad n s H locs σ) (hl : lv_has ls 2 []) : W p l e rmX9_cuts s m args below meth c H locs 0 0 (MQ below (gQi D (cCell ad cyI cyO) ad n s.heap.size Φ) args s 0 0 (gA ad n s.heap.size)) (F0 m 28 ls [.int z1, .ref (ad 59)]) := by
  obtain ⟨hx, hb, hr, hml, hown, hts, hlk⟩ := id C
  unfold wbX9_cuts_28 at h
  refine gCi wd (gRunV (y := yX7_counted) (k := 59) (As := [.int z1]) (rest := []) C wd (cmX7_counted (by omega) h) ⟨rfl, rfl⟩ gd_X9_41 nk_X7_counted ⟨Nat.le_of_ble_eq_true rfl, Nat.le_of_ble_eq_true rfl⟩ (by omega) cc_X7 rfl rfl hl.1 (Nat.le_of_ble_eq_true rfl) dX9_cuts_28 rfl) (fun r2 t1 H locs h wd => ?_)
  try dsimp only at h
  exact retI C wd h dX9_cuts_31
def wpX9_cuts (x1 : Int32) (σ : St) (Φ : Int32 → St → Prop) : Prop :=
  wpX2_hasClerk x1 σ (fun r2 t1 => ((r2 = 0 → wbX9_cuts_28 Φ (-2 : Int32) t1) ∧ (¬ r2 = 0 → wpX2_cutPages x1 t1 (fun r5 t4 => wbX9_cuts_28 Φ r5 t4))))
set_option maxHeartbeats 4000000 in
set_option maxRecDepth 100000 in
theorem cmX9_cuts {D : va_G} {cyI cyO : ClassId} {ad : Nat → Nat} {n : Nat} {l : Launch} (hn : 60 ≤ n) {x1 : Int32} {σ : St} {sz : Nat} {Φ : Int32 → St → Prop} (h : wpX9_cuts x1 σ Φ) : gMet D (tyL cyI cyO) (cCell ad cyI cyO) ad n l yX9_cuts cX9_cuts 2 (some .int) rmX9_cuts [.ref (ad 56), .int x1] σ sz (gQi D (cCell ad cyI cyO) ad n sz Φ) := by
  refine gMet.of (by decide) (Nat.le_of_ble_eq_true rfl) ?_
  intro p e s m below meth c ls hsz C hl wd
  subst hsz
  have C : Cx p s m _ meth c cX9_cuts 2 (some .int) RX9 := C
  obtain ⟨hx, hb, hr, hml, hown, hts, hlk⟩ := id C
  have hl : lv_has ls 2 [(0, .ref (ad 56)), (1, .int x1)] := hl
  unfold wpX9_cuts at h
  refine lv_aload_n hx hb dX9_cuts_0 rfl (lv_at hl 0 rfl) ?_
  refine getF C wd (k := 56) (Cn := RX9) (T := TX9) (N := 4) (v := .ref (ad 59)) (by omega) cc_X9 rfl 3 (by decide) rfl inX9 tw2_45 dX9_cuts_1 ?_
  refine lv_aload_n hx hb dX9_cuts_4 rfl (lv_at hl 0 rfl) ?_
  refine getF C wd (k := 56) (Cn := RX9) (T := TX9) (N := 4) (v := .ref (ad 0)) (by omega) cc_X9 rfl 0 (by decide) rfl inX9 tw2_42 dX9_cuts_5 ?_
  refine lv_iload_n hx hb dX9_cuts_8 rfl (lv_at hl 1 rfl) ?_
  refine gCi wd (gRunV (y := yX2_hasClerk) (k := 0) (As := [.int x1]) (rest := [.ref (ad 59)]) C wd (cmX2_hasClerk (by omega) h) ⟨rfl, rfl⟩ gd_X9_53 nk_X2_hasClerk ⟨Nat.le_of_ble_eq_true rfl, Nat.le_of_ble_eq_true rfl⟩ (by omega) cc_X2 rfl rfl hl.1 (Nat.le_of_ble_eq_true rfl) dX9_cuts_9 rfl) (fun r2 t1 H locs h wd => ?_)
  try dsimp only at h
  refine lv_if_eq (tgt := 26) hx hb dX9_cuts_12 (by decide) (fun c3 => ?_) (fun c3 => ?_)
  · have h := h.1 c3
    refine lv_bipush (v := (-2 : Int32)) hx hb dX9_cuts_26 (by decide) ?_
    exact blX9_cuts_28 hn C h wd (lv_sub hl [] rfl)
  · have h := h.2 c3
    refine lv_aload_n hx hb dX9_cuts_15 rfl (lv_at hl 0 rfl) ?_
    refine getF C wd (k := 56) (Cn := RX9) (T := TX9) (N := 4) (v := .ref (ad 0)) (by omega) cc_X9 rfl 0 (by decide) rfl inX9 tw2_42 dX9_cuts_16 ?_
    refine lv_iload_n hx hb dX9_cuts_19 rfl (lv_at hl 1 rfl) ?_
    refine gCi wd (gRunV (y := yX2_cutPages) (k := 0) (As := [.int x1]) (rest := [.ref (ad 59)]) C wd (cmX2_cutPages (by omega) h) ⟨rfl, rfl⟩ gd_X9_133 nk_X2_cutPages ⟨Nat.le_of_ble_eq_true rfl, Nat.le_of_ble_eq_true rfl⟩ (by omega) cc_X2 rfl rfl hl.1 (Nat.le_of_ble_eq_true rfl) dX9_cuts_20 rfl) (fun r5 t4 H locs h wd => ?_)
    try dsimp only at h
    refine lv_goto (tgt := 28) hx hb dX9_cuts_23 (by decide) ?_
    exact blX9_cuts_28 hn C h wd (lv_sub hl [] rfl)
abbrev rmX9_would : Room := rmOf 5 116
def wbX9_would_48 (Φ : Int32 → St → Prop) (z1 : Int32) (σ : St) : Prop :=
  wpX7_counted z1 σ (fun r2 t1 => Φ r2 t1)
set_option maxHeartbeats 4000000 in
set_option maxRecDepth 100000 in
theorem blX9_would_48 {p : Program} {l : Launch} {e : Env} {s : State} {m : MethodId} {args : Array Value} {below : List Frame} {meth : Method} {c : Code} (hn : 60 ≤ n) (C : Cx p s m args meth c cX9_would 4 (some .int) RX9) {Φ : Int32 → St → Prop} {z1 : Int32} {σ : St} {H : Heap} {locs : List Loc} {ls : Array Slot} (h : wbX9_would_48 Φ z1 σ) (wd : gWd D (tyL cyI cyO) (cCell ad cyI cyO) ad n s H locs σ) (hl : lv_has ls 4 []) : W p l e rmX9_would s m args below meth c H locs 0 0 (MQ below (gQi D (cCell ad cyI cyO) ad n s.heap.size Φ) args s 0 0 (gA ad n s.heap.size)) (F0 m 48 ls [.int z1, .ref (ad 59)]) := by
  obtain ⟨hx, hb, hr, hml, hown, hts, hlk⟩ := id C
  unfold wbX9_would_48 at h
  refine gCi wd (gRunV (y := yX7_counted) (k := 59) (As := [.int z1]) (rest := []) C wd (cmX7_counted (by omega) h) ⟨rfl, rfl⟩ gd_X9_41 nk_X7_counted ⟨Nat.le_of_ble_eq_true rfl, Nat.le_of_ble_eq_true rfl⟩ (by omega) cc_X7 rfl rfl hl.1 (Nat.le_of_ble_eq_true rfl) dX9_would_48 rfl) (fun r2 t1 H locs h wd => ?_)
  try dsimp only at h
  exact retI C wd h dX9_would_51
def wbX9_would_25 (Φ : Int32 → St → Prop) (x1 : Int32) (x2 : Int32) (z0 : Int32) (σ : St) : Prop :=
  ((z0 = 0 → wbX9_would_48 Φ (-2 : Int32) σ) ∧ (¬ z0 = 0 → wpX2_tellLoss x1 x2 σ (fun r3 t2 => wbX9_would_48 Φ r3 t2)))
set_option maxHeartbeats 4000000 in
set_option maxRecDepth 100000 in
theorem blX9_would_25 {p : Program} {l : Launch} {e : Env} {s : State} {m : MethodId} {args : Array Value} {below : List Frame} {meth : Method} {c : Code} (hn : 60 ≤ n) (C : Cx p s m args meth c cX9_would 4 (some .int) RX9) {Φ : Int32 → St → Prop} {x1 : Int32} {x2 : Int32} {z0 : Int32} {σ : St} {H : Heap} {locs : List Loc} {ls : Array Slot} (h : wbX9_would_25 Φ x1 x2 z0 σ) (wd : gWd D (tyL cyI cyO) (cCell ad cyI cyO) ad n s H locs σ) (hl : lv_has ls 4 [(0, .ref (ad 56)), (1, .int x1), (2, .int x2)]) : W p l e rmX9_would s m args below meth c H locs 0 0 (MQ below (gQi D (cCell ad cyI cyO) ad n s.heap.size Φ) args s 0 0 (gA ad n s.heap.size)) (F0 m 25 ls [.int z0]) := by
  obtain ⟨hx, hb, hr, hml, hown, hts, hlk⟩ := id C
  unfold wbX9_would_25 at h
  refine lv_istore_n (lv' := [(3, .int z0), (0, .ref (ad 56)), (1, .int x1), (2, .int x2)]) hx hb dX9_would_25 rfl hl (by decide) rfl (fun ls hl => ?_)
  refine lv_aload_n hx hb dX9_would_26 rfl (lv_at hl 1 rfl) ?_
  refine getF C wd (k := 56) (Cn := RX9) (T := TX9) (N := 4) (v := .ref (ad 59)) (by omega) cc_X9 rfl 3 (by decide) rfl inX9 tw2_45 dX9_would_27 ?_
  refine lv_iload_n hx hb dX9_would_30 rfl (lv_at hl 0 rfl) ?_
  refine lv_if_eq (tgt := 46) hx hb dX9_would_31 (by decide) (fun c1 => ?_) (fun c1 => ?_)
  · have h := h.1 c1
    refine lv_bipush (v := (-2 : Int32)) hx hb dX9_would_46 (by decide) ?_
    exact blX9_would_48 hn C h wd (lv_sub hl [] rfl)
  · have h := h.2 c1
    refine lv_aload_n hx hb dX9_would_34 rfl (lv_at hl 1 rfl) ?_
    refine getF C wd (k := 56) (Cn := RX9) (T := TX9) (N := 4) (v := .ref (ad 0)) (by omega) cc_X9 rfl 0 (by decide) rfl inX9 tw2_42 dX9_would_35 ?_
    refine lv_iload_n hx hb dX9_would_38 rfl (lv_at hl 2 rfl) ?_
    refine lv_iload_n hx hb dX9_would_39 rfl (lv_at hl 3 rfl) ?_
    refine gCi wd (gRunV (y := yX2_tellLoss) (k := 0) (As := [.int x1, .int x2]) (rest := [.ref (ad 59)]) C wd (cmX2_tellLoss (by omega) h) ⟨rfl, rfl⟩ gd_X9_136 nk_X2_tellLoss ⟨Nat.le_of_ble_eq_true rfl, Nat.le_of_ble_eq_true rfl⟩ (by omega) cc_X2 rfl rfl hl.1 (Nat.le_of_ble_eq_true rfl) dX9_would_40 rfl) (fun r3 t2 H locs h wd => ?_)
    try dsimp only at h
    refine lv_goto (tgt := 48) hx hb dX9_would_43 (by decide) ?_
    exact blX9_would_48 hn C h wd (lv_sub hl [] rfl)
def wbX9_would_24 (Φ : Int32 → St → Prop) (x1 : Int32) (x2 : Int32) (σ : St) : Prop :=
  wbX9_would_25 Φ x1 x2 (0 : Int32) σ
set_option maxHeartbeats 4000000 in
set_option maxRecDepth 100000 in
theorem blX9_would_24 {p : Program} {l : Launch} {e : Env} {s : State} {m : MethodId} {args : Array Value} {below : List Frame} {meth : Method} {c : Code} (hn : 60 ≤ n) (C : Cx p s m args meth c cX9_would 4 (some .int) RX9) {Φ : Int32 → St → Prop} {x1 : Int32} {x2 : Int32} {σ : St} {H : Heap} {locs : List Loc} {ls : Array Slot} (h : wbX9_would_24 Φ x1 x2 σ) (wd : gWd D (tyL cyI cyO) (cCell ad cyI cyO) ad n s H locs σ) (hl : lv_has ls 4 [(0, .ref (ad 56)), (1, .int x1), (2, .int x2)]) : W p l e rmX9_would s m args below meth c H locs 0 0 (MQ below (gQi D (cCell ad cyI cyO) ad n s.heap.size Φ) args s 0 0 (gA ad n s.heap.size)) (F0 m 24 ls []) := by
  obtain ⟨hx, hb, hr, hml, hown, hts, hlk⟩ := id C
  unfold wbX9_would_24 at h
  refine lv_iconst (v := (0 : Int32)) hx hb dX9_would_24 (by decide) ?_
  exact blX9_would_25 hn C h wd (lv_sub hl [0, 1, 2] rfl)
def wpX9_would (x1 : Int32) (x2 : Int32) (σ : St) (Φ : Int32 → St → Prop) : Prop :=
  wpX2_hasClerk x1 σ (fun r2 t1 => ((r2 = 0 → wbX9_would_24 Φ x1 x2 t1) ∧ (¬ r2 = 0 → wpX9_within x2 (0 : Int32) (2 : Int32) t1 (fun r5 t4 => ((r5 = 0 → wbX9_would_24 Φ x1 x2 t4) ∧ (¬ r5 = 0 → wbX9_would_25 Φ x1 x2 (1 : Int32) t4))))))
set_option maxHeartbeats 4000000 in
set_option maxRecDepth 100000 in
theorem cmX9_would {D : va_G} {cyI cyO : ClassId} {ad : Nat → Nat} {n : Nat} {l : Launch} (hn : 60 ≤ n) {x1 : Int32} {x2 : Int32} {σ : St} {sz : Nat} {Φ : Int32 → St → Prop} (h : wpX9_would x1 x2 σ Φ) : gMet D (tyL cyI cyO) (cCell ad cyI cyO) ad n l yX9_would cX9_would 4 (some .int) rmX9_would [.ref (ad 56), .int x1, .int x2] σ sz (gQi D (cCell ad cyI cyO) ad n sz Φ) := by
  refine gMet.of (by decide) (Nat.le_of_ble_eq_true rfl) ?_
  intro p e s m below meth c ls hsz C hl wd
  subst hsz
  have C : Cx p s m _ meth c cX9_would 4 (some .int) RX9 := C
  obtain ⟨hx, hb, hr, hml, hown, hts, hlk⟩ := id C
  have hl : lv_has ls 4 [(0, .ref (ad 56)), (1, .int x1), (2, .int x2)] := hl
  unfold wpX9_would at h
  refine lv_aload_n hx hb dX9_would_0 rfl (lv_at hl 0 rfl) ?_
  refine getF C wd (k := 56) (Cn := RX9) (T := TX9) (N := 4) (v := .ref (ad 0)) (by omega) cc_X9 rfl 0 (by decide) rfl inX9 tw2_42 dX9_would_1 ?_
  refine lv_iload_n hx hb dX9_would_4 rfl (lv_at hl 1 rfl) ?_
  refine gCi wd (gRunV (y := yX2_hasClerk) (k := 0) (As := [.int x1]) (rest := []) C wd (cmX2_hasClerk (by omega) h) ⟨rfl, rfl⟩ gd_X9_53 nk_X2_hasClerk ⟨Nat.le_of_ble_eq_true rfl, Nat.le_of_ble_eq_true rfl⟩ (by omega) cc_X2 rfl rfl hl.1 (Nat.le_of_ble_eq_true rfl) dX9_would_5 rfl) (fun r2 t1 H locs h wd => ?_)
  try dsimp only at h
  refine lv_if_eq (tgt := 24) hx hb dX9_would_8 (by decide) (fun c3 => ?_) (fun c3 => ?_)
  · have h := h.1 c3
    exact blX9_would_24 hn C h wd (lv_sub hl [0, 1, 2] rfl)
  · have h := h.2 c3
    refine lv_iload_n hx hb dX9_would_11 rfl (lv_at hl 2 rfl) ?_
    refine lv_iconst (v := (0 : Int32)) hx hb dX9_would_12 (by decide) ?_
    refine lv_iconst (v := (2 : Int32)) hx hb dX9_would_13 (by decide) ?_
    refine gCi wd (gRunS (y := yX9_within) (As := [.int x2, .int (0 : Int32), .int (2 : Int32)]) (rest := []) C wd (cmX9_within h) ⟨rfl, rfl⟩ gd_X9_37 nk_X9_within ⟨Nat.le_of_ble_eq_true rfl, Nat.le_of_ble_eq_true rfl⟩ hl.1 (Nat.le_of_ble_eq_true rfl) dX9_would_14 rfl) (fun r5 t4 H locs h wd => ?_)
    try dsimp only at h
    refine lv_if_eq (tgt := 24) hx hb dX9_would_17 (by decide) (fun c6 => ?_) (fun c6 => ?_)
    · have h := h.1 c6
      exact blX9_would_24 hn C h wd (lv_sub hl [0, 1, 2] rfl)
    · have h := h.2 c6
      refine lv_iconst (v := (1 : Int32)) hx hb dX9_would_20 (by decide) ?_
      refine lv_goto (tgt := 25) hx hb dX9_would_21 (by decide) ?_
      exact blX9_would_25 hn C h wd (lv_sub hl [0, 1, 2] rfl)
abbrev rmX9_worst : Room := rmOf 6 140
def wpX9_worst (x1 : Int32) (σ : St) (Φ : Int32 → St → Prop) : Prop :=
  wpX9_within x1 (0 : Int32) (1 : Int32) σ (fun r2 t1 => ((r2 = 0 → wpX7_counted (-2 : Int32) t1 (fun r10 t9 => Φ r10 t9)) ∧ (¬ r2 = 0 → wpX2_worstClerk t1 (fun r5 t4 => ((x1 = 0 → Φ r5 t4) ∧ (¬ x1 = 0 → wpX2_tellLoss r5 (0 : Int32) t4 (fun r8 t7 => Φ r8 t7)))))))
set_option maxHeartbeats 4000000 in
set_option maxRecDepth 100000 in
theorem cmX9_worst {D : va_G} {cyI cyO : ClassId} {ad : Nat → Nat} {n : Nat} {l : Launch} (hn : 60 ≤ n) {x1 : Int32} {σ : St} {sz : Nat} {Φ : Int32 → St → Prop} (h : wpX9_worst x1 σ Φ) : gMet D (tyL cyI cyO) (cCell ad cyI cyO) ad n l yX9_worst cX9_worst 3 (some .int) rmX9_worst [.ref (ad 56), .int x1] σ sz (gQi D (cCell ad cyI cyO) ad n sz Φ) := by
  refine gMet.of (by decide) (Nat.le_of_ble_eq_true rfl) ?_
  intro p e s m below meth c ls hsz C hl wd
  subst hsz
  have C : Cx p s m _ meth c cX9_worst 3 (some .int) RX9 := C
  obtain ⟨hx, hb, hr, hml, hown, hts, hlk⟩ := id C
  have hl : lv_has ls 3 [(0, .ref (ad 56)), (1, .int x1)] := hl
  unfold wpX9_worst at h
  refine lv_iload_n hx hb dX9_worst_0 rfl (lv_at hl 1 rfl) ?_
  refine lv_iconst (v := (0 : Int32)) hx hb dX9_worst_1 (by decide) ?_
  refine lv_iconst (v := (1 : Int32)) hx hb dX9_worst_2 (by decide) ?_
  refine gCi wd (gRunS (y := yX9_within) (As := [.int x1, .int (0 : Int32), .int (1 : Int32)]) (rest := []) C wd (cmX9_within h) ⟨rfl, rfl⟩ gd_X9_37 nk_X9_within ⟨Nat.le_of_ble_eq_true rfl, Nat.le_of_ble_eq_true rfl⟩ hl.1 (Nat.le_of_ble_eq_true rfl) dX9_worst_3 rfl) (fun r2 t1 H locs h wd => ?_)
  try dsimp only at h
  refine lv_if_ne (tgt := 19) hx hb dX9_worst_6 (by decide) (fun c3 => ?_) (fun c3 => ?_)
  · have h := h.2 c3
    refine lv_aload_n hx hb dX9_worst_19 rfl (lv_at hl 0 rfl) ?_
    refine getF C wd (k := 56) (Cn := RX9) (T := TX9) (N := 4) (v := .ref (ad 0)) (by omega) cc_X9 rfl 0 (by decide) rfl inX9 tw2_42 dX9_worst_20 ?_
    refine gCi wd (gRunV (y := yX2_worstClerk) (k := 0) (As := []) (rest := []) C wd (cmX2_worstClerk (by omega) h) ⟨rfl, rfl⟩ gd_X9_139 nk_X2_worstClerk ⟨Nat.le_of_ble_eq_true rfl, Nat.le_of_ble_eq_true rfl⟩ (by omega) cc_X2 rfl rfl hl.1 (Nat.le_of_ble_eq_true rfl) dX9_worst_23 rfl) (fun r5 t4 H locs h wd => ?_)
    try dsimp only at h
    refine lv_istore_n (lv' := [(2, .int r5), (0, .ref (ad 56)), (1, .int x1)]) hx hb dX9_worst_26 rfl hl (by decide) rfl (fun ls hl => ?_)
    refine lv_iload_n hx hb dX9_worst_27 rfl (lv_at hl 2 rfl) ?_
    refine lv_if_ne (tgt := 35) hx hb dX9_worst_28 (by decide) (fun c6 => ?_) (fun c6 => ?_)
    · have h := h.2 c6
      refine lv_aload_n hx hb dX9_worst_35 rfl (lv_at hl 1 rfl) ?_
      refine getF C wd (k := 56) (Cn := RX9) (T := TX9) (N := 4) (v := .ref (ad 0)) (by omega) cc_X9 rfl 0 (by decide) rfl inX9 tw2_42 dX9_worst_36 ?_
      refine lv_iload_n hx hb dX9_worst_39 rfl (lv_at hl 0 rfl) ?_
      refine lv_iconst (v := (0 : Int32)) hx hb dX9_worst_40 (by decide) ?_
      refine gCi wd (gRunV (y := yX2_tellLoss) (k := 0) (As := [.int r5, .int (0 : Int32)]) (rest := []) C wd (cmX2_tellLoss (by omega) h) ⟨rfl, rfl⟩ gd_X9_136 nk_X2_tellLoss ⟨Nat.le_of_ble_eq_true rfl, Nat.le_of_ble_eq_true rfl⟩ (by omega) cc_X2 rfl rfl hl.1 (Nat.le_of_ble_eq_true rfl) dX9_worst_41 rfl) (fun r8 t7 H locs h wd => ?_)
      try dsimp only at h
      exact retI C wd h dX9_worst_44
    · have h := h.1 c6
      refine lv_iload_n hx hb dX9_worst_31 rfl (lv_at hl 0 rfl) ?_
      refine lv_goto (tgt := 44) hx hb dX9_worst_32 (by decide) ?_
      exact retI C wd h dX9_worst_44
  · have h := h.1 c3
    refine lv_aload_n hx hb dX9_worst_9 rfl (lv_at hl 0 rfl) ?_
    refine getF C wd (k := 56) (Cn := RX9) (T := TX9) (N := 4) (v := .ref (ad 59)) (by omega) cc_X9 rfl 3 (by decide) rfl inX9 tw2_45 dX9_worst_10 ?_
    refine lv_bipush (v := (-2 : Int32)) hx hb dX9_worst_13 (by decide) ?_
    refine gCi wd (gRunV (y := yX7_counted) (k := 59) (As := [.int (-2 : Int32)]) (rest := []) C wd (cmX7_counted (by omega) h) ⟨rfl, rfl⟩ gd_X9_41 nk_X7_counted ⟨Nat.le_of_ble_eq_true rfl, Nat.le_of_ble_eq_true rfl⟩ (by omega) cc_X7 rfl rfl hl.1 (Nat.le_of_ble_eq_true rfl) dX9_worst_15 rfl) (fun r10 t9 H locs h wd => ?_)
    try dsimp only at h
    exact retI C wd h dX9_worst_18
abbrev rmX9_type : Room := rmOf 2 43
def wbX9_type_27 (Φ : Int32 → St → Prop) (z1 : Int32) (σ : St) : Prop :=
  wpX7_counted z1 σ (fun r2 t1 => Φ r2 t1)
set_option maxHeartbeats 4000000 in
set_option maxRecDepth 100000 in
theorem blX9_type_27 {p : Program} {l : Launch} {e : Env} {s : State} {m : MethodId} {args : Array Value} {below : List Frame} {meth : Method} {c : Code} (hn : 60 ≤ n) (C : Cx p s m args meth c cX9_type 2 (some .int) RX9) {Φ : Int32 → St → Prop} {z1 : Int32} {σ : St} {H : Heap} {locs : List Loc} {ls : Array Slot} (h : wbX9_type_27 Φ z1 σ) (wd : gWd D (tyL cyI cyO) (cCell ad cyI cyO) ad n s H locs σ) (hl : lv_has ls 2 []) : W p l e rmX9_type s m args below meth c H locs 0 0 (MQ below (gQi D (cCell ad cyI cyO) ad n s.heap.size Φ) args s 0 0 (gA ad n s.heap.size)) (F0 m 27 ls [.int z1, .ref (ad 59)]) := by
  obtain ⟨hx, hb, hr, hml, hown, hts, hlk⟩ := id C
  unfold wbX9_type_27 at h
  refine gCi wd (gRunV (y := yX7_counted) (k := 59) (As := [.int z1]) (rest := []) C wd (cmX7_counted (by omega) h) ⟨rfl, rfl⟩ gd_X9_41 nk_X7_counted ⟨Nat.le_of_ble_eq_true rfl, Nat.le_of_ble_eq_true rfl⟩ (by omega) cc_X7 rfl rfl hl.1 (Nat.le_of_ble_eq_true rfl) dX9_type_27 rfl) (fun r2 t1 H locs h wd => ?_)
  try dsimp only at h
  exact retI C wd h dX9_type_30
def wpX9_type (x1 : Int32) (σ : St) (Φ : Int32 → St → Prop) : Prop :=
  wpX9_within x1 (0 : Int32) (127 : Int32) σ (fun r2 t1 => ((r2 = 0 → wbX9_type_27 Φ (-2 : Int32) t1) ∧ (¬ r2 = 0 → wpX8_add x1 t1 (fun r5 t4 => wbX9_type_27 Φ r5 t4))))
set_option maxHeartbeats 4000000 in
set_option maxRecDepth 100000 in
theorem cmX9_type {D : va_G} {cyI cyO : ClassId} {ad : Nat → Nat} {n : Nat} {l : Launch} (hn : 60 ≤ n) {x1 : Int32} {σ : St} {sz : Nat} {Φ : Int32 → St → Prop} (h : wpX9_type x1 σ Φ) : gMet D (tyL cyI cyO) (cCell ad cyI cyO) ad n l yX9_type cX9_type 2 (some .int) rmX9_type [.ref (ad 56), .int x1] σ sz (gQi D (cCell ad cyI cyO) ad n sz Φ) := by
  refine gMet.of (by decide) (Nat.le_of_ble_eq_true rfl) ?_
  intro p e s m below meth c ls hsz C hl wd
  subst hsz
  have C : Cx p s m _ meth c cX9_type 2 (some .int) RX9 := C
  obtain ⟨hx, hb, hr, hml, hown, hts, hlk⟩ := id C
  have hl : lv_has ls 2 [(0, .ref (ad 56)), (1, .int x1)] := hl
  unfold wpX9_type at h
  refine lv_aload_n hx hb dX9_type_0 rfl (lv_at hl 0 rfl) ?_
  refine getF C wd (k := 56) (Cn := RX9) (T := TX9) (N := 4) (v := .ref (ad 59)) (by omega) cc_X9 rfl 3 (by decide) rfl inX9 tw2_45 dX9_type_1 ?_
  refine lv_iload_n hx hb dX9_type_4 rfl (lv_at hl 1 rfl) ?_
  refine lv_iconst (v := (0 : Int32)) hx hb dX9_type_5 (by decide) ?_
  refine lv_bipush (v := (127 : Int32)) hx hb dX9_type_6 (by decide) ?_
  refine gCi wd (gRunS (y := yX9_within) (As := [.int x1, .int (0 : Int32), .int (127 : Int32)]) (rest := [.ref (ad 59)]) C wd (cmX9_within h) ⟨rfl, rfl⟩ gd_X9_37 nk_X9_within ⟨Nat.le_of_ble_eq_true rfl, Nat.le_of_ble_eq_true rfl⟩ hl.1 (Nat.le_of_ble_eq_true rfl) dX9_type_8 rfl) (fun r2 t1 H locs h wd => ?_)
  try dsimp only at h
  refine lv_if_eq (tgt := 25) hx hb dX9_type_11 (by decide) (fun c3 => ?_) (fun c3 => ?_)
  · have h := h.1 c3
    refine lv_bipush (v := (-2 : Int32)) hx hb dX9_type_25 (by decide) ?_
    exact blX9_type_27 hn C h wd (lv_sub hl [] rfl)
  · have h := h.2 c3
    refine lv_aload_n hx hb dX9_type_14 rfl (lv_at hl 0 rfl) ?_
    refine getF C wd (k := 56) (Cn := RX9) (T := TX9) (N := 4) (v := .ref (ad 57)) (by omega) cc_X9 rfl 1 (by decide) rfl inX9 tw2_43 dX9_type_15 ?_
    refine lv_iload_n hx hb dX9_type_18 rfl (lv_at hl 1 rfl) ?_
    refine gCi wd (gRunV (y := yX8_add) (k := 57) (As := [.int x1]) (rest := [.ref (ad 59)]) C wd (cmX8_add (by omega) h) ⟨rfl, rfl⟩ gd_X9_142 nk_X8_add ⟨Nat.le_of_ble_eq_true rfl, Nat.le_of_ble_eq_true rfl⟩ (by omega) cc_X8 rfl rfl hl.1 (Nat.le_of_ble_eq_true rfl) dX9_type_19 rfl) (fun r5 t4 H locs h wd => ?_)
    try dsimp only at h
    refine lv_goto (tgt := 27) hx hb dX9_type_22 (by decide) ?_
    exact blX9_type_27 hn C h wd (lv_sub hl [] rfl)
abbrev rmX9_clear : Room := rmOf 1 21
def wpX9_clear (σ : St) (Φ : Int32 → St → Prop) : Prop :=
  wpX8_empty σ (fun r2 t1 => Φ r2 t1)
set_option maxHeartbeats 4000000 in
set_option maxRecDepth 100000 in
theorem cmX9_clear {D : va_G} {cyI cyO : ClassId} {ad : Nat → Nat} {n : Nat} {l : Launch} (hn : 60 ≤ n) {σ : St} {sz : Nat} {Φ : Int32 → St → Prop} (h : wpX9_clear σ Φ) : gMet D (tyL cyI cyO) (cCell ad cyI cyO) ad n l yX9_clear cX9_clear 1 (some .int) rmX9_clear [.ref (ad 56)] σ sz (gQi D (cCell ad cyI cyO) ad n sz Φ) := by
  refine gMet.of (by decide) (Nat.le_of_ble_eq_true rfl) ?_
  intro p e s m below meth c ls hsz C hl wd
  subst hsz
  have C : Cx p s m _ meth c cX9_clear 1 (some .int) RX9 := C
  obtain ⟨hx, hb, hr, hml, hown, hts, hlk⟩ := id C
  have hl : lv_has ls 1 [(0, .ref (ad 56))] := hl
  unfold wpX9_clear at h
  refine lv_aload_n hx hb dX9_clear_0 rfl (lv_at hl 0 rfl) ?_
  refine getF C wd (k := 56) (Cn := RX9) (T := TX9) (N := 4) (v := .ref (ad 57)) (by omega) cc_X9 rfl 1 (by decide) rfl inX9 tw2_43 dX9_clear_1 ?_
  refine gCi wd (gRunV (y := yX8_empty) (k := 57) (As := []) (rest := []) C wd (cmX8_empty (by omega) h) ⟨rfl, rfl⟩ gd_X9_145 nk_X8_empty ⟨Nat.le_of_ble_eq_true rfl, Nat.le_of_ble_eq_true rfl⟩ (by omega) cc_X8 rfl rfl hl.1 (Nat.le_of_ble_eq_true rfl) dX9_clear_4 rfl) (fun r2 t1 H locs h wd => ?_)
  try dsimp only at h
  exact retI C wd h dX9_clear_7
abbrev rmX9_does : Room := rmOf 7 155
def wbX9_does_97 (Φ : Int32 → St → Prop) (k_33 : Int32 → Int32 → St → Prop) (x2 : Int32) (x3 : Int32) (σ : St) : Prop :=
  (∀ y1 : Int32, y1 = x3 + (1 : Int32) → k_33 x2 y1 σ)
set_option maxHeartbeats 4000000 in
set_option maxRecDepth 100000 in
theorem blX9_does_97 {p : Program} {l : Launch} {e : Env} {s : State} {m : MethodId} {args : Array Value} {below : List Frame} {meth : Method} {c : Code} (hn : 60 ≤ n) (C : Cx p s m args meth c cX9_does 5 (some .int) RX9) {Φ : Int32 → St → Prop} {k_33 : Int32 → Int32 → St → Prop} (hk_33 : ∀ (x2 : Int32) (x3 : Int32) (σ : St) (H : Heap) (locs : List Loc) (ls : Array Slot), k_33 x2 x3 σ → gWd D (tyL cyI cyO) (cCell ad cyI cyO) ad n s H locs σ → lv_has ls 5 [(0, .ref (ad 56)), (2, .int x2), (3, .int x3)] → W p l e rmX9_does s m args below meth c H locs 0 0 (MQ below (gQi D (cCell ad cyI cyO) ad n s.heap.size Φ) args s 0 0 (gA ad n s.heap.size)) (F0 m 33 ls [])) {x2 : Int32} {x3 : Int32} {σ : St} {H : Heap} {locs : List Loc} {ls : Array Slot} (h : wbX9_does_97 Φ k_33 x2 x3 σ) (wd : gWd D (tyL cyI cyO) (cCell ad cyI cyO) ad n s H locs σ) (hl : lv_has ls 5 [(0, .ref (ad 56)), (2, .int x2), (3, .int x3)]) : W p l e rmX9_does s m args below meth c H locs 0 0 (MQ below (gQi D (cCell ad cyI cyO) ad n s.heap.size Φ) args s 0 0 (gA ad n s.heap.size)) (F0 m 97 ls []) := by
  obtain ⟨hx, hb, hr, hml, hown, hts, hlk⟩ := id C
  unfold wbX9_does_97 at h
  obtain ⟨y1, ey1⟩ : ∃ y : Int32, y = x3 + (1 : Int32) := ⟨_, rfl⟩
  refine lv_iinc (v := y1) (lv' := [(3, .int y1), (0, .ref (ad 56)), (2, .int x2)]) hx hb dX9_does_97 hl (k := 2) rfl (by rw [ey1]; rfl) (by decide) rfl (fun ls hl => ?_)
  have h := h y1 ey1
  refine lv_goto (tgt := 33) hx hb dX9_does_100 (by decide) ?_
  exact hk_33 _ _ _ _ _ _ h wd (lv_sub hl [1, 2, 0] rfl)
def wlX9_does_33_body (Φ : Int32 → St → Prop) (k_33 : Int32 → Int32 → St → Prop) (x2 : Int32) (x3 : Int32) (σ : St) : Prop :=
  (((σ.1 1856) ≤ x3 → Φ x2 σ) ∧ (¬ (σ.1 1856) ≤ x3 → wpX9_at 53 x3 σ (fun r3 t2 => wpX9_at 54 x3 t2 (fun r5 t4 => wpX9_at 55 x3 t4 (fun r7 t6 => wpX2_follow r3 r5 r7 t6 (fun r9 t8 => wpX9_isDone r9 t8 (fun r11 t10 => ((r11 = 0 → wbX9_does_97 Φ k_33 x2 x3 t10) ∧ (¬ r11 = 0 → (∀ y13 : Int32, y13 = x2 + (1 : Int32) → wbX9_does_97 Φ k_33 y13 x3 t10))))))))))
def wlX9_does_33 (Φ : Int32 → St → Prop) : Nat → Int32 → Int32 → St → Prop
  | 0 => fun _ _ _ => False
  | N + 1 => fun x2 x3 σ => wlX9_does_33_body Φ (wlX9_does_33 Φ N) x2 x3 σ
set_option maxHeartbeats 4000000 in
set_option maxRecDepth 100000 in
theorem llX9_does_33 {p : Program} {l : Launch} {e : Env} {s : State} {m : MethodId} {args : Array Value} {below : List Frame} {meth : Method} {c : Code} (hn : 60 ≤ n) (C : Cx p s m args meth c cX9_does 5 (some .int) RX9) {Φ : Int32 → St → Prop} : ∀ (N : Nat) (x2 : Int32) (x3 : Int32) (σ : St) (H : Heap) (locs : List Loc) (ls : Array Slot), wlX9_does_33 Φ N x2 x3 σ → gWd D (tyL cyI cyO) (cCell ad cyI cyO) ad n s H locs σ → lv_has ls 5 [(0, .ref (ad 56)), (2, .int x2), (3, .int x3)] → W p l e rmX9_does s m args below meth c H locs 0 0 (MQ below (gQi D (cCell ad cyI cyO) ad n s.heap.size Φ) args s 0 0 (gA ad n s.heap.size)) (F0 m 33 ls []) := by
  obtain ⟨hx, hb, hr, hml, hown, hts, hlk⟩ := id C
  intro N
  induction N with
  | zero =>
    intro x2 x3 σ H locs ls h
    exact False.elim h
  | succ N ih =>
    intro x2 x3 σ H locs ls h wd hl
    have h : wlX9_does_33_body Φ (wlX9_does_33 Φ N) x2 x3 σ := h
    have hk_33 := ih
    unfold wlX9_does_33_body at h
    refine lv_iload_n hx hb dX9_does_33 rfl (lv_at hl 2 rfl) ?_
    refine lv_aload_n hx hb dX9_does_34 rfl (lv_at hl 0 rfl) ?_
    refine getF C wd (k := 56) (Cn := RX9) (T := TX9) (N := 4) (v := .ref (ad 58)) (by omega) cc_X9 rfl 2 (by decide) rfl inX9 tw2_44 dX9_does_35 ?_
    refine getN C wd (k := 58) (Cn := RX4) (T := TX4) (N := 6) (v := .int (σ.1 1856)) (by omega) cc_X4 rfl 0 (by decide) rfl inX4 ns_39 dX9_does_38 ?_
    refine lv_icmp_ge (tgt := 103) hx hb dX9_does_41 (by decide) (fun c1 => ?_) (fun c1 => ?_)
    · have h := h.1 c1
      refine lv_iload_n hx hb dX9_does_103 rfl (lv_at hl 1 rfl) ?_
      exact retI C wd h dX9_does_104
    · have h := h.2 c1
      refine lv_aload_n hx hb dX9_does_44 rfl (lv_at hl 0 rfl) ?_
      refine getF C wd (k := 56) (Cn := RX9) (T := TX9) (N := 4) (v := .ref (ad 0)) (by omega) cc_X9 rfl 0 (by decide) rfl inX9 tw2_42 dX9_does_45 ?_
      refine lv_aload_n hx hb dX9_does_48 rfl (lv_at hl 0 rfl) ?_
      refine getF C wd (k := 56) (Cn := RX9) (T := TX9) (N := 4) (v := .ref (ad 58)) (by omega) cc_X9 rfl 2 (by decide) rfl inX9 tw2_44 dX9_does_49 ?_
      refine getN C wd (k := 58) (Cn := RX4) (T := TX4) (N := 6) (v := .ref (ad 53)) (by omega) cc_X4 rfl 3 (by decide) rfl inX4 ns_40 dX9_does_52 ?_
      refine lv_iload_n hx hb dX9_does_55 rfl (lv_at hl 2 rfl) ?_
      refine gCi wd (gRunS (y := yX9_at) (As := [.ref (ad 53), .int x3]) (rest := [.ref (ad 0)]) C wd (cmX9_at (by omega) (by omega) (by omega) h) ⟨rfl, rfl⟩ gd_X9_159 nk_X9_at ⟨Nat.le_of_ble_eq_true rfl, Nat.le_of_ble_eq_true rfl⟩ hl.1 (Nat.le_of_ble_eq_true rfl) dX9_does_56 rfl) (fun r3 t2 H locs h wd => ?_)
      try dsimp only at h
      refine lv_aload_n hx hb dX9_does_59 rfl (lv_at hl 0 rfl) ?_
      refine getF C wd (k := 56) (Cn := RX9) (T := TX9) (N := 4) (v := .ref (ad 58)) (by omega) cc_X9 rfl 2 (by decide) rfl inX9 tw2_44 dX9_does_60 ?_
      refine getN C wd (k := 58) (Cn := RX4) (T := TX4) (N := 6) (v := .ref (ad 54)) (by omega) cc_X4 rfl 4 (by decide) rfl inX4 ns_41 dX9_does_63 ?_
      refine lv_iload_n hx hb dX9_does_66 rfl (lv_at hl 2 rfl) ?_
      refine gCi wd (gRunS (y := yX9_at) (As := [.ref (ad 54), .int x3]) (rest := [.int r3, .ref (ad 0)]) C wd (cmX9_at (by omega) (by omega) (by omega) h) ⟨rfl, rfl⟩ gd_X9_159 nk_X9_at ⟨Nat.le_of_ble_eq_true rfl, Nat.le_of_ble_eq_true rfl⟩ hl.1 (Nat.le_of_ble_eq_true rfl) dX9_does_67 rfl) (fun r5 t4 H locs h wd => ?_)
      try dsimp only at h
      refine lv_aload_n hx hb dX9_does_70 rfl (lv_at hl 0 rfl) ?_
      refine getF C wd (k := 56) (Cn := RX9) (T := TX9) (N := 4) (v := .ref (ad 58)) (by omega) cc_X9 rfl 2 (by decide) rfl inX9 tw2_44 dX9_does_71 ?_
      refine getN C wd (k := 58) (Cn := RX4) (T := TX4) (N := 6) (v := .ref (ad 55)) (by omega) cc_X4 rfl 5 (by decide) rfl inX4 ns_42 dX9_does_74 ?_
      refine lv_iload_n hx hb dX9_does_77 rfl (lv_at hl 2 rfl) ?_
      refine gCi wd (gRunS (y := yX9_at) (As := [.ref (ad 55), .int x3]) (rest := [.int r5, .int r3, .ref (ad 0)]) C wd (cmX9_at (by omega) (by omega) (by omega) h) ⟨rfl, rfl⟩ gd_X9_159 nk_X9_at ⟨Nat.le_of_ble_eq_true rfl, Nat.le_of_ble_eq_true rfl⟩ hl.1 (Nat.le_of_ble_eq_true rfl) dX9_does_78 rfl) (fun r7 t6 H locs h wd => ?_)
      try dsimp only at h
      refine gCi wd (gRunV (y := yX2_follow) (k := 0) (As := [.int r3, .int r5, .int r7]) (rest := []) C wd (cmX2_follow (by omega) h) ⟨rfl, rfl⟩ gd_X9_169 nk_X2_follow ⟨Nat.le_of_ble_eq_true rfl, Nat.le_of_ble_eq_true rfl⟩ (by omega) cc_X2 rfl rfl hl.1 (Nat.le_of_ble_eq_true rfl) dX9_does_81 rfl) (fun r9 t8 H locs h wd => ?_)
      try dsimp only at h
      refine lv_istore (lv' := [(4, .int r9), (0, .ref (ad 56)), (2, .int x2), (3, .int x3)]) hx hb dX9_does_84 hl (by decide) rfl (fun ls hl => ?_)
      refine lv_iload hx hb dX9_does_86 (lv_at hl 0 rfl) ?_
      refine gCi wd (gRunS (y := yX9_isDone) (As := [.int r9]) (rest := []) C wd (cmX9_isDone h) ⟨rfl, rfl⟩ gd_X9_84 nk_X9_isDone ⟨Nat.le_of_ble_eq_true rfl, Nat.le_of_ble_eq_true rfl⟩ hl.1 (Nat.le_of_ble_eq_true rfl) dX9_does_88 rfl) (fun r11 t10 H locs h wd => ?_)
      try dsimp only at h
      refine lv_if_eq (tgt := 97) hx hb dX9_does_91 (by decide) (fun c12 => ?_) (fun c12 => ?_)
      · have h := h.1 c12
        exact blX9_does_97 hn C hk_33 h wd (lv_sub hl [1, 2, 3] rfl)
      · have h := h.2 c12
        obtain ⟨y13, ey13⟩ : ∃ y : Int32, y = x2 + (1 : Int32) := ⟨_, rfl⟩
        refine lv_iinc (v := y13) (lv' := [(2, .int y13), (4, .int r9), (0, .ref (ad 56)), (3, .int x3)]) hx hb dX9_does_94 hl (k := 2) rfl (by rw [ey13]; rfl) (by decide) rfl (fun ls hl => ?_)
        have h := h y13 ey13
        exact blX9_does_97 hn C hk_33 h wd (lv_sub hl [2, 0, 3] rfl)
def wpX9_does (σ : St) (Φ : Int32 → St → Prop) : Prop :=
  wpX4_readAll (σ.1 0) σ (fun r2 t1 => ((r2 = (-1 : Int32) → (∃ N, wlX9_does_33 Φ N (0 : Int32) (0 : Int32) t1)) ∧ (¬ r2 = (-1 : Int32) → Φ ((-10 : Int32) - r2) t1)))
set_option maxHeartbeats 4000000 in
set_option maxRecDepth 100000 in
theorem cmX9_does {D : va_G} {cyI cyO : ClassId} {ad : Nat → Nat} {n : Nat} {l : Launch} (hn : 60 ≤ n) {σ : St} {sz : Nat} {Φ : Int32 → St → Prop} (h : wpX9_does σ Φ) : gMet D (tyL cyI cyO) (cCell ad cyI cyO) ad n l yX9_does cX9_does 5 (some .int) rmX9_does [.ref (ad 56)] σ sz (gQi D (cCell ad cyI cyO) ad n sz Φ) := by
  refine gMet.of (by decide) (Nat.le_of_ble_eq_true rfl) ?_
  intro p e s m below meth c ls hsz C hl wd
  subst hsz
  have C : Cx p s m _ meth c cX9_does 5 (some .int) RX9 := C
  obtain ⟨hx, hb, hr, hml, hown, hts, hlk⟩ := id C
  have hl : lv_has ls 5 [(0, .ref (ad 56))] := hl
  unfold wpX9_does at h
  refine lv_aload_n hx hb dX9_does_0 rfl (lv_at hl 0 rfl) ?_
  refine getF C wd (k := 56) (Cn := RX9) (T := TX9) (N := 4) (v := .ref (ad 58)) (by omega) cc_X9 rfl 2 (by decide) rfl inX9 tw2_44 dX9_does_1 ?_
  refine lv_aload_n hx hb dX9_does_4 rfl (lv_at hl 0 rfl) ?_
  refine getF C wd (k := 56) (Cn := RX9) (T := TX9) (N := 4) (v := .ref (ad 57)) (by omega) cc_X9 rfl 1 (by decide) rfl inX9 tw2_43 dX9_does_5 ?_
  refine lv_aload_n hx hb dX9_does_8 rfl (lv_at hl 0 rfl) ?_
  refine getF C wd (k := 56) (Cn := RX9) (T := TX9) (N := 4) (v := .ref (ad 0)) (by omega) cc_X9 rfl 0 (by decide) rfl inX9 tw2_42 dX9_does_9 ?_
  refine getN C wd (k := 0) (Cn := RX2) (T := TX2) (N := 6) (v := .int (σ.1 0)) (by omega) cc_X2 rfl 0 (by decide) rfl inX2 ns_31 dX9_does_12 ?_
  refine gCi wd (gRunV (y := yX4_readAll) (k := 58) (As := [.ref (ad 57), .int (σ.1 0)]) (rest := []) C wd (cmX4_readAll (by omega) h) ⟨rfl, rfl⟩ gd_X9_148 nk_X4_readAll ⟨Nat.le_of_ble_eq_true rfl, Nat.le_of_ble_eq_true rfl⟩ (by omega) cc_X4 rfl rfl hl.1 (Nat.le_of_ble_eq_true rfl) dX9_does_15 rfl) (fun r2 t1 H locs h wd => ?_)
  try dsimp only at h
  refine lv_istore_n (lv' := [(1, .int r2), (0, .ref (ad 56))]) hx hb dX9_does_18 rfl hl (by decide) rfl (fun ls hl => ?_)
  refine lv_iload_n hx hb dX9_does_19 rfl (lv_at hl 0 rfl) ?_
  refine lv_iconst (v := (-1 : Int32)) hx hb dX9_does_20 (by decide) ?_
  refine lv_icmp_eq (tgt := 29) hx hb dX9_does_21 (by decide) (fun c3 => ?_) (fun c3 => ?_)
  · have h := h.1 c3
    refine lv_iconst (v := (0 : Int32)) hx hb dX9_does_29 (by decide) ?_
    refine lv_istore_n (lv' := [(2, .int (0 : Int32)), (1, .int r2), (0, .ref (ad 56))]) hx hb dX9_does_30 rfl hl (by decide) rfl (fun ls hl => ?_)
    refine lv_iconst (v := (0 : Int32)) hx hb dX9_does_31 (by decide) ?_
    refine lv_istore_n (lv' := [(3, .int (0 : Int32)), (2, .int (0 : Int32)), (1, .int r2), (0, .ref (ad 56))]) hx hb dX9_does_32 rfl hl (by decide) rfl (fun ls hl => ?_)
    obtain ⟨N, h⟩ := h
    exact llX9_does_33 hn C N _ _ _ _ _ _ h wd (lv_sub hl [3, 1, 0] rfl)
  · have h := h.2 c3
    refine lv_bipush (v := (-10 : Int32)) hx hb dX9_does_24 (by decide) ?_
    refine lv_iload_n hx hb dX9_does_26 rfl (lv_at hl 0 rfl) ?_
    refine lv_isub hx hb dX9_does_27 ?_
    exact retI C wd h dX9_does_28
abbrev rmX9_tell : Room := rmOf 3 64
def wpX9_tell (x1 : Int32) (σ : St) (Φ : Int32 → St → Prop) : Prop :=
  ((x1 = (0 : Int32) → Φ (σ.1 1888) σ) ∧ (x1 = (1 : Int32) → Φ (σ.1 1889) σ) ∧ (x1 = (2 : Int32) → Φ (σ.1 1890) σ) ∧ (x1 = (3 : Int32) → Φ (σ.1 1824) σ) ∧ (x1 = (4 : Int32) → Φ (σ.1 0) σ) ∧ (x1 = (5 : Int32) → Φ (σ.1 64) σ) ∧ (x1 = (6 : Int32) → Φ (σ.1 96) σ) ∧ (x1 = (7 : Int32) → wpX6_countHeld σ (fun r10 t9 => Φ r10 t9)) ∧ (x1 = (8 : Int32) → Φ (σ.1 97) σ) ∧ (¬ x1 = (0 : Int32) → ¬ x1 = (1 : Int32) → ¬ x1 = (2 : Int32) → ¬ x1 = (3 : Int32) → ¬ x1 = (4 : Int32) → ¬ x1 = (5 : Int32) → ¬ x1 = (6 : Int32) → ¬ x1 = (7 : Int32) → ¬ x1 = (8 : Int32) → Φ (σ.1 1) σ))
set_option maxHeartbeats 4000000 in
set_option maxRecDepth 100000 in
theorem cmX9_tell {D : va_G} {cyI cyO : ClassId} {ad : Nat → Nat} {n : Nat} {l : Launch} (hn : 60 ≤ n) {x1 : Int32} {σ : St} {sz : Nat} {Φ : Int32 → St → Prop} (h : wpX9_tell x1 σ Φ) : gMet D (tyL cyI cyO) (cCell ad cyI cyO) ad n l yX9_tell cX9_tell 2 (some .int) rmX9_tell [.ref (ad 56), .int x1] σ sz (gQi D (cCell ad cyI cyO) ad n sz Φ) := by
  refine gMet.of (by decide) (Nat.le_of_ble_eq_true rfl) ?_
  intro p e s m below meth c ls hsz C hl wd
  subst hsz
  have C : Cx p s m _ meth c cX9_tell 2 (some .int) RX9 := C
  obtain ⟨hx, hb, hr, hml, hown, hts, hlk⟩ := id C
  have hl : lv_has ls 2 [(0, .ref (ad 56)), (1, .int x1)] := hl
  unfold wpX9_tell at h
  refine lv_iload_n hx hb dX9_tell_0 rfl (lv_at hl 1 rfl) ?_
  by_cases c1 : x1 = (0 : Int32)
  · have h := h.1 c1
    refine lv_tableIn (off := 51) (tgt := 52) hx hb dX9_tell_1 (by rw [c1]; decide) (by rw [c1]; decide) (by rw [c1]; rfl) (by decide) ?_
    refine lv_aload_n hx hb dX9_tell_52 rfl (lv_at hl 0 rfl) ?_
    refine getF C wd (k := 56) (Cn := RX9) (T := TX9) (N := 4) (v := .ref (ad 59)) (by omega) cc_X9 rfl 3 (by decide) rfl inX9 tw2_45 dX9_tell_53 ?_
    refine getN C wd (k := 59) (Cn := RX7) (T := TX7) (N := 3) (v := .int (σ.1 1888)) (by omega) cc_X7 rfl 0 (by decide) rfl inX7 ns_44 dX9_tell_56 ?_
    exact retI C wd h dX9_tell_59
  · skip
    by_cases c2 : x1 = (1 : Int32)
    · have h := h.2.1 c2
      refine lv_tableIn (off := 59) (tgt := 60) hx hb dX9_tell_1 (by rw [c2]; decide) (by rw [c2]; decide) (by rw [c2]; rfl) (by decide) ?_
      refine lv_aload_n hx hb dX9_tell_60 rfl (lv_at hl 0 rfl) ?_
      refine getF C wd (k := 56) (Cn := RX9) (T := TX9) (N := 4) (v := .ref (ad 59)) (by omega) cc_X9 rfl 3 (by decide) rfl inX9 tw2_45 dX9_tell_61 ?_
      refine getN C wd (k := 59) (Cn := RX7) (T := TX7) (N := 3) (v := .int (σ.1 1889)) (by omega) cc_X7 rfl 1 (by decide) rfl inX7 ns_45 dX9_tell_64 ?_
      exact retI C wd h dX9_tell_67
    · skip
      by_cases c3 : x1 = (2 : Int32)
      · have h := h.2.2.1 c3
        refine lv_tableIn (off := 67) (tgt := 68) hx hb dX9_tell_1 (by rw [c3]; decide) (by rw [c3]; decide) (by rw [c3]; rfl) (by decide) ?_
        refine lv_aload_n hx hb dX9_tell_68 rfl (lv_at hl 0 rfl) ?_
        refine getF C wd (k := 56) (Cn := RX9) (T := TX9) (N := 4) (v := .ref (ad 59)) (by omega) cc_X9 rfl 3 (by decide) rfl inX9 tw2_45 dX9_tell_69 ?_
        refine getN C wd (k := 59) (Cn := RX7) (T := TX7) (N := 3) (v := .int (σ.1 1890)) (by omega) cc_X7 rfl 2 (by decide) rfl inX7 ns_46 dX9_tell_72 ?_
        exact retI C wd h dX9_tell_75
      · skip
        by_cases c4 : x1 = (3 : Int32)
        · have h := h.2.2.2.1 c4
          refine lv_tableIn (off := 75) (tgt := 76) hx hb dX9_tell_1 (by rw [c4]; decide) (by rw [c4]; decide) (by rw [c4]; rfl) (by decide) ?_
          refine lv_aload_n hx hb dX9_tell_76 rfl (lv_at hl 0 rfl) ?_
          refine getF C wd (k := 56) (Cn := RX9) (T := TX9) (N := 4) (v := .ref (ad 57)) (by omega) cc_X9 rfl 1 (by decide) rfl inX9 tw2_43 dX9_tell_77 ?_
          refine getN C wd (k := 57) (Cn := RX8) (T := TX8) (N := 2) (v := .int (σ.1 1824)) (by omega) cc_X8 rfl 0 (by decide) rfl inX8 ns_37 dX9_tell_80 ?_
          exact retI C wd h dX9_tell_83
        · skip
          by_cases c5 : x1 = (4 : Int32)
          · have h := h.2.2.2.2.1 c5
            refine lv_tableIn (off := 83) (tgt := 84) hx hb dX9_tell_1 (by rw [c5]; decide) (by rw [c5]; decide) (by rw [c5]; rfl) (by decide) ?_
            refine lv_aload_n hx hb dX9_tell_84 rfl (lv_at hl 0 rfl) ?_
            refine getF C wd (k := 56) (Cn := RX9) (T := TX9) (N := 4) (v := .ref (ad 0)) (by omega) cc_X9 rfl 0 (by decide) rfl inX9 tw2_42 dX9_tell_85 ?_
            refine getN C wd (k := 0) (Cn := RX2) (T := TX2) (N := 6) (v := .int (σ.1 0)) (by omega) cc_X2 rfl 0 (by decide) rfl inX2 ns_31 dX9_tell_88 ?_
            exact retI C wd h dX9_tell_91
          · skip
            by_cases c6 : x1 = (5 : Int32)
            · have h := h.2.2.2.2.2.1 c6
              refine lv_tableIn (off := 91) (tgt := 92) hx hb dX9_tell_1 (by rw [c6]; decide) (by rw [c6]; decide) (by rw [c6]; rfl) (by decide) ?_
              refine lv_aload_n hx hb dX9_tell_92 rfl (lv_at hl 0 rfl) ?_
              refine getF C wd (k := 56) (Cn := RX9) (T := TX9) (N := 4) (v := .ref (ad 0)) (by omega) cc_X9 rfl 0 (by decide) rfl inX9 tw2_42 dX9_tell_93 ?_
              refine getN C wd (k := 0) (Cn := RX2) (T := TX2) (N := 6) (v := .ref (ad 2)) (by omega) cc_X2 rfl 3 (by decide) rfl inX2 ns_33 dX9_tell_96 ?_
              refine getN C wd (k := 2) (Cn := RX3) (T := TX3) (N := 5) (v := .int (σ.1 64)) (by omega) cc_X3 rfl 0 (by decide) rfl inX3 ns_2 dX9_tell_99 ?_
              exact retI C wd h dX9_tell_102
            · skip
              by_cases c7 : x1 = (6 : Int32)
              · have h := h.2.2.2.2.2.2.1 c7
                refine lv_tableIn (off := 102) (tgt := 103) hx hb dX9_tell_1 (by rw [c7]; decide) (by rw [c7]; decide) (by rw [c7]; rfl) (by decide) ?_
                refine lv_aload_n hx hb dX9_tell_103 rfl (lv_at hl 0 rfl) ?_
                refine getF C wd (k := 56) (Cn := RX9) (T := TX9) (N := 4) (v := .ref (ad 0)) (by omega) cc_X9 rfl 0 (by decide) rfl inX9 tw2_42 dX9_tell_104 ?_
                refine getN C wd (k := 0) (Cn := RX2) (T := TX2) (N := 6) (v := .ref (ad 3)) (by omega) cc_X2 rfl 4 (by decide) rfl inX2 ns_34 dX9_tell_107 ?_
                refine getN C wd (k := 3) (Cn := RX6) (T := TX6) (N := 6) (v := .int (σ.1 96)) (by omega) cc_X6 rfl 0 (by decide) rfl inX6 ns_8 dX9_tell_110 ?_
                exact retI C wd h dX9_tell_113
              · skip
                by_cases c8 : x1 = (7 : Int32)
                · have h := h.2.2.2.2.2.2.2.1 c8
                  refine lv_tableIn (off := 113) (tgt := 114) hx hb dX9_tell_1 (by rw [c8]; decide) (by rw [c8]; decide) (by rw [c8]; rfl) (by decide) ?_
                  refine lv_aload_n hx hb dX9_tell_114 rfl (lv_at hl 0 rfl) ?_
                  refine getF C wd (k := 56) (Cn := RX9) (T := TX9) (N := 4) (v := .ref (ad 0)) (by omega) cc_X9 rfl 0 (by decide) rfl inX9 tw2_42 dX9_tell_115 ?_
                  refine getN C wd (k := 0) (Cn := RX2) (T := TX2) (N := 6) (v := .ref (ad 3)) (by omega) cc_X2 rfl 4 (by decide) rfl inX2 ns_34 dX9_tell_118 ?_
                  refine gCi wd (gRunV (y := yX6_countHeld) (k := 3) (As := []) (rest := []) C wd (cmX6_countHeld (by omega) h) ⟨rfl, rfl⟩ gd_X9_199 nk_X6_countHeld ⟨Nat.le_of_ble_eq_true rfl, Nat.le_of_ble_eq_true rfl⟩ (by omega) cc_X6 rfl rfl hl.1 (Nat.le_of_ble_eq_true rfl) dX9_tell_121 rfl) (fun r10 t9 H locs h wd => ?_)
                  try dsimp only at h
                  exact retI C wd h dX9_tell_124
                · skip
                  by_cases c11 : x1 = (8 : Int32)
                  · have h := h.2.2.2.2.2.2.2.2.1 c11
                    refine lv_tableIn (off := 124) (tgt := 125) hx hb dX9_tell_1 (by rw [c11]; decide) (by rw [c11]; decide) (by rw [c11]; rfl) (by decide) ?_
                    refine lv_aload_n hx hb dX9_tell_125 rfl (lv_at hl 0 rfl) ?_
                    refine getF C wd (k := 56) (Cn := RX9) (T := TX9) (N := 4) (v := .ref (ad 0)) (by omega) cc_X9 rfl 0 (by decide) rfl inX9 tw2_42 dX9_tell_126 ?_
                    refine getN C wd (k := 0) (Cn := RX2) (T := TX2) (N := 6) (v := .ref (ad 3)) (by omega) cc_X2 rfl 4 (by decide) rfl inX2 ns_34 dX9_tell_129 ?_
                    refine getN C wd (k := 3) (Cn := RX6) (T := TX6) (N := 6) (v := .int (σ.1 97)) (by omega) cc_X6 rfl 1 (by decide) rfl inX6 ns_9 dX9_tell_132 ?_
                    exact retI C wd h dX9_tell_135
                  · skip
                    have h := h.2.2.2.2.2.2.2.2.2 c1 c2 c3 c4 c5 c6 c7 c8 c11
                    refine lv_tableD (tgt := 136) C dX9_tell_1 ?_ (by decide) ?_
                    · by_cases a1 : x1.toInt < 0
                      · exact Or.inl a1
                      by_cases a2 : 8 < x1.toInt
                      · exact Or.inr (Or.inl a2)
                      have b0 : x1.toInt ≠ 0 := fun q => c1 (Int32.toInt_inj.mp q)
                      have b1 : x1.toInt ≠ 1 := fun q => c2 (Int32.toInt_inj.mp q)
                      have b2 : x1.toInt ≠ 2 := fun q => c3 (Int32.toInt_inj.mp q)
                      have b3 : x1.toInt ≠ 3 := fun q => c4 (Int32.toInt_inj.mp q)
                      have b4 : x1.toInt ≠ 4 := fun q => c5 (Int32.toInt_inj.mp q)
                      have b5 : x1.toInt ≠ 5 := fun q => c6 (Int32.toInt_inj.mp q)
                      have b6 : x1.toInt ≠ 6 := fun q => c7 (Int32.toInt_inj.mp q)
                      have b7 : x1.toInt ≠ 7 := fun q => c8 (Int32.toInt_inj.mp q)
                      have b8 : x1.toInt ≠ 8 := fun q => c11 (Int32.toInt_inj.mp q)
                      exact absurd a1 (by omega)
                    · refine lv_aload_n hx hb dX9_tell_136 rfl (lv_at hl 0 rfl) ?_
                      refine getF C wd (k := 56) (Cn := RX9) (T := TX9) (N := 4) (v := .ref (ad 0)) (by omega) cc_X9 rfl 0 (by decide) rfl inX9 tw2_42 dX9_tell_137 ?_
                      refine getN C wd (k := 0) (Cn := RX2) (T := TX2) (N := 6) (v := .int (σ.1 1)) (by omega) cc_X2 rfl 1 (by decide) rfl inX2 ns_32 dX9_tell_140 ?_
                      exact retI C wd h dX9_tell_143
end
