section
variable {D : va_G} {cyI cyO : ClassId} {ad : Nat → Nat} {n : Nat}
abbrev rmX10_get : Room := rmOf 4 96
def wbX10_get_12 (Φ : Int32 → St → Prop) (σ : St) : Prop :=
  wpX10_bad σ (fun r2 t1 => Φ r2 t1)
set_option maxHeartbeats 4000000 in
set_option maxRecDepth 100000 in
theorem blX10_get_12 {p : Program} {l : Launch} {e : Env} {s : State} {m : MethodId} {args : Array Value} {below : List Frame} {meth : Method} {c : Code} (C : Cx p s m args meth c cX10_get 4 (some .int) RX10) {Φ : Int32 → St → Prop} {σ : St} {H : Heap} {locs : List Loc} {ls : Array Slot} (h : wbX10_get_12 Φ σ) (wd : gWd D (tyL cyI cyO) (mCell ad cyI cyO) ad 16 s H locs σ) (hl : lv_has ls 4 [(0, .ref (ad 0))]) : W p l e rmX10_get s m args below meth c H locs 0 0 (MQ below (gQi D (mCell ad cyI cyO) ad 16 s.heap.size Φ) args s 0 0 (gA ad 16 s.heap.size)) (F0 m 12 ls []) := by
  obtain ⟨hx, hb, hr, hml, hown, hts, hlk⟩ := id C
  unfold wbX10_get_12 at h
  refine lv_aload_n hx hb dX10_get_12 rfl (lv_at hl 0 rfl) ?_
  refine gCi wd (gRunV (y := yX10_bad) (k := 0) (As := []) (rest := []) C wd (cmX10_bad h) ⟨rfl, rfl⟩ gd_X10_87 nk_X10_bad ⟨Nat.le_of_ble_eq_true rfl, Nat.le_of_ble_eq_true rfl⟩ (by decide) mc_X10 rfl rfl hl.1 (Nat.le_of_ble_eq_true rfl) dX10_get_13 rfl) (fun r2 t1 H locs h wd => ?_)
  try dsimp only at h
  exact retI C wd h dX10_get_16
def wbX10_get_42 (Φ : Int32 → St → Prop) (x3 : Int32) (z1 : Int32) (z2 : Int32) (z3 : Int32) (σ : St) : Prop :=
  (vp_in z1 3 ∧ ∀ t2 : St, t2 = wr σ 13 z1 (z2 + z3) → wpX10_tells x3 t2 (fun r4 t3 => Φ r4 t3))
set_option maxHeartbeats 4000000 in
set_option maxRecDepth 100000 in
theorem blX10_get_42 {p : Program} {l : Launch} {e : Env} {s : State} {m : MethodId} {args : Array Value} {below : List Frame} {meth : Method} {c : Code} (C : Cx p s m args meth c cX10_get 4 (some .int) RX10) {Φ : Int32 → St → Prop} {x3 : Int32} {z1 : Int32} {z2 : Int32} {z3 : Int32} {σ : St} {H : Heap} {locs : List Loc} {ls : Array Slot} (h : wbX10_get_42 Φ x3 z1 z2 z3 σ) (wd : gWd D (tyL cyI cyO) (mCell ad cyI cyO) ad 16 s H locs σ) (hl : lv_has ls 4 [(0, .ref (ad 0)), (3, .int x3)]) : W p l e rmX10_get s m args below meth c H locs 0 0 (MQ below (gQi D (mCell ad cyI cyO) ad 16 s.heap.size Φ) args s 0 0 (gA ad 16 s.heap.size)) (F0 m 42 ls [.int z3, .int z2, .int z1, .ref (ad 13)]) := by
  obtain ⟨hx, hb, hr, hml, hown, hts, hlk⟩ := id C
  unfold wbX10_get_42 at h
  refine lv_iadd hx hb dX10_get_42 ?_
  obtain ⟨hi1, h⟩ := h
  refine stI C wd (k := 13) (N := 3) (by decide) mc_A13 ms_A13 hi1 dX10_get_43 (fun H locs wd => ?_)
  obtain ⟨t2, et2⟩ : ∃ z : St, z = wr σ 13 z1 (z2 + z3) := ⟨_, rfl⟩
  rw [← et2] at wd
  have h := h t2 et2
  refine lv_aload_n hx hb dX10_get_44 rfl (lv_at hl 0 rfl) ?_
  refine lv_iload_n hx hb dX10_get_45 rfl (lv_at hl 1 rfl) ?_
  refine gCi wd (gRunV (y := yX10_tells) (k := 0) (As := [.int x3]) (rest := []) C wd (cmX10_tells h) ⟨rfl, rfl⟩ gd_X10_107 nk_X10_tells ⟨Nat.le_of_ble_eq_true rfl, Nat.le_of_ble_eq_true rfl⟩ (by decide) mc_X10 rfl rfl hl.1 (Nat.le_of_ble_eq_true rfl) dX10_get_46 rfl) (fun r4 t3 H locs h wd => ?_)
  try dsimp only at h
  exact retI C wd h dX10_get_49
def wpX10_get (x1 : Int32) (x2 : Int32) (σ : St) (Φ : Int32 → St → Prop) : Prop :=
  wpX10_isClerk x1 σ (fun r2 t1 => ((r2 = 0 → wbX10_get_12 Φ t1) ∧ (¬ r2 = 0 → ((0 ≤ x2 → wpX10_gets x1 x2 t1 (fun r6 t5 => (vp_in (1 : Int32) 3 ∧ ((r6 = (-3 : Int32) → wbX10_get_42 Φ r6 (1 : Int32) (rd t5 13 (1 : Int32)) (1 : Int32) t5) ∧ (¬ r6 = (-3 : Int32) → wbX10_get_42 Φ r6 (1 : Int32) (rd t5 13 (1 : Int32)) (0 : Int32) t5))))) ∧ (¬ 0 ≤ x2 → wbX10_get_12 Φ t1)))))
set_option maxHeartbeats 4000000 in
set_option maxRecDepth 100000 in
theorem cmX10_get {D : va_G} {cyI cyO : ClassId} {ad : Nat → Nat} {l : Launch} {x1 : Int32} {x2 : Int32} {σ : St} {sz : Nat} {Φ : Int32 → St → Prop} (h : wpX10_get x1 x2 σ Φ) : gMet D (tyL cyI cyO) (mCell ad cyI cyO) ad 16 l yX10_get cX10_get 4 (some .int) rmX10_get [.ref (ad 0), .int x1, .int x2] σ sz (gQi D (mCell ad cyI cyO) ad 16 sz Φ) := by
  refine gMet.of (by decide) (Nat.le_of_ble_eq_true rfl) ?_
  intro p e s m below meth c ls hsz C hl wd
  subst hsz
  have C : Cx p s m _ meth c cX10_get 4 (some .int) RX10 := C
  obtain ⟨hx, hb, hr, hml, hown, hts, hlk⟩ := id C
  have hl : lv_has ls 4 [(0, .ref (ad 0)), (1, .int x1), (2, .int x2)] := hl
  unfold wpX10_get at h
  refine lv_aload_n hx hb dX10_get_0 rfl (lv_at hl 0 rfl) ?_
  refine lv_iload_n hx hb dX10_get_1 rfl (lv_at hl 1 rfl) ?_
  refine gCi wd (gRunV (y := yX10_isClerk) (k := 0) (As := [.int x1]) (rest := []) C wd (cmX10_isClerk h) ⟨rfl, rfl⟩ gd_X10_98 nk_X10_isClerk ⟨Nat.le_of_ble_eq_true rfl, Nat.le_of_ble_eq_true rfl⟩ (by decide) mc_X10 rfl rfl hl.1 (Nat.le_of_ble_eq_true rfl) dX10_get_2 rfl) (fun r2 t1 H locs h wd => ?_)
  try dsimp only at h
  refine lv_if_eq (tgt := 12) hx hb dX10_get_5 (by decide) (fun c3 => ?_) (fun c3 => ?_)
  · have h := h.1 c3
    exact blX10_get_12 C h wd (lv_sub hl [0] rfl)
  · have h := h.2 c3
    refine lv_iload_n hx hb dX10_get_8 rfl (lv_at hl 2 rfl) ?_
    refine lv_if_ge (tgt := 17) hx hb dX10_get_9 (by decide) (fun c4 => ?_) (fun c4 => ?_)
    · have h := h.1 c4
      refine lv_aload_n hx hb dX10_get_17 rfl (lv_at hl 0 rfl) ?_
      refine lv_iload_n hx hb dX10_get_18 rfl (lv_at hl 1 rfl) ?_
      refine lv_iload_n hx hb dX10_get_19 rfl (lv_at hl 2 rfl) ?_
      refine gCi wd (gRunV (y := yX10_gets) (k := 0) (As := [.int x1, .int x2]) (rest := []) C wd (cmX10_gets h) ⟨rfl, rfl⟩ gd_X10_128 nk_X10_gets ⟨Nat.le_of_ble_eq_true rfl, Nat.le_of_ble_eq_true rfl⟩ (by decide) mc_X10 rfl rfl hl.1 (Nat.le_of_ble_eq_true rfl) dX10_get_20 rfl) (fun r6 t5 H locs h wd => ?_)
      try dsimp only at h
      refine lv_istore_n (lv' := [(3, .int r6), (0, .ref (ad 0)), (1, .int x1), (2, .int x2)]) hx hb dX10_get_23 rfl hl (by decide) rfl (fun ls hl => ?_)
      refine lv_aload_n hx hb dX10_get_24 rfl (lv_at hl 1 rfl) ?_
      refine getF C wd (k := 0) (Cn := RX10) (T := TX10) (N := 26) (v := .ref (ad 13)) (by decide) mc_X10 rfl 17 (by decide) rfl inX10 tw4_43 dX10_get_25 ?_
      refine lv_iconst (v := (1 : Int32)) hx hb dX10_get_28 (by decide) ?_
      refine lv_dup2_11 hx hb dX10_get_29 rfl rfl ?_
      obtain ⟨hi7, h⟩ := h
      refine ldI C wd (k := 13) (N := 3) (by decide) mc_A13 hi7 dX10_get_30 ?_
      refine lv_iload_n hx hb dX10_get_31 rfl (lv_at hl 0 rfl) ?_
      refine lv_bipush (v := (-3 : Int32)) hx hb dX10_get_32 (by decide) ?_
      refine lv_icmp_ne (tgt := 41) hx hb dX10_get_34 (by decide) (fun c8 => ?_) (fun c8 => ?_)
      · have h := h.2 c8
        refine lv_iconst (v := (0 : Int32)) hx hb dX10_get_41 (by decide) ?_
        exact blX10_get_42 C h wd (lv_sub hl [1, 0] rfl)
      · have h := h.1 c8
        refine lv_iconst (v := (1 : Int32)) hx hb dX10_get_37 (by decide) ?_
        refine lv_goto (tgt := 42) hx hb dX10_get_38 (by decide) ?_
        exact blX10_get_42 C h wd (lv_sub hl [1, 0] rfl)
    · have h := h.2 c4
      exact blX10_get_12 C h wd (lv_sub hl [0] rfl)
abbrev rmX10_becomesWritten : Room := rmOf 0 0
def wbX10_becomesWritten_34 (Φ : Int32 → St → Prop) (x1 : Int32) (z1 : Int32) (z2 : Int32) (σ : St) : Prop :=
  (vp_in z1 5 ∧ ∀ t2 : St, t2 = wr σ 3 z1 z2 → (vp_in x1 5 ∧ Φ (rd t2 3 x1) t2))
set_option maxHeartbeats 4000000 in
set_option maxRecDepth 100000 in
theorem blX10_becomesWritten_34 {p : Program} {l : Launch} {e : Env} {s : State} {m : MethodId} {args : Array Value} {below : List Frame} {meth : Method} {c : Code} (C : Cx p s m args meth c cX10_becomesWritten 4 (some .int) RX10) {Φ : Int32 → St → Prop} {x1 : Int32} {z1 : Int32} {z2 : Int32} {σ : St} {H : Heap} {locs : List Loc} {ls : Array Slot} (h : wbX10_becomesWritten_34 Φ x1 z1 z2 σ) (wd : gWd D (tyL cyI cyO) (mCell ad cyI cyO) ad 16 s H locs σ) (hl : lv_has ls 4 [(0, .ref (ad 0)), (1, .int x1)]) : W p l e rmX10_becomesWritten s m args below meth c H locs 0 0 (MQ below (gQi D (mCell ad cyI cyO) ad 16 s.heap.size Φ) args s 0 0 (gA ad 16 s.heap.size)) (F0 m 34 ls [.int z2, .int z1, .ref (ad 3)]) := by
  obtain ⟨hx, hb, hr, hml, hown, hts, hlk⟩ := id C
  unfold wbX10_becomesWritten_34 at h
  obtain ⟨hi1, h⟩ := h
  refine stI C wd (k := 3) (N := 5) (by decide) mc_A3 ms_A3 hi1 dX10_becomesWritten_34 (fun H locs wd => ?_)
  obtain ⟨t2, et2⟩ : ∃ z : St, z = wr σ 3 z1 z2 := ⟨_, rfl⟩
  rw [← et2] at wd
  have h := h t2 et2
  refine lv_aload_n hx hb dX10_becomesWritten_35 rfl (lv_at hl 0 rfl) ?_
  refine getF C wd (k := 0) (Cn := RX10) (T := TX10) (N := 26) (v := .ref (ad 3)) (by decide) mc_X10 rfl 3 (by decide) rfl inX10 tw4_29 dX10_becomesWritten_36 ?_
  refine lv_iload_n hx hb dX10_becomesWritten_39 rfl (lv_at hl 1 rfl) ?_
  obtain ⟨hi3, h⟩ := h
  refine ldI C wd (k := 3) (N := 5) (by decide) mc_A3 hi3 dX10_becomesWritten_40 ?_
  exact retI C wd h dX10_becomesWritten_41
def wpX10_becomesWritten (x1 : Int32) (x2 : Int32) (σ : St) (Φ : Int32 → St → Prop) : Prop :=
  (vp_in x1 5 ∧ (∀ y2 : Int32, y2 = (rd σ 3 x1) + x2 → (vp_in x1 5 ∧ (((rd σ 2 x1) ≤ y2 → (vp_in x1 5 ∧ wbX10_becomesWritten_34 Φ x1 x1 (rd σ 2 x1) σ)) ∧ (¬ (rd σ 2 x1) ≤ y2 → wbX10_becomesWritten_34 Φ x1 x1 y2 σ)))))
set_option maxHeartbeats 4000000 in
set_option maxRecDepth 100000 in
theorem cmX10_becomesWritten {D : va_G} {cyI cyO : ClassId} {ad : Nat → Nat} {l : Launch} {x1 : Int32} {x2 : Int32} {σ : St} {sz : Nat} {Φ : Int32 → St → Prop} (h : wpX10_becomesWritten x1 x2 σ Φ) : gMet D (tyL cyI cyO) (mCell ad cyI cyO) ad 16 l yX10_becomesWritten cX10_becomesWritten 4 (some .int) rmX10_becomesWritten [.ref (ad 0), .int x1, .int x2] σ sz (gQi D (mCell ad cyI cyO) ad 16 sz Φ) := by
  refine gMet.of (by decide) (Nat.le_of_ble_eq_true rfl) ?_
  intro p e s m below meth c ls hsz C hl wd
  subst hsz
  have C : Cx p s m _ meth c cX10_becomesWritten 4 (some .int) RX10 := C
  obtain ⟨hx, hb, hr, hml, hown, hts, hlk⟩ := id C
  have hl : lv_has ls 4 [(0, .ref (ad 0)), (1, .int x1), (2, .int x2)] := hl
  unfold wpX10_becomesWritten at h
  refine lv_aload_n hx hb dX10_becomesWritten_0 rfl (lv_at hl 0 rfl) ?_
  refine getF C wd (k := 0) (Cn := RX10) (T := TX10) (N := 26) (v := .ref (ad 3)) (by decide) mc_X10 rfl 3 (by decide) rfl inX10 tw4_29 dX10_becomesWritten_1 ?_
  refine lv_iload_n hx hb dX10_becomesWritten_4 rfl (lv_at hl 1 rfl) ?_
  obtain ⟨hi1, h⟩ := h
  refine ldI C wd (k := 3) (N := 5) (by decide) mc_A3 hi1 dX10_becomesWritten_5 ?_
  refine lv_iload_n hx hb dX10_becomesWritten_6 rfl (lv_at hl 2 rfl) ?_
  refine lv_iadd hx hb dX10_becomesWritten_7 ?_
  refine lv_topi (fun y2 ey2 => ?_)
  have h := h y2 ey2
  refine lv_istore_n (lv' := [(3, .int y2), (0, .ref (ad 0)), (1, .int x1), (2, .int x2)]) hx hb dX10_becomesWritten_8 rfl hl (by decide) rfl (fun ls hl => ?_)
  refine lv_aload_n hx hb dX10_becomesWritten_9 rfl (lv_at hl 1 rfl) ?_
  refine getF C wd (k := 0) (Cn := RX10) (T := TX10) (N := 26) (v := .ref (ad 3)) (by decide) mc_X10 rfl 3 (by decide) rfl inX10 tw4_29 dX10_becomesWritten_10 ?_
  refine lv_iload_n hx hb dX10_becomesWritten_13 rfl (lv_at hl 2 rfl) ?_
  refine lv_iload_n hx hb dX10_becomesWritten_14 rfl (lv_at hl 0 rfl) ?_
  refine lv_aload_n hx hb dX10_becomesWritten_15 rfl (lv_at hl 1 rfl) ?_
  refine getF C wd (k := 0) (Cn := RX10) (T := TX10) (N := 26) (v := .ref (ad 2)) (by decide) mc_X10 rfl 2 (by decide) rfl inX10 tw4_28 dX10_becomesWritten_16 ?_
  refine lv_iload_n hx hb dX10_becomesWritten_19 rfl (lv_at hl 2 rfl) ?_
  obtain ⟨hi3, h⟩ := h
  refine ldI C wd (k := 2) (N := 5) (by decide) mc_A2 hi3 dX10_becomesWritten_20 ?_
  refine lv_icmp_ge (tgt := 28) hx hb dX10_becomesWritten_21 (by decide) (fun c4 => ?_) (fun c4 => ?_)
  · have h := h.1 c4
    refine lv_aload_n hx hb dX10_becomesWritten_28 rfl (lv_at hl 1 rfl) ?_
    refine getF C wd (k := 0) (Cn := RX10) (T := TX10) (N := 26) (v := .ref (ad 2)) (by decide) mc_X10 rfl 2 (by decide) rfl inX10 tw4_28 dX10_becomesWritten_29 ?_
    refine lv_iload_n hx hb dX10_becomesWritten_32 rfl (lv_at hl 2 rfl) ?_
    obtain ⟨hi5, h⟩ := h
    refine ldI C wd (k := 2) (N := 5) (by decide) mc_A2 hi5 dX10_becomesWritten_33 ?_
    exact blX10_becomesWritten_34 C h wd (lv_sub hl [1, 2] rfl)
  · have h := h.2 c4
    refine lv_iload_n hx hb dX10_becomesWritten_24 rfl (lv_at hl 0 rfl) ?_
    refine lv_goto (tgt := 34) hx hb dX10_becomesWritten_25 (by decide) ?_
    exact blX10_becomesWritten_34 C h wd (lv_sub hl [1, 2] rfl)
abbrev rmX10_writes : Room := rmOf 2 46
def wbX10_writes_29 (Φ : Int32 → St → Prop) (σ : St) : Prop :=
  wpX10_bad σ (fun r2 t1 => Φ r2 t1)
set_option maxHeartbeats 4000000 in
set_option maxRecDepth 100000 in
theorem blX10_writes_29 {p : Program} {l : Launch} {e : Env} {s : State} {m : MethodId} {args : Array Value} {below : List Frame} {meth : Method} {c : Code} (C : Cx p s m args meth c cX10_writes 3 (some .int) RX10) {Φ : Int32 → St → Prop} {σ : St} {H : Heap} {locs : List Loc} {ls : Array Slot} (h : wbX10_writes_29 Φ σ) (wd : gWd D (tyL cyI cyO) (mCell ad cyI cyO) ad 16 s H locs σ) (hl : lv_has ls 3 [(0, .ref (ad 0))]) : W p l e rmX10_writes s m args below meth c H locs 0 0 (MQ below (gQi D (mCell ad cyI cyO) ad 16 s.heap.size Φ) args s 0 0 (gA ad 16 s.heap.size)) (F0 m 29 ls []) := by
  obtain ⟨hx, hb, hr, hml, hown, hts, hlk⟩ := id C
  unfold wbX10_writes_29 at h
  refine lv_aload_n hx hb dX10_writes_29 rfl (lv_at hl 0 rfl) ?_
  refine gCi wd (gRunV (y := yX10_bad) (k := 0) (As := []) (rest := []) C wd (cmX10_bad h) ⟨rfl, rfl⟩ gd_X10_87 nk_X10_bad ⟨Nat.le_of_ble_eq_true rfl, Nat.le_of_ble_eq_true rfl⟩ (by decide) mc_X10 rfl rfl hl.1 (Nat.le_of_ble_eq_true rfl) dX10_writes_30 rfl) (fun r2 t1 H locs h wd => ?_)
  try dsimp only at h
  exact retI C wd h dX10_writes_33
def wpX10_writes (x1 : Int32) (x2 : Int32) (σ : St) (Φ : Int32 → St → Prop) : Prop :=
  wpX10_isClerk x1 σ (fun r2 t1 => ((r2 = 0 → wbX10_writes_29 Φ t1) ∧ (¬ r2 = 0 → wpX10_in x2.toInt64 (1 : Int64) (24 : Int64) t1 (fun r5 t4 => ((r5 = 0 → wbX10_writes_29 Φ t4) ∧ (¬ r5 = 0 → wpX10_becomesWritten x1 x2 t4 (fun r8 t7 => Φ r8 t7)))))))
set_option maxHeartbeats 4000000 in
set_option maxRecDepth 100000 in
theorem cmX10_writes {D : va_G} {cyI cyO : ClassId} {ad : Nat → Nat} {l : Launch} {x1 : Int32} {x2 : Int32} {σ : St} {sz : Nat} {Φ : Int32 → St → Prop} (h : wpX10_writes x1 x2 σ Φ) : gMet D (tyL cyI cyO) (mCell ad cyI cyO) ad 16 l yX10_writes cX10_writes 3 (some .int) rmX10_writes [.ref (ad 0), .int x1, .int x2] σ sz (gQi D (mCell ad cyI cyO) ad 16 sz Φ) := by
  refine gMet.of (by decide) (Nat.le_of_ble_eq_true rfl) ?_
  intro p e s m below meth c ls hsz C hl wd
  subst hsz
  have C : Cx p s m _ meth c cX10_writes 3 (some .int) RX10 := C
  obtain ⟨hx, hb, hr, hml, hown, hts, hlk⟩ := id C
  have hl : lv_has ls 3 [(0, .ref (ad 0)), (1, .int x1), (2, .int x2)] := hl
  unfold wpX10_writes at h
  refine lv_aload_n hx hb dX10_writes_0 rfl (lv_at hl 0 rfl) ?_
  refine lv_iload_n hx hb dX10_writes_1 rfl (lv_at hl 1 rfl) ?_
  refine gCi wd (gRunV (y := yX10_isClerk) (k := 0) (As := [.int x1]) (rest := []) C wd (cmX10_isClerk h) ⟨rfl, rfl⟩ gd_X10_98 nk_X10_isClerk ⟨Nat.le_of_ble_eq_true rfl, Nat.le_of_ble_eq_true rfl⟩ (by decide) mc_X10 rfl rfl hl.1 (Nat.le_of_ble_eq_true rfl) dX10_writes_2 rfl) (fun r2 t1 H locs h wd => ?_)
  try dsimp only at h
  refine lv_if_eq (tgt := 29) hx hb dX10_writes_5 (by decide) (fun c3 => ?_) (fun c3 => ?_)
  · have h := h.1 c3
    exact blX10_writes_29 C h wd (lv_sub hl [0] rfl)
  · have h := h.2 c3
    refine lv_iload_n hx hb dX10_writes_8 rfl (lv_at hl 2 rfl) ?_
    refine lv_i2l hx hb dX10_writes_9 rfl ?_
    refine lv_lconst (v := (1 : Int64)) hx hb dX10_writes_10 (by decide) ?_
    refine lv_ldc2 (v := (24 : Int64)) hx hb hown (hts _ tw4_183) dX10_writes_11 ?_
    refine gCi wd (gRunS (y := yX10_in) (As := [.long x2.toInt64, .long (1 : Int64), .long (24 : Int64)]) (rest := []) C wd (cmX10_in h) ⟨rfl, rfl⟩ gd_X10_59 nk_X10_in ⟨Nat.le_of_ble_eq_true rfl, Nat.le_of_ble_eq_true rfl⟩ hl.1 (Nat.le_of_ble_eq_true rfl) dX10_writes_14 rfl) (fun r5 t4 H locs h wd => ?_)
    try dsimp only at h
    refine lv_if_eq (tgt := 29) hx hb dX10_writes_17 (by decide) (fun c6 => ?_) (fun c6 => ?_)
    · have h := h.1 c6
      exact blX10_writes_29 C h wd (lv_sub hl [0] rfl)
    · have h := h.2 c6
      refine lv_aload_n hx hb dX10_writes_20 rfl (lv_at hl 0 rfl) ?_
      refine lv_iload_n hx hb dX10_writes_21 rfl (lv_at hl 1 rfl) ?_
      refine lv_iload_n hx hb dX10_writes_22 rfl (lv_at hl 2 rfl) ?_
      refine gCi wd (gRunV (y := yX10_becomesWritten) (k := 0) (As := [.int x1, .int x2]) (rest := []) C wd (cmX10_becomesWritten h) ⟨rfl, rfl⟩ gd_X10_133 nk_X10_becomesWritten ⟨Nat.le_of_ble_eq_true rfl, Nat.le_of_ble_eq_true rfl⟩ (by decide) mc_X10 rfl rfl hl.1 (Nat.le_of_ble_eq_true rfl) dX10_writes_23 rfl) (fun r8 t7 H locs h wd => ?_)
      try dsimp only at h
      refine lv_goto (tgt := 33) hx hb dX10_writes_26 (by decide) ?_
      exact retI C wd h dX10_writes_33
abbrev rmX10_isDeadPage : Room := rmOf 2 43
def wbX10_isDeadPage_56 (Φ : Int32 → St → Prop) (k_5 : Int32 → Int32 → Int32 → Int32 → St → Prop) (x1 : Int32) (x2 : Int32) (x4 : Int32) (z0 : Int32) (σ : St) : Prop :=
  (∀ y1 : Int32, y1 = x4 + (1 : Int32) → k_5 x1 x2 z0 y1 σ)
set_option maxHeartbeats 4000000 in
set_option maxRecDepth 100000 in
theorem blX10_isDeadPage_56 {p : Program} {l : Launch} {e : Env} {s : State} {m : MethodId} {args : Array Value} {below : List Frame} {meth : Method} {c : Code} (C : Cx p s m args meth c cX10_isDeadPage 5 (some .boolean) RX10) {Φ : Int32 → St → Prop} {k_5 : Int32 → Int32 → Int32 → Int32 → St → Prop} (hk_5 : ∀ (x1 : Int32) (x2 : Int32) (x3 : Int32) (x4 : Int32) (σ : St) (H : Heap) (locs : List Loc) (ls : Array Slot), k_5 x1 x2 x3 x4 σ → gWd D (tyL cyI cyO) (mCell ad cyI cyO) ad 16 s H locs σ → lv_has ls 5 [(0, .ref (ad 0)), (1, .int x1), (2, .int x2), (3, .int x3), (4, .int x4)] → W p l e rmX10_isDeadPage s m args below meth c H locs 0 0 (MQ below (gQi D (mCell ad cyI cyO) ad 16 s.heap.size Φ) args s 0 0 (gA ad 16 s.heap.size)) (F0 m 5 ls [])) {x1 : Int32} {x2 : Int32} {x4 : Int32} {z0 : Int32} {σ : St} {H : Heap} {locs : List Loc} {ls : Array Slot} (h : wbX10_isDeadPage_56 Φ k_5 x1 x2 x4 z0 σ) (wd : gWd D (tyL cyI cyO) (mCell ad cyI cyO) ad 16 s H locs σ) (hl : lv_has ls 5 [(0, .ref (ad 0)), (1, .int x1), (2, .int x2), (4, .int x4)]) : W p l e rmX10_isDeadPage s m args below meth c H locs 0 0 (MQ below (gQi D (mCell ad cyI cyO) ad 16 s.heap.size Φ) args s 0 0 (gA ad 16 s.heap.size)) (F0 m 56 ls [.int z0]) := by
  obtain ⟨hx, hb, hr, hml, hown, hts, hlk⟩ := id C
  unfold wbX10_isDeadPage_56 at h
  refine lv_istore_n (lv' := [(3, .int z0), (0, .ref (ad 0)), (1, .int x1), (2, .int x2), (4, .int x4)]) hx hb dX10_isDeadPage_56 rfl hl (by decide) rfl (fun ls hl => ?_)
  obtain ⟨y1, ey1⟩ : ∃ y : Int32, y = x4 + (1 : Int32) := ⟨_, rfl⟩
  refine lv_iinc (v := y1) (lv' := [(4, .int y1), (3, .int z0), (0, .ref (ad 0)), (1, .int x1), (2, .int x2)]) hx hb dX10_isDeadPage_57 hl (k := 4) rfl (by rw [ey1]; rfl) (by decide) rfl (fun ls hl => ?_)
  have h := h y1 ey1
  refine lv_goto (tgt := 5) hx hb dX10_isDeadPage_60 (by decide) ?_
  exact hk_5 _ _ _ _ _ _ _ _ h wd (lv_sub hl [2, 3, 4, 1, 0] rfl)
def wlX10_isDeadPage_5_body (Φ : Int32 → St → Prop) (k_5 : Int32 → Int32 → Int32 → Int32 → St → Prop) (x1 : Int32) (x2 : Int32) (x3 : Int32) (x4 : Int32) (σ : St) : Prop :=
  (((σ.1 0) ≤ x4 → (narrow .boolean (.int x3) = .int x3 ∧ Φ x3 σ)) ∧ (¬ (σ.1 0) ≤ x4 → ((x3 = 0 → wpX10_restOf x1 x2 x4 σ (fun r4 t3 => (vp_in r4 600 ∧ wpX10_restOf x1 x2 x4 t3 (fun r7 t6 => (vp_in r7 600 ∧ wpX10_isDead x4 (rd t3 8 r4) (rd t6 9 r7) t6 (fun r10 t9 => ((r10 = 0 → wbX10_isDeadPage_56 Φ k_5 x1 x2 x4 (0 : Int32) t9) ∧ (¬ r10 = 0 → wbX10_isDeadPage_56 Φ k_5 x1 x2 x4 (1 : Int32) t9)))))))) ∧ (¬ x3 = 0 → wbX10_isDeadPage_56 Φ k_5 x1 x2 x4 (1 : Int32) σ))))
def wlX10_isDeadPage_5 (Φ : Int32 → St → Prop) : Nat → Int32 → Int32 → Int32 → Int32 → St → Prop
  | 0 => fun _ _ _ _ _ => False
  | N + 1 => fun x1 x2 x3 x4 σ => wlX10_isDeadPage_5_body Φ (wlX10_isDeadPage_5 Φ N) x1 x2 x3 x4 σ
set_option maxHeartbeats 4000000 in
set_option maxRecDepth 100000 in
theorem llX10_isDeadPage_5 {p : Program} {l : Launch} {e : Env} {s : State} {m : MethodId} {args : Array Value} {below : List Frame} {meth : Method} {c : Code} (C : Cx p s m args meth c cX10_isDeadPage 5 (some .boolean) RX10) {Φ : Int32 → St → Prop} : ∀ (N : Nat) (x1 : Int32) (x2 : Int32) (x3 : Int32) (x4 : Int32) (σ : St) (H : Heap) (locs : List Loc) (ls : Array Slot), wlX10_isDeadPage_5 Φ N x1 x2 x3 x4 σ → gWd D (tyL cyI cyO) (mCell ad cyI cyO) ad 16 s H locs σ → lv_has ls 5 [(0, .ref (ad 0)), (1, .int x1), (2, .int x2), (3, .int x3), (4, .int x4)] → W p l e rmX10_isDeadPage s m args below meth c H locs 0 0 (MQ below (gQi D (mCell ad cyI cyO) ad 16 s.heap.size Φ) args s 0 0 (gA ad 16 s.heap.size)) (F0 m 5 ls []) := by
  obtain ⟨hx, hb, hr, hml, hown, hts, hlk⟩ := id C
  intro N
  induction N with
  | zero =>
    intro x1 x2 x3 x4 σ H locs ls h
    exact False.elim h
  | succ N ih =>
    intro x1 x2 x3 x4 σ H locs ls h wd hl
    have h : wlX10_isDeadPage_5_body Φ (wlX10_isDeadPage_5 Φ N) x1 x2 x3 x4 σ := h
    have hk_5 := ih
    unfold wlX10_isDeadPage_5_body at h
    refine lv_iload hx hb dX10_isDeadPage_5 (lv_at hl 4 rfl) ?_
    refine lv_aload_n hx hb dX10_isDeadPage_7 rfl (lv_at hl 0 rfl) ?_
    refine getF C wd (k := 0) (Cn := RX10) (T := TX10) (N := 26) (v := .int (σ.1 0)) (by decide) mc_X10 rfl 0 (by decide) rfl inX10 tw4_26 dX10_isDeadPage_8 ?_
    refine lv_icmp_ge (tgt := 63) hx hb dX10_isDeadPage_11 (by decide) (fun c1 => ?_) (fun c1 => ?_)
    · have h := h.1 c1
      refine lv_iload_n hx hb dX10_isDeadPage_63 rfl (lv_at hl 3 rfl) ?_
      exact retZ C wd h.1 h.2 dX10_isDeadPage_64
    · have h := h.2 c1
      refine lv_iload_n hx hb dX10_isDeadPage_14 rfl (lv_at hl 3 rfl) ?_
      refine lv_if_ne (tgt := 51) hx hb dX10_isDeadPage_15 (by decide) (fun c2 => ?_) (fun c2 => ?_)
      · have h := h.2 c2
        refine lv_iconst (v := (1 : Int32)) hx hb dX10_isDeadPage_51 (by decide) ?_
        refine lv_goto (tgt := 56) hx hb dX10_isDeadPage_52 (by decide) ?_
        exact blX10_isDeadPage_56 C hk_5 h wd (lv_sub hl [0, 1, 2, 4] rfl)
      · have h := h.1 c2
        refine lv_aload_n hx hb dX10_isDeadPage_18 rfl (lv_at hl 0 rfl) ?_
        refine lv_iload hx hb dX10_isDeadPage_19 (lv_at hl 4 rfl) ?_
        refine lv_aload_n hx hb dX10_isDeadPage_21 rfl (lv_at hl 0 rfl) ?_
        refine getF C wd (k := 0) (Cn := RX10) (T := TX10) (N := 26) (v := .ref (ad 8)) (by decide) mc_X10 rfl 8 (by decide) rfl inX10 tw4_34 dX10_isDeadPage_22 ?_
        refine lv_iload_n hx hb dX10_isDeadPage_25 rfl (lv_at hl 1 rfl) ?_
        refine lv_iload_n hx hb dX10_isDeadPage_26 rfl (lv_at hl 2 rfl) ?_
        refine lv_iload hx hb dX10_isDeadPage_27 (lv_at hl 4 rfl) ?_
        refine gCi wd (gRunS (y := yX10_restOf) (As := [.int x1, .int x2, .int x4]) (rest := [.ref (ad 8), .int x4, .ref (ad 0)]) C wd (cmX10_restOf h) ⟨rfl, rfl⟩ gd_X10_67 nk_X10_restOf ⟨Nat.le_of_ble_eq_true rfl, Nat.le_of_ble_eq_true rfl⟩ hl.1 (Nat.le_of_ble_eq_true rfl) dX10_isDeadPage_29 rfl) (fun r4 t3 H locs h wd => ?_)
        try dsimp only at h
        obtain ⟨hi5, h⟩ := h
        refine ldI C wd (k := 8) (N := 600) (by decide) mc_A8 hi5 dX10_isDeadPage_32 ?_
        refine lv_aload_n hx hb dX10_isDeadPage_33 rfl (lv_at hl 0 rfl) ?_
        refine getF C wd (k := 0) (Cn := RX10) (T := TX10) (N := 26) (v := .ref (ad 9)) (by decide) mc_X10 rfl 9 (by decide) rfl inX10 tw4_35 dX10_isDeadPage_34 ?_
        refine lv_iload_n hx hb dX10_isDeadPage_37 rfl (lv_at hl 1 rfl) ?_
        refine lv_iload_n hx hb dX10_isDeadPage_38 rfl (lv_at hl 2 rfl) ?_
        refine lv_iload hx hb dX10_isDeadPage_39 (lv_at hl 4 rfl) ?_
        refine gCi wd (gRunS (y := yX10_restOf) (As := [.int x1, .int x2, .int x4]) (rest := [.ref (ad 9), .int (rd t3 8 r4), .int x4, .ref (ad 0)]) C wd (cmX10_restOf h) ⟨rfl, rfl⟩ gd_X10_67 nk_X10_restOf ⟨Nat.le_of_ble_eq_true rfl, Nat.le_of_ble_eq_true rfl⟩ hl.1 (Nat.le_of_ble_eq_true rfl) dX10_isDeadPage_41 rfl) (fun r7 t6 H locs h wd => ?_)
        try dsimp only at h
        obtain ⟨hi8, h⟩ := h
        refine ldI C wd (k := 9) (N := 600) (by decide) mc_A9 hi8 dX10_isDeadPage_44 ?_
        refine gCi wd (gRunV (y := yX10_isDead) (k := 0) (As := [.int x4, .int (rd t3 8 r4), .int (rd t6 9 r7)]) (rest := []) C wd (cmX10_isDead h) ⟨rfl, rfl⟩ gd_X10_114 nk_X10_isDead ⟨Nat.le_of_ble_eq_true rfl, Nat.le_of_ble_eq_true rfl⟩ (by decide) mc_X10 rfl rfl hl.1 (Nat.le_of_ble_eq_true rfl) dX10_isDeadPage_45 rfl) (fun r10 t9 H locs h wd => ?_)
        try dsimp only at h
        refine lv_if_eq (tgt := 55) hx hb dX10_isDeadPage_48 (by decide) (fun c11 => ?_) (fun c11 => ?_)
        · have h := h.1 c11
          refine lv_iconst (v := (0 : Int32)) hx hb dX10_isDeadPage_55 (by decide) ?_
          exact blX10_isDeadPage_56 C hk_5 h wd (lv_sub hl [0, 1, 2, 4] rfl)
        · have h := h.2 c11
          refine lv_iconst (v := (1 : Int32)) hx hb dX10_isDeadPage_51 (by decide) ?_
          refine lv_goto (tgt := 56) hx hb dX10_isDeadPage_52 (by decide) ?_
          exact blX10_isDeadPage_56 C hk_5 h wd (lv_sub hl [0, 1, 2, 4] rfl)
def wpX10_isDeadPage (x1 : Int32) (x2 : Int32) (σ : St) (Φ : Int32 → St → Prop) : Prop :=
  (∃ N, wlX10_isDeadPage_5 Φ N x1 x2 (0 : Int32) (0 : Int32) σ)
set_option maxHeartbeats 4000000 in
set_option maxRecDepth 100000 in
theorem cmX10_isDeadPage {D : va_G} {cyI cyO : ClassId} {ad : Nat → Nat} {l : Launch} {x1 : Int32} {x2 : Int32} {σ : St} {sz : Nat} {Φ : Int32 → St → Prop} (h : wpX10_isDeadPage x1 x2 σ Φ) : gMet D (tyL cyI cyO) (mCell ad cyI cyO) ad 16 l yX10_isDeadPage cX10_isDeadPage 5 (some .boolean) rmX10_isDeadPage [.ref (ad 0), .int x1, .int x2] σ sz (gQi D (mCell ad cyI cyO) ad 16 sz Φ) := by
  refine gMet.of (by decide) (Nat.le_of_ble_eq_true rfl) ?_
  intro p e s m below meth c ls hsz C hl wd
  subst hsz
  have C : Cx p s m _ meth c cX10_isDeadPage 5 (some .boolean) RX10 := C
  obtain ⟨hx, hb, hr, hml, hown, hts, hlk⟩ := id C
  have hl : lv_has ls 5 [(0, .ref (ad 0)), (1, .int x1), (2, .int x2)] := hl
  unfold wpX10_isDeadPage at h
  refine lv_iconst (v := (0 : Int32)) hx hb dX10_isDeadPage_0 (by decide) ?_
  refine lv_istore_n (lv' := [(3, .int (0 : Int32)), (0, .ref (ad 0)), (1, .int x1), (2, .int x2)]) hx hb dX10_isDeadPage_1 rfl hl (by decide) rfl (fun ls hl => ?_)
  refine lv_iconst (v := (0 : Int32)) hx hb dX10_isDeadPage_2 (by decide) ?_
  refine lv_istore (lv' := [(4, .int (0 : Int32)), (3, .int (0 : Int32)), (0, .ref (ad 0)), (1, .int x1), (2, .int x2)]) hx hb dX10_isDeadPage_3 hl (by decide) rfl (fun ls hl => ?_)
  obtain ⟨N, h⟩ := h
  exact llX10_isDeadPage_5 C N _ _ _ _ _ _ _ _ h wd (lv_sub hl [2, 3, 4, 1, 0] rfl)
abbrev rmX10_firstDead : Room := rmOf 3 67
def wbX10_firstDead_32 (Φ : Int32 → St → Prop) (x1 : Int32) (x2 : Int32) (σ : St) : Prop :=
  (vp_in x1 5 ∧ (((rd σ 2 x1) < x2 → Φ (-1 : Int32) σ) ∧ (¬ (rd σ 2 x1) < x2 → Φ x2 σ)))
set_option maxHeartbeats 4000000 in
set_option maxRecDepth 100000 in
theorem blX10_firstDead_32 {p : Program} {l : Launch} {e : Env} {s : State} {m : MethodId} {args : Array Value} {below : List Frame} {meth : Method} {c : Code} (C : Cx p s m args meth c cX10_firstDead 3 (some .int) RX10) {Φ : Int32 → St → Prop} {x1 : Int32} {x2 : Int32} {σ : St} {H : Heap} {locs : List Loc} {ls : Array Slot} (h : wbX10_firstDead_32 Φ x1 x2 σ) (wd : gWd D (tyL cyI cyO) (mCell ad cyI cyO) ad 16 s H locs σ) (hl : lv_has ls 3 [(0, .ref (ad 0)), (1, .int x1), (2, .int x2)]) : W p l e rmX10_firstDead s m args below meth c H locs 0 0 (MQ below (gQi D (mCell ad cyI cyO) ad 16 s.heap.size Φ) args s 0 0 (gA ad 16 s.heap.size)) (F0 m 32 ls []) := by
  obtain ⟨hx, hb, hr, hml, hown, hts, hlk⟩ := id C
  unfold wbX10_firstDead_32 at h
  refine lv_iload_n hx hb dX10_firstDead_32 rfl (lv_at hl 2 rfl) ?_
  refine lv_aload_n hx hb dX10_firstDead_33 rfl (lv_at hl 0 rfl) ?_
  refine getF C wd (k := 0) (Cn := RX10) (T := TX10) (N := 26) (v := .ref (ad 2)) (by decide) mc_X10 rfl 2 (by decide) rfl inX10 tw4_28 dX10_firstDead_34 ?_
  refine lv_iload_n hx hb dX10_firstDead_37 rfl (lv_at hl 1 rfl) ?_
  obtain ⟨hi1, h⟩ := h
  refine ldI C wd (k := 2) (N := 5) (by decide) mc_A2 hi1 dX10_firstDead_38 ?_
  refine lv_icmp_gt (tgt := 46) hx hb dX10_firstDead_39 (by decide) (fun c2 => ?_) (fun c2 => ?_)
  · have h := h.1 c2
    refine lv_iconst (v := (-1 : Int32)) hx hb dX10_firstDead_46 (by decide) ?_
    exact retI C wd h dX10_firstDead_47
  · have h := h.2 c2
    refine lv_iload_n hx hb dX10_firstDead_42 rfl (lv_at hl 2 rfl) ?_
    refine lv_goto (tgt := 47) hx hb dX10_firstDead_43 (by decide) ?_
    exact retI C wd h dX10_firstDead_47
def wlX10_firstDead_7_body (Φ : Int32 → St → Prop) (k_7 : Int32 → Int32 → St → Prop) (x1 : Int32) (x2 : Int32) (σ : St) : Prop :=
  (vp_in x1 5 ∧ (((rd σ 2 x1) < x2 → wbX10_firstDead_32 Φ x1 x2 σ) ∧ (¬ (rd σ 2 x1) < x2 → wpX10_isDeadPage x1 x2 σ (fun r4 t3 => ((r4 = 0 → (∀ y6 : Int32, y6 = x2 + (1 : Int32) → k_7 x1 y6 t3)) ∧ (¬ r4 = 0 → wbX10_firstDead_32 Φ x1 x2 t3))))))
def wlX10_firstDead_7 (Φ : Int32 → St → Prop) : Nat → Int32 → Int32 → St → Prop
  | 0 => fun _ _ _ => False
  | N + 1 => fun x1 x2 σ => wlX10_firstDead_7_body Φ (wlX10_firstDead_7 Φ N) x1 x2 σ
set_option maxHeartbeats 4000000 in
set_option maxRecDepth 100000 in
theorem llX10_firstDead_7 {p : Program} {l : Launch} {e : Env} {s : State} {m : MethodId} {args : Array Value} {below : List Frame} {meth : Method} {c : Code} (C : Cx p s m args meth c cX10_firstDead 3 (some .int) RX10) {Φ : Int32 → St → Prop} : ∀ (N : Nat) (x1 : Int32) (x2 : Int32) (σ : St) (H : Heap) (locs : List Loc) (ls : Array Slot), wlX10_firstDead_7 Φ N x1 x2 σ → gWd D (tyL cyI cyO) (mCell ad cyI cyO) ad 16 s H locs σ → lv_has ls 3 [(0, .ref (ad 0)), (1, .int x1), (2, .int x2)] → W p l e rmX10_firstDead s m args below meth c H locs 0 0 (MQ below (gQi D (mCell ad cyI cyO) ad 16 s.heap.size Φ) args s 0 0 (gA ad 16 s.heap.size)) (F0 m 7 ls []) := by
  obtain ⟨hx, hb, hr, hml, hown, hts, hlk⟩ := id C
  intro N
  induction N with
  | zero =>
    intro x1 x2 σ H locs ls h
    exact False.elim h
  | succ N ih =>
    intro x1 x2 σ H locs ls h wd hl
    have h : wlX10_firstDead_7_body Φ (wlX10_firstDead_7 Φ N) x1 x2 σ := h
    have hk_7 := ih
    unfold wlX10_firstDead_7_body at h
    refine lv_iload_n hx hb dX10_firstDead_7 rfl (lv_at hl 2 rfl) ?_
    refine lv_aload_n hx hb dX10_firstDead_8 rfl (lv_at hl 0 rfl) ?_
    refine getF C wd (k := 0) (Cn := RX10) (T := TX10) (N := 26) (v := .ref (ad 2)) (by decide) mc_X10 rfl 2 (by decide) rfl inX10 tw4_28 dX10_firstDead_9 ?_
    refine lv_iload_n hx hb dX10_firstDead_12 rfl (lv_at hl 1 rfl) ?_
    obtain ⟨hi1, h⟩ := h
    refine ldI C wd (k := 2) (N := 5) (by decide) mc_A2 hi1 dX10_firstDead_13 ?_
    refine lv_icmp_gt (tgt := 32) hx hb dX10_firstDead_14 (by decide) (fun c2 => ?_) (fun c2 => ?_)
    · have h := h.1 c2
      exact blX10_firstDead_32 C h wd (lv_sub hl [0, 1, 2] rfl)
    · have h := h.2 c2
      refine lv_aload_n hx hb dX10_firstDead_17 rfl (lv_at hl 0 rfl) ?_
      refine lv_iload_n hx hb dX10_firstDead_18 rfl (lv_at hl 1 rfl) ?_
      refine lv_iload_n hx hb dX10_firstDead_19 rfl (lv_at hl 2 rfl) ?_
      refine gCi wd (gRunV (y := yX10_isDeadPage) (k := 0) (As := [.int x1, .int x2]) (rest := []) C wd (cmX10_isDeadPage h) ⟨rfl, rfl⟩ gd_X10_136 nk_X10_isDeadPage ⟨Nat.le_of_ble_eq_true rfl, Nat.le_of_ble_eq_true rfl⟩ (by decide) mc_X10 rfl rfl hl.1 (Nat.le_of_ble_eq_true rfl) dX10_firstDead_20 rfl) (fun r4 t3 H locs h wd => ?_)
      try dsimp only at h
      refine lv_if_ne (tgt := 32) hx hb dX10_firstDead_23 (by decide) (fun c5 => ?_) (fun c5 => ?_)
      · have h := h.2 c5
        exact blX10_firstDead_32 C h wd (lv_sub hl [0, 1, 2] rfl)
      · have h := h.1 c5
        obtain ⟨y6, ey6⟩ : ∃ y : Int32, y = x2 + (1 : Int32) := ⟨_, rfl⟩
        refine lv_iinc (v := y6) (lv' := [(2, .int y6), (0, .ref (ad 0)), (1, .int x1)]) hx hb dX10_firstDead_26 hl (k := 2) rfl (by rw [ey6]; rfl) (by decide) rfl (fun ls hl => ?_)
        have h := h y6 ey6
        refine lv_goto (tgt := 7) hx hb dX10_firstDead_29 (by decide) ?_
        exact hk_7 _ _ _ _ _ _ h wd (lv_sub hl [1, 2, 0] rfl)
def wpX10_firstDead (x1 : Int32) (σ : St) (Φ : Int32 → St → Prop) : Prop :=
  (vp_in x1 5 ∧ (∀ y2 : Int32, y2 = rd σ 4 x1 → (∃ N, wlX10_firstDead_7 Φ N x1 y2 σ)))
set_option maxHeartbeats 4000000 in
set_option maxRecDepth 100000 in
theorem cmX10_firstDead {D : va_G} {cyI cyO : ClassId} {ad : Nat → Nat} {l : Launch} {x1 : Int32} {σ : St} {sz : Nat} {Φ : Int32 → St → Prop} (h : wpX10_firstDead x1 σ Φ) : gMet D (tyL cyI cyO) (mCell ad cyI cyO) ad 16 l yX10_firstDead cX10_firstDead 3 (some .int) rmX10_firstDead [.ref (ad 0), .int x1] σ sz (gQi D (mCell ad cyI cyO) ad 16 sz Φ) := by
  refine gMet.of (by decide) (Nat.le_of_ble_eq_true rfl) ?_
  intro p e s m below meth c ls hsz C hl wd
  subst hsz
  have C : Cx p s m _ meth c cX10_firstDead 3 (some .int) RX10 := C
  obtain ⟨hx, hb, hr, hml, hown, hts, hlk⟩ := id C
  have hl : lv_has ls 3 [(0, .ref (ad 0)), (1, .int x1)] := hl
  unfold wpX10_firstDead at h
  refine lv_aload_n hx hb dX10_firstDead_0 rfl (lv_at hl 0 rfl) ?_
  refine getF C wd (k := 0) (Cn := RX10) (T := TX10) (N := 26) (v := .ref (ad 4)) (by decide) mc_X10 rfl 4 (by decide) rfl inX10 tw4_30 dX10_firstDead_1 ?_
  refine lv_iload_n hx hb dX10_firstDead_4 rfl (lv_at hl 1 rfl) ?_
  obtain ⟨hi1, h⟩ := h
  refine ldI C wd (k := 4) (N := 5) (by decide) mc_A4 hi1 dX10_firstDead_5 ?_
  refine lv_topi (fun y2 ey2 => ?_)
  have h := h y2 ey2
  refine lv_istore_n (lv' := [(2, .int y2), (0, .ref (ad 0)), (1, .int x1)]) hx hb dX10_firstDead_6 rfl hl (by decide) rfl (fun ls hl => ?_)
  obtain ⟨N, h⟩ := h
  exact llX10_firstDead_7 C N _ _ _ _ _ _ h wd (lv_sub hl [1, 2, 0] rfl)
abbrev rmX10_falls : Room := rmOf 0 0
def wbX10_falls_69 (Φ : Int32 → St → Prop) (x3 : Int32) (z1 : Int32) (z2 : Int32) (σ : St) : Prop :=
  (vp_in z1 5 ∧ ∀ t2 : St, t2 = wr σ 3 z1 z2 → Φ x3 t2)
set_option maxHeartbeats 4000000 in
set_option maxRecDepth 100000 in
theorem blX10_falls_69 {p : Program} {l : Launch} {e : Env} {s : State} {m : MethodId} {args : Array Value} {below : List Frame} {meth : Method} {c : Code} (C : Cx p s m args meth c cX10_falls 4 (some .int) RX10) {Φ : Int32 → St → Prop} {x3 : Int32} {z1 : Int32} {z2 : Int32} {σ : St} {H : Heap} {locs : List Loc} {ls : Array Slot} (h : wbX10_falls_69 Φ x3 z1 z2 σ) (wd : gWd D (tyL cyI cyO) (mCell ad cyI cyO) ad 16 s H locs σ) (hl : lv_has ls 4 [(3, .int x3)]) : W p l e rmX10_falls s m args below meth c H locs 0 0 (MQ below (gQi D (mCell ad cyI cyO) ad 16 s.heap.size Φ) args s 0 0 (gA ad 16 s.heap.size)) (F0 m 69 ls [.int z2, .int z1, .ref (ad 3)]) := by
  obtain ⟨hx, hb, hr, hml, hown, hts, hlk⟩ := id C
  unfold wbX10_falls_69 at h
  obtain ⟨hi1, h⟩ := h
  refine stI C wd (k := 3) (N := 5) (by decide) mc_A3 ms_A3 hi1 dX10_falls_69 (fun H locs wd => ?_)
  obtain ⟨t2, et2⟩ : ∃ z : St, z = wr σ 3 z1 z2 := ⟨_, rfl⟩
  rw [← et2] at wd
  have h := h t2 et2
  refine lv_iload_n hx hb dX10_falls_70 rfl (lv_at hl 0 rfl) ?_
  exact retI C wd h dX10_falls_71
def wpX10_falls (x1 : Int32) (x2 : Int32) (σ : St) (Φ : Int32 → St → Prop) : Prop :=
  (vp_in x1 5 ∧ (∀ y2 : Int32, y2 = (rd σ 2 x1) - x2 → (vp_in x1 5 ∧ ∀ t4 : St, t4 = wr σ 2 x1 x2 → (vp_in x1 5 ∧ (vp_in (((128 : Int32) * x1) + (rd t4 1 x1)) 640 ∧ ∀ t7 : St, t7 = wr t4 5 (((128 : Int32) * x1) + (rd t4 1 x1)) x2 → (vp_in x1 5 ∧ (vp_in x1 5 ∧ ∀ t10 : St, t10 = wr t7 1 x1 ((rd t7 1 x1) + (1 : Int32)) → (vp_in x1 5 ∧ ((x2 ≤ (rd t10 3 x1) → wbX10_falls_69 Φ y2 x1 x2 t10) ∧ (¬ x2 ≤ (rd t10 3 x1) → (vp_in x1 5 ∧ wbX10_falls_69 Φ y2 x1 (rd t10 3 x1) t10)))))))))))
set_option maxHeartbeats 4000000 in
set_option maxRecDepth 100000 in
theorem cmX10_falls {D : va_G} {cyI cyO : ClassId} {ad : Nat → Nat} {l : Launch} {x1 : Int32} {x2 : Int32} {σ : St} {sz : Nat} {Φ : Int32 → St → Prop} (h : wpX10_falls x1 x2 σ Φ) : gMet D (tyL cyI cyO) (mCell ad cyI cyO) ad 16 l yX10_falls cX10_falls 4 (some .int) rmX10_falls [.ref (ad 0), .int x1, .int x2] σ sz (gQi D (mCell ad cyI cyO) ad 16 sz Φ) := by
  refine gMet.of (by decide) (Nat.le_of_ble_eq_true rfl) ?_
  intro p e s m below meth c ls hsz C hl wd
  subst hsz
  have C : Cx p s m _ meth c cX10_falls 4 (some .int) RX10 := C
  obtain ⟨hx, hb, hr, hml, hown, hts, hlk⟩ := id C
  have hl : lv_has ls 4 [(0, .ref (ad 0)), (1, .int x1), (2, .int x2)] := hl
  unfold wpX10_falls at h
  refine lv_aload_n hx hb dX10_falls_0 rfl (lv_at hl 0 rfl) ?_
  refine getF C wd (k := 0) (Cn := RX10) (T := TX10) (N := 26) (v := .ref (ad 2)) (by decide) mc_X10 rfl 2 (by decide) rfl inX10 tw4_28 dX10_falls_1 ?_
  refine lv_iload_n hx hb dX10_falls_4 rfl (lv_at hl 1 rfl) ?_
  obtain ⟨hi1, h⟩ := h
  refine ldI C wd (k := 2) (N := 5) (by decide) mc_A2 hi1 dX10_falls_5 ?_
  refine lv_iload_n hx hb dX10_falls_6 rfl (lv_at hl 2 rfl) ?_
  refine lv_isub hx hb dX10_falls_7 ?_
  refine lv_topi (fun y2 ey2 => ?_)
  have h := h y2 ey2
  refine lv_istore_n (lv' := [(3, .int y2), (0, .ref (ad 0)), (1, .int x1), (2, .int x2)]) hx hb dX10_falls_8 rfl hl (by decide) rfl (fun ls hl => ?_)
  refine lv_aload_n hx hb dX10_falls_9 rfl (lv_at hl 1 rfl) ?_
  refine getF C wd (k := 0) (Cn := RX10) (T := TX10) (N := 26) (v := .ref (ad 2)) (by decide) mc_X10 rfl 2 (by decide) rfl inX10 tw4_28 dX10_falls_10 ?_
  refine lv_iload_n hx hb dX10_falls_13 rfl (lv_at hl 2 rfl) ?_
  refine lv_iload_n hx hb dX10_falls_14 rfl (lv_at hl 3 rfl) ?_
  obtain ⟨hi3, h⟩ := h
  refine stI C wd (k := 2) (N := 5) (by decide) mc_A2 ms_A2 hi3 dX10_falls_15 (fun H locs wd => ?_)
  obtain ⟨t4, et4⟩ : ∃ z : St, z = wr σ 2 x1 x2 := ⟨_, rfl⟩
  rw [← et4] at wd
  have h := h t4 et4
  refine lv_aload_n hx hb dX10_falls_16 rfl (lv_at hl 1 rfl) ?_
  refine getF C wd (k := 0) (Cn := RX10) (T := TX10) (N := 26) (v := .ref (ad 5)) (by decide) mc_X10 rfl 5 (by decide) rfl inX10 tw4_31 dX10_falls_17 ?_
  refine lv_sipush (v := (128 : Int32)) hx hb dX10_falls_20 (by decide) ?_
  refine lv_iload_n hx hb dX10_falls_23 rfl (lv_at hl 2 rfl) ?_
  refine lv_imul hx hb dX10_falls_24 ?_
  refine lv_aload_n hx hb dX10_falls_25 rfl (lv_at hl 1 rfl) ?_
  refine getF C wd (k := 0) (Cn := RX10) (T := TX10) (N := 26) (v := .ref (ad 1)) (by decide) mc_X10 rfl 1 (by decide) rfl inX10 tw4_27 dX10_falls_26 ?_
  refine lv_iload_n hx hb dX10_falls_29 rfl (lv_at hl 2 rfl) ?_
  obtain ⟨hi5, h⟩ := h
  refine ldI C wd (k := 1) (N := 5) (by decide) mc_A1 hi5 dX10_falls_30 ?_
  refine lv_iadd hx hb dX10_falls_31 ?_
  refine lv_iload_n hx hb dX10_falls_32 rfl (lv_at hl 3 rfl) ?_
  obtain ⟨hi6, h⟩ := h
  refine stI C wd (k := 5) (N := 640) (by decide) mc_A5 ms_A5 hi6 dX10_falls_33 (fun H locs wd => ?_)
  obtain ⟨t7, et7⟩ : ∃ z : St, z = wr t4 5 (((128 : Int32) * x1) + (rd t4 1 x1)) x2 := ⟨_, rfl⟩
  rw [← et7] at wd
  have h := h t7 et7
  refine lv_aload_n hx hb dX10_falls_34 rfl (lv_at hl 1 rfl) ?_
  refine getF C wd (k := 0) (Cn := RX10) (T := TX10) (N := 26) (v := .ref (ad 1)) (by decide) mc_X10 rfl 1 (by decide) rfl inX10 tw4_27 dX10_falls_35 ?_
  refine lv_iload_n hx hb dX10_falls_38 rfl (lv_at hl 2 rfl) ?_
  refine lv_dup2_11 hx hb dX10_falls_39 rfl rfl ?_
  obtain ⟨hi8, h⟩ := h
  refine ldI C wd (k := 1) (N := 5) (by decide) mc_A1 hi8 dX10_falls_40 ?_
  refine lv_iconst (v := (1 : Int32)) hx hb dX10_falls_41 (by decide) ?_
  refine lv_iadd hx hb dX10_falls_42 ?_
  obtain ⟨hi9, h⟩ := h
  refine stI C wd (k := 1) (N := 5) (by decide) mc_A1 ms_A1 hi9 dX10_falls_43 (fun H locs wd => ?_)
  obtain ⟨t10, et10⟩ : ∃ z : St, z = wr t7 1 x1 ((rd t7 1 x1) + (1 : Int32)) := ⟨_, rfl⟩
  rw [← et10] at wd
  have h := h t10 et10
  refine lv_aload_n hx hb dX10_falls_44 rfl (lv_at hl 1 rfl) ?_
  refine getF C wd (k := 0) (Cn := RX10) (T := TX10) (N := 26) (v := .ref (ad 3)) (by decide) mc_X10 rfl 3 (by decide) rfl inX10 tw4_29 dX10_falls_45 ?_
  refine lv_iload_n hx hb dX10_falls_48 rfl (lv_at hl 2 rfl) ?_
  refine lv_aload_n hx hb dX10_falls_49 rfl (lv_at hl 1 rfl) ?_
  refine getF C wd (k := 0) (Cn := RX10) (T := TX10) (N := 26) (v := .ref (ad 3)) (by decide) mc_X10 rfl 3 (by decide) rfl inX10 tw4_29 dX10_falls_50 ?_
  refine lv_iload_n hx hb dX10_falls_53 rfl (lv_at hl 2 rfl) ?_
  obtain ⟨hi11, h⟩ := h
  refine ldI C wd (k := 3) (N := 5) (by decide) mc_A3 hi11 dX10_falls_54 ?_
  refine lv_iload_n hx hb dX10_falls_55 rfl (lv_at hl 3 rfl) ?_
  refine lv_icmp_ge (tgt := 68) hx hb dX10_falls_56 (by decide) (fun c12 => ?_) (fun c12 => ?_)
  · have h := h.1 c12
    refine lv_iload_n hx hb dX10_falls_68 rfl (lv_at hl 3 rfl) ?_
    exact blX10_falls_69 C h wd (lv_sub hl [0] rfl)
  · have h := h.2 c12
    refine lv_aload_n hx hb dX10_falls_59 rfl (lv_at hl 1 rfl) ?_
    refine getF C wd (k := 0) (Cn := RX10) (T := TX10) (N := 26) (v := .ref (ad 3)) (by decide) mc_X10 rfl 3 (by decide) rfl inX10 tw4_29 dX10_falls_60 ?_
    refine lv_iload_n hx hb dX10_falls_63 rfl (lv_at hl 2 rfl) ?_
    obtain ⟨hi13, h⟩ := h
    refine ldI C wd (k := 3) (N := 5) (by decide) mc_A3 hi13 dX10_falls_64 ?_
    refine lv_goto (tgt := 69) hx hb dX10_falls_65 (by decide) ?_
    exact blX10_falls_69 C h wd (lv_sub hl [0] rfl)
abbrev rmX10_lossOf : Room := rmOf 4 89
def wbX10_lossOf_82 (Φ : Int32 → St → Prop) (k_14 : Int32 → Int32 → St → Prop) (x2 : Int32) (x3 : Int32) (σ : St) : Prop :=
  k_14 x2 x3 σ
set_option maxHeartbeats 4000000 in
set_option maxRecDepth 100000 in
theorem blX10_lossOf_82 {p : Program} {l : Launch} {e : Env} {s : State} {m : MethodId} {args : Array Value} {below : List Frame} {meth : Method} {c : Code} (C : Cx p s m args meth c cX10_lossOf 5 (some .int) RX10) {Φ : Int32 → St → Prop} {k_14 : Int32 → Int32 → St → Prop} (hk_14 : ∀ (x2 : Int32) (x3 : Int32) (σ : St) (H : Heap) (locs : List Loc) (ls : Array Slot), k_14 x2 x3 σ → gWd D (tyL cyI cyO) (mCell ad cyI cyO) ad 16 s H locs σ → lv_has ls 5 [(0, .ref (ad 0)), (2, .int x2), (3, .int x3)] → W p l e rmX10_lossOf s m args below meth c H locs 0 0 (MQ below (gQi D (mCell ad cyI cyO) ad 16 s.heap.size Φ) args s 0 0 (gA ad 16 s.heap.size)) (F0 m 14 ls [])) {x2 : Int32} {x3 : Int32} {σ : St} {H : Heap} {locs : List Loc} {ls : Array Slot} (h : wbX10_lossOf_82 Φ k_14 x2 x3 σ) (wd : gWd D (tyL cyI cyO) (mCell ad cyI cyO) ad 16 s H locs σ) (hl : lv_has ls 5 [(0, .ref (ad 0)), (2, .int x2), (3, .int x3)]) : W p l e rmX10_lossOf s m args below meth c H locs 0 0 (MQ below (gQi D (mCell ad cyI cyO) ad 16 s.heap.size Φ) args s 0 0 (gA ad 16 s.heap.size)) (F0 m 82 ls []) := by
  obtain ⟨hx, hb, hr, hml, hown, hts, hlk⟩ := id C
  unfold wbX10_lossOf_82 at h
  refine lv_goto (tgt := 14) hx hb dX10_lossOf_82 (by decide) ?_
  exact hk_14 _ _ _ _ _ _ h wd (lv_sub hl [0, 1, 2] rfl)
def wbX10_lossOf_60 (Φ : Int32 → St → Prop) (k_14 : Int32 → Int32 → St → Prop) (x2 : Int32) (x4 : Int32) (z0 : Int32) (σ : St) : Prop :=
  ((z0 = 0 → wbX10_lossOf_82 Φ k_14 x2 z0 σ) ∧ (¬ z0 = 0 → wpX10_firstDead x4 σ (fun r3 t2 => wpX10_falls x4 (r3 - (1 : Int32)) t2 (fun r5 t4 => (∀ y6 : Int32, y6 = x2 + r5 → wbX10_lossOf_82 Φ k_14 y6 z0 t4)))))
set_option maxHeartbeats 4000000 in
set_option maxRecDepth 100000 in
theorem blX10_lossOf_60 {p : Program} {l : Launch} {e : Env} {s : State} {m : MethodId} {args : Array Value} {below : List Frame} {meth : Method} {c : Code} (C : Cx p s m args meth c cX10_lossOf 5 (some .int) RX10) {Φ : Int32 → St → Prop} {k_14 : Int32 → Int32 → St → Prop} (hk_14 : ∀ (x2 : Int32) (x3 : Int32) (σ : St) (H : Heap) (locs : List Loc) (ls : Array Slot), k_14 x2 x3 σ → gWd D (tyL cyI cyO) (mCell ad cyI cyO) ad 16 s H locs σ → lv_has ls 5 [(0, .ref (ad 0)), (2, .int x2), (3, .int x3)] → W p l e rmX10_lossOf s m args below meth c H locs 0 0 (MQ below (gQi D (mCell ad cyI cyO) ad 16 s.heap.size Φ) args s 0 0 (gA ad 16 s.heap.size)) (F0 m 14 ls [])) {x2 : Int32} {x4 : Int32} {z0 : Int32} {σ : St} {H : Heap} {locs : List Loc} {ls : Array Slot} (h : wbX10_lossOf_60 Φ k_14 x2 x4 z0 σ) (wd : gWd D (tyL cyI cyO) (mCell ad cyI cyO) ad 16 s H locs σ) (hl : lv_has ls 5 [(0, .ref (ad 0)), (2, .int x2), (4, .int x4)]) : W p l e rmX10_lossOf s m args below meth c H locs 0 0 (MQ below (gQi D (mCell ad cyI cyO) ad 16 s.heap.size Φ) args s 0 0 (gA ad 16 s.heap.size)) (F0 m 60 ls [.int z0]) := by
  obtain ⟨hx, hb, hr, hml, hown, hts, hlk⟩ := id C
  unfold wbX10_lossOf_60 at h
  refine lv_istore_n (lv' := [(3, .int z0), (0, .ref (ad 0)), (2, .int x2), (4, .int x4)]) hx hb dX10_lossOf_60 rfl hl (by decide) rfl (fun ls hl => ?_)
  refine lv_iload_n hx hb dX10_lossOf_61 rfl (lv_at hl 0 rfl) ?_
  refine lv_if_eq (tgt := 82) hx hb dX10_lossOf_62 (by decide) (fun c1 => ?_) (fun c1 => ?_)
  · have h := h.1 c1
    exact blX10_lossOf_82 C hk_14 h wd (lv_sub hl [1, 2, 0] rfl)
  · have h := h.2 c1
    refine lv_iload_n hx hb dX10_lossOf_65 rfl (lv_at hl 2 rfl) ?_
    refine lv_aload_n hx hb dX10_lossOf_66 rfl (lv_at hl 1 rfl) ?_
    refine lv_iload hx hb dX10_lossOf_67 (lv_at hl 3 rfl) ?_
    refine lv_aload_n hx hb dX10_lossOf_69 rfl (lv_at hl 1 rfl) ?_
    refine lv_iload hx hb dX10_lossOf_70 (lv_at hl 3 rfl) ?_
    refine gCi wd (gRunV (y := yX10_firstDead) (k := 0) (As := [.int x4]) (rest := [.int x4, .ref (ad 0), .int x2]) C wd (cmX10_firstDead h) ⟨rfl, rfl⟩ gd_X10_143 nk_X10_firstDead ⟨Nat.le_of_ble_eq_true rfl, Nat.le_of_ble_eq_true rfl⟩ (by decide) mc_X10 rfl rfl hl.1 (Nat.le_of_ble_eq_true rfl) dX10_lossOf_72 rfl) (fun r3 t2 H locs h wd => ?_)
    try dsimp only at h
    refine lv_iconst (v := (1 : Int32)) hx hb dX10_lossOf_75 (by decide) ?_
    refine lv_isub hx hb dX10_lossOf_76 ?_
    refine gCi wd (gRunV (y := yX10_falls) (k := 0) (As := [.int x4, .int (r3 - (1 : Int32))]) (rest := [.int x2]) C wd (cmX10_falls h) ⟨rfl, rfl⟩ gd_X10_140 nk_X10_falls ⟨Nat.le_of_ble_eq_true rfl, Nat.le_of_ble_eq_true rfl⟩ (by decide) mc_X10 rfl rfl hl.1 (Nat.le_of_ble_eq_true rfl) dX10_lossOf_77 rfl) (fun r5 t4 H locs h wd => ?_)
    try dsimp only at h
    refine lv_iadd hx hb dX10_lossOf_80 ?_
    refine lv_topi (fun y6 ey6 => ?_)
    have h := h y6 ey6
    refine lv_istore_n (lv' := [(2, .int y6), (3, .int z0), (0, .ref (ad 0)), (4, .int x4)]) hx hb dX10_lossOf_81 rfl hl (by decide) rfl (fun ls hl => ?_)
    exact blX10_lossOf_82 C hk_14 h wd (lv_sub hl [2, 0, 1] rfl)
def wbX10_lossOf_46 (Φ : Int32 → St → Prop) (k_14 : Int32 → Int32 → St → Prop) (x2 : Int32) (x4 : Int32) (σ : St) : Prop :=
  (((σ.1 0) ≤ x4 → wbX10_lossOf_60 Φ k_14 x2 x4 (0 : Int32) σ) ∧ (¬ (σ.1 0) ≤ x4 → wbX10_lossOf_60 Φ k_14 x2 x4 (1 : Int32) σ))
set_option maxHeartbeats 4000000 in
set_option maxRecDepth 100000 in
theorem blX10_lossOf_46 {p : Program} {l : Launch} {e : Env} {s : State} {m : MethodId} {args : Array Value} {below : List Frame} {meth : Method} {c : Code} (C : Cx p s m args meth c cX10_lossOf 5 (some .int) RX10) {Φ : Int32 → St → Prop} {k_14 : Int32 → Int32 → St → Prop} (hk_14 : ∀ (x2 : Int32) (x3 : Int32) (σ : St) (H : Heap) (locs : List Loc) (ls : Array Slot), k_14 x2 x3 σ → gWd D (tyL cyI cyO) (mCell ad cyI cyO) ad 16 s H locs σ → lv_has ls 5 [(0, .ref (ad 0)), (2, .int x2), (3, .int x3)] → W p l e rmX10_lossOf s m args below meth c H locs 0 0 (MQ below (gQi D (mCell ad cyI cyO) ad 16 s.heap.size Φ) args s 0 0 (gA ad 16 s.heap.size)) (F0 m 14 ls [])) {x2 : Int32} {x4 : Int32} {σ : St} {H : Heap} {locs : List Loc} {ls : Array Slot} (h : wbX10_lossOf_46 Φ k_14 x2 x4 σ) (wd : gWd D (tyL cyI cyO) (mCell ad cyI cyO) ad 16 s H locs σ) (hl : lv_has ls 5 [(0, .ref (ad 0)), (2, .int x2), (4, .int x4)]) : W p l e rmX10_lossOf s m args below meth c H locs 0 0 (MQ below (gQi D (mCell ad cyI cyO) ad 16 s.heap.size Φ) args s 0 0 (gA ad 16 s.heap.size)) (F0 m 46 ls []) := by
  obtain ⟨hx, hb, hr, hml, hown, hts, hlk⟩ := id C
  unfold wbX10_lossOf_46 at h
  refine lv_iload hx hb dX10_lossOf_46 (lv_at hl 2 rfl) ?_
  refine lv_aload_n hx hb dX10_lossOf_48 rfl (lv_at hl 0 rfl) ?_
  refine getF C wd (k := 0) (Cn := RX10) (T := TX10) (N := 26) (v := .int (σ.1 0)) (by decide) mc_X10 rfl 0 (by decide) rfl inX10 tw4_26 dX10_lossOf_49 ?_
  refine lv_icmp_ge (tgt := 59) hx hb dX10_lossOf_52 (by decide) (fun c1 => ?_) (fun c1 => ?_)
  · have h := h.1 c1
    refine lv_iconst (v := (0 : Int32)) hx hb dX10_lossOf_59 (by decide) ?_
    exact blX10_lossOf_60 C hk_14 h wd (lv_sub hl [0, 1, 2] rfl)
  · have h := h.2 c1
    refine lv_iconst (v := (1 : Int32)) hx hb dX10_lossOf_55 (by decide) ?_
    refine lv_goto (tgt := 60) hx hb dX10_lossOf_56 (by decide) ?_
    exact blX10_lossOf_60 C hk_14 h wd (lv_sub hl [0, 1, 2] rfl)
def wlX10_lossOf_21_body (Φ : Int32 → St → Prop) (k_14 : Int32 → Int32 → St → Prop) (k_21 : Int32 → Int32 → St → Prop) (x2 : Int32) (x4 : Int32) (σ : St) : Prop :=
  (((σ.1 0) ≤ x4 → wbX10_lossOf_46 Φ k_14 x2 x4 σ) ∧ (¬ (σ.1 0) ≤ x4 → wpX10_firstDead x4 σ (fun r3 t2 => ((r3 = (-1 : Int32) → (∀ y5 : Int32, y5 = x4 + (1 : Int32) → k_21 x2 y5 t2)) ∧ (¬ r3 = (-1 : Int32) → wbX10_lossOf_46 Φ k_14 x2 x4 t2)))))
def wlX10_lossOf_21 (Φ : Int32 → St → Prop) (k_14 : Int32 → Int32 → St → Prop) : Nat → Int32 → Int32 → St → Prop
  | 0 => fun _ _ _ => False
  | N + 1 => fun x2 x4 σ => wlX10_lossOf_21_body Φ k_14 (wlX10_lossOf_21 Φ k_14 N) x2 x4 σ
set_option maxHeartbeats 4000000 in
set_option maxRecDepth 100000 in
theorem llX10_lossOf_21 {p : Program} {l : Launch} {e : Env} {s : State} {m : MethodId} {args : Array Value} {below : List Frame} {meth : Method} {c : Code} (C : Cx p s m args meth c cX10_lossOf 5 (some .int) RX10) {Φ : Int32 → St → Prop} {k_14 : Int32 → Int32 → St → Prop} (hk_14 : ∀ (x2 : Int32) (x3 : Int32) (σ : St) (H : Heap) (locs : List Loc) (ls : Array Slot), k_14 x2 x3 σ → gWd D (tyL cyI cyO) (mCell ad cyI cyO) ad 16 s H locs σ → lv_has ls 5 [(0, .ref (ad 0)), (2, .int x2), (3, .int x3)] → W p l e rmX10_lossOf s m args below meth c H locs 0 0 (MQ below (gQi D (mCell ad cyI cyO) ad 16 s.heap.size Φ) args s 0 0 (gA ad 16 s.heap.size)) (F0 m 14 ls [])) : ∀ (N : Nat) (x2 : Int32) (x4 : Int32) (σ : St) (H : Heap) (locs : List Loc) (ls : Array Slot), wlX10_lossOf_21 Φ k_14 N x2 x4 σ → gWd D (tyL cyI cyO) (mCell ad cyI cyO) ad 16 s H locs σ → lv_has ls 5 [(0, .ref (ad 0)), (2, .int x2), (4, .int x4)] → W p l e rmX10_lossOf s m args below meth c H locs 0 0 (MQ below (gQi D (mCell ad cyI cyO) ad 16 s.heap.size Φ) args s 0 0 (gA ad 16 s.heap.size)) (F0 m 21 ls []) := by
  obtain ⟨hx, hb, hr, hml, hown, hts, hlk⟩ := id C
  intro N
  induction N with
  | zero =>
    intro x2 x4 σ H locs ls h
    exact False.elim h
  | succ N ih =>
    intro x2 x4 σ H locs ls h wd hl
    have h : wlX10_lossOf_21_body Φ k_14 (wlX10_lossOf_21 Φ k_14 N) x2 x4 σ := h
    have hk_21 := ih
    unfold wlX10_lossOf_21_body at h
    refine lv_iload hx hb dX10_lossOf_21 (lv_at hl 2 rfl) ?_
    refine lv_aload_n hx hb dX10_lossOf_23 rfl (lv_at hl 0 rfl) ?_
    refine getF C wd (k := 0) (Cn := RX10) (T := TX10) (N := 26) (v := .int (σ.1 0)) (by decide) mc_X10 rfl 0 (by decide) rfl inX10 tw4_26 dX10_lossOf_24 ?_
    refine lv_icmp_ge (tgt := 46) hx hb dX10_lossOf_27 (by decide) (fun c1 => ?_) (fun c1 => ?_)
    · have h := h.1 c1
      exact blX10_lossOf_46 C hk_14 h wd (lv_sub hl [0, 1, 2] rfl)
    · have h := h.2 c1
      refine lv_aload_n hx hb dX10_lossOf_30 rfl (lv_at hl 0 rfl) ?_
      refine lv_iload hx hb dX10_lossOf_31 (lv_at hl 2 rfl) ?_
      refine gCi wd (gRunV (y := yX10_firstDead) (k := 0) (As := [.int x4]) (rest := []) C wd (cmX10_firstDead h) ⟨rfl, rfl⟩ gd_X10_143 nk_X10_firstDead ⟨Nat.le_of_ble_eq_true rfl, Nat.le_of_ble_eq_true rfl⟩ (by decide) mc_X10 rfl rfl hl.1 (Nat.le_of_ble_eq_true rfl) dX10_lossOf_33 rfl) (fun r3 t2 H locs h wd => ?_)
      try dsimp only at h
      refine lv_iconst (v := (-1 : Int32)) hx hb dX10_lossOf_36 (by decide) ?_
      refine lv_icmp_ne (tgt := 46) hx hb dX10_lossOf_37 (by decide) (fun c4 => ?_) (fun c4 => ?_)
      · have h := h.2 c4
        exact blX10_lossOf_46 C hk_14 h wd (lv_sub hl [0, 1, 2] rfl)
      · have h := h.1 c4
        obtain ⟨y5, ey5⟩ : ∃ y : Int32, y = x4 + (1 : Int32) := ⟨_, rfl⟩
        refine lv_iinc (v := y5) (lv' := [(4, .int y5), (0, .ref (ad 0)), (2, .int x2)]) hx hb dX10_lossOf_40 hl (k := 2) rfl (by rw [ey5]; rfl) (by decide) rfl (fun ls hl => ?_)
        have h := h y5 ey5
        refine lv_goto (tgt := 21) hx hb dX10_lossOf_43 (by decide) ?_
        exact hk_21 _ _ _ _ _ _ h wd (lv_sub hl [1, 2, 0] rfl)
def wlX10_lossOf_14_body (Φ : Int32 → St → Prop) (k_14 : Int32 → Int32 → St → Prop) (x2 : Int32) (x3 : Int32) (σ : St) : Prop :=
  ((x3 = 0 → Φ x2 σ) ∧ (¬ x3 = 0 → (∃ N, wlX10_lossOf_21 Φ k_14 N x2 (0 : Int32) σ)))
def wlX10_lossOf_14 (Φ : Int32 → St → Prop) : Nat → Int32 → Int32 → St → Prop
  | 0 => fun _ _ _ => False
  | N + 1 => fun x2 x3 σ => wlX10_lossOf_14_body Φ (wlX10_lossOf_14 Φ N) x2 x3 σ
set_option maxHeartbeats 4000000 in
set_option maxRecDepth 100000 in
theorem llX10_lossOf_14 {p : Program} {l : Launch} {e : Env} {s : State} {m : MethodId} {args : Array Value} {below : List Frame} {meth : Method} {c : Code} (C : Cx p s m args meth c cX10_lossOf 5 (some .int) RX10) {Φ : Int32 → St → Prop} : ∀ (N : Nat) (x2 : Int32) (x3 : Int32) (σ : St) (H : Heap) (locs : List Loc) (ls : Array Slot), wlX10_lossOf_14 Φ N x2 x3 σ → gWd D (tyL cyI cyO) (mCell ad cyI cyO) ad 16 s H locs σ → lv_has ls 5 [(0, .ref (ad 0)), (2, .int x2), (3, .int x3)] → W p l e rmX10_lossOf s m args below meth c H locs 0 0 (MQ below (gQi D (mCell ad cyI cyO) ad 16 s.heap.size Φ) args s 0 0 (gA ad 16 s.heap.size)) (F0 m 14 ls []) := by
  obtain ⟨hx, hb, hr, hml, hown, hts, hlk⟩ := id C
  intro N
  induction N with
  | zero =>
    intro x2 x3 σ H locs ls h
    exact False.elim h
  | succ N ih =>
    intro x2 x3 σ H locs ls h wd hl
    have h : wlX10_lossOf_14_body Φ (wlX10_lossOf_14 Φ N) x2 x3 σ := h
    have hk_14 := ih
    unfold wlX10_lossOf_14_body at h
    refine lv_iload_n hx hb dX10_lossOf_14 rfl (lv_at hl 2 rfl) ?_
    refine lv_if_eq (tgt := 85) hx hb dX10_lossOf_15 (by decide) (fun c1 => ?_) (fun c1 => ?_)
    · have h := h.1 c1
      refine lv_iload_n hx hb dX10_lossOf_85 rfl (lv_at hl 1 rfl) ?_
      exact retI C wd h dX10_lossOf_86
    · have h := h.2 c1
      refine lv_iconst (v := (0 : Int32)) hx hb dX10_lossOf_18 (by decide) ?_
      refine lv_istore (lv' := [(4, .int (0 : Int32)), (0, .ref (ad 0)), (2, .int x2), (3, .int x3)]) hx hb dX10_lossOf_19 hl (by decide) rfl (fun ls hl => ?_)
      obtain ⟨N, h⟩ := h
      exact llX10_lossOf_21 C hk_14 N _ _ _ _ _ _ h wd (lv_sub hl [1, 2, 0] rfl)
def wpX10_lossOf (x1 : Int32) (σ : St) (Φ : Int32 → St → Prop) : Prop :=
  (vp_in x1 5 ∧ wpX10_falls x1 (rd σ 3 x1) σ (fun r3 t2 => (∃ N, wlX10_lossOf_14 Φ N r3 (1 : Int32) t2)))
set_option maxHeartbeats 4000000 in
set_option maxRecDepth 100000 in
theorem cmX10_lossOf {D : va_G} {cyI cyO : ClassId} {ad : Nat → Nat} {l : Launch} {x1 : Int32} {σ : St} {sz : Nat} {Φ : Int32 → St → Prop} (h : wpX10_lossOf x1 σ Φ) : gMet D (tyL cyI cyO) (mCell ad cyI cyO) ad 16 l yX10_lossOf cX10_lossOf 5 (some .int) rmX10_lossOf [.ref (ad 0), .int x1] σ sz (gQi D (mCell ad cyI cyO) ad 16 sz Φ) := by
  refine gMet.of (by decide) (Nat.le_of_ble_eq_true rfl) ?_
  intro p e s m below meth c ls hsz C hl wd
  subst hsz
  have C : Cx p s m _ meth c cX10_lossOf 5 (some .int) RX10 := C
  obtain ⟨hx, hb, hr, hml, hown, hts, hlk⟩ := id C
  have hl : lv_has ls 5 [(0, .ref (ad 0)), (1, .int x1)] := hl
  unfold wpX10_lossOf at h
  refine lv_aload_n hx hb dX10_lossOf_0 rfl (lv_at hl 0 rfl) ?_
  refine lv_iload_n hx hb dX10_lossOf_1 rfl (lv_at hl 1 rfl) ?_
  refine lv_aload_n hx hb dX10_lossOf_2 rfl (lv_at hl 0 rfl) ?_
  refine getF C wd (k := 0) (Cn := RX10) (T := TX10) (N := 26) (v := .ref (ad 3)) (by decide) mc_X10 rfl 3 (by decide) rfl inX10 tw4_29 dX10_lossOf_3 ?_
  refine lv_iload_n hx hb dX10_lossOf_6 rfl (lv_at hl 1 rfl) ?_
  obtain ⟨hi1, h⟩ := h
  refine ldI C wd (k := 3) (N := 5) (by decide) mc_A3 hi1 dX10_lossOf_7 ?_
  refine gCi wd (gRunV (y := yX10_falls) (k := 0) (As := [.int x1, .int (rd σ 3 x1)]) (rest := []) C wd (cmX10_falls h) ⟨rfl, rfl⟩ gd_X10_140 nk_X10_falls ⟨Nat.le_of_ble_eq_true rfl, Nat.le_of_ble_eq_true rfl⟩ (by decide) mc_X10 rfl rfl hl.1 (Nat.le_of_ble_eq_true rfl) dX10_lossOf_8 rfl) (fun r3 t2 H locs h wd => ?_)
  try dsimp only at h
  refine lv_istore_n (lv' := [(2, .int r3), (0, .ref (ad 0)), (1, .int x1)]) hx hb dX10_lossOf_11 rfl hl (by decide) rfl (fun ls hl => ?_)
  refine lv_iconst (v := (1 : Int32)) hx hb dX10_lossOf_12 (by decide) ?_
  refine lv_istore_n (lv' := [(3, .int (1 : Int32)), (2, .int r3), (0, .ref (ad 0)), (1, .int x1)]) hx hb dX10_lossOf_13 rfl hl (by decide) rfl (fun ls hl => ?_)
  obtain ⟨N, h⟩ := h
  exact llX10_lossOf_14 C N _ _ _ _ _ _ h wd (lv_sub hl [2, 1, 0] rfl)
abbrev rmX10_isTooOld : Room := rmOf 0 0
def wbX10_isTooOld_32 (Φ : Int32 → St → Prop) (k_4 : Int32 → Int32 → St → Prop) (x2 : Int32) (z0 : Int32) (σ : St) : Prop :=
  (∀ y1 : Int32, y1 = x2 + (1 : Int32) → k_4 z0 y1 σ)
set_option maxHeartbeats 4000000 in
set_option maxRecDepth 100000 in
theorem blX10_isTooOld_32 {p : Program} {l : Launch} {e : Env} {s : State} {m : MethodId} {args : Array Value} {below : List Frame} {meth : Method} {c : Code} (C : Cx p s m args meth c cX10_isTooOld 3 (some .boolean) RX10) {Φ : Int32 → St → Prop} {k_4 : Int32 → Int32 → St → Prop} (hk_4 : ∀ (x1 : Int32) (x2 : Int32) (σ : St) (H : Heap) (locs : List Loc) (ls : Array Slot), k_4 x1 x2 σ → gWd D (tyL cyI cyO) (mCell ad cyI cyO) ad 16 s H locs σ → lv_has ls 3 [(0, .ref (ad 0)), (1, .int x1), (2, .int x2)] → W p l e rmX10_isTooOld s m args below meth c H locs 0 0 (MQ below (gQi D (mCell ad cyI cyO) ad 16 s.heap.size Φ) args s 0 0 (gA ad 16 s.heap.size)) (F0 m 4 ls [])) {x2 : Int32} {z0 : Int32} {σ : St} {H : Heap} {locs : List Loc} {ls : Array Slot} (h : wbX10_isTooOld_32 Φ k_4 x2 z0 σ) (wd : gWd D (tyL cyI cyO) (mCell ad cyI cyO) ad 16 s H locs σ) (hl : lv_has ls 3 [(0, .ref (ad 0)), (2, .int x2)]) : W p l e rmX10_isTooOld s m args below meth c H locs 0 0 (MQ below (gQi D (mCell ad cyI cyO) ad 16 s.heap.size Φ) args s 0 0 (gA ad 16 s.heap.size)) (F0 m 32 ls [.int z0]) := by
  obtain ⟨hx, hb, hr, hml, hown, hts, hlk⟩ := id C
  unfold wbX10_isTooOld_32 at h
  refine lv_istore_n (lv' := [(1, .int z0), (0, .ref (ad 0)), (2, .int x2)]) hx hb dX10_isTooOld_32 rfl hl (by decide) rfl (fun ls hl => ?_)
  obtain ⟨y1, ey1⟩ : ∃ y : Int32, y = x2 + (1 : Int32) := ⟨_, rfl⟩
  refine lv_iinc (v := y1) (lv' := [(2, .int y1), (1, .int z0), (0, .ref (ad 0))]) hx hb dX10_isTooOld_33 hl (k := 2) rfl (by rw [ey1]; rfl) (by decide) rfl (fun ls hl => ?_)
  have h := h y1 ey1
  refine lv_goto (tgt := 4) hx hb dX10_isTooOld_36 (by decide) ?_
  exact hk_4 _ _ _ _ _ _ h wd (lv_sub hl [2, 1, 0] rfl)
def wlX10_isTooOld_4_body (Φ : Int32 → St → Prop) (k_4 : Int32 → Int32 → St → Prop) (x1 : Int32) (x2 : Int32) (σ : St) : Prop :=
  (((σ.1 0) ≤ x2 → (narrow .boolean (.int x1) = .int x1 ∧ Φ x1 σ)) ∧ (¬ (σ.1 0) ≤ x2 → ((x1 = 0 → (vp_in x2 5 ∧ (((rd σ 1 x2) < (60 : Int32) → wbX10_isTooOld_32 Φ k_4 x2 (0 : Int32) σ) ∧ (¬ (rd σ 1 x2) < (60 : Int32) → wbX10_isTooOld_32 Φ k_4 x2 (1 : Int32) σ)))) ∧ (¬ x1 = 0 → wbX10_isTooOld_32 Φ k_4 x2 (1 : Int32) σ))))
def wlX10_isTooOld_4 (Φ : Int32 → St → Prop) : Nat → Int32 → Int32 → St → Prop
  | 0 => fun _ _ _ => False
  | N + 1 => fun x1 x2 σ => wlX10_isTooOld_4_body Φ (wlX10_isTooOld_4 Φ N) x1 x2 σ
set_option maxHeartbeats 4000000 in
set_option maxRecDepth 100000 in
theorem llX10_isTooOld_4 {p : Program} {l : Launch} {e : Env} {s : State} {m : MethodId} {args : Array Value} {below : List Frame} {meth : Method} {c : Code} (C : Cx p s m args meth c cX10_isTooOld 3 (some .boolean) RX10) {Φ : Int32 → St → Prop} : ∀ (N : Nat) (x1 : Int32) (x2 : Int32) (σ : St) (H : Heap) (locs : List Loc) (ls : Array Slot), wlX10_isTooOld_4 Φ N x1 x2 σ → gWd D (tyL cyI cyO) (mCell ad cyI cyO) ad 16 s H locs σ → lv_has ls 3 [(0, .ref (ad 0)), (1, .int x1), (2, .int x2)] → W p l e rmX10_isTooOld s m args below meth c H locs 0 0 (MQ below (gQi D (mCell ad cyI cyO) ad 16 s.heap.size Φ) args s 0 0 (gA ad 16 s.heap.size)) (F0 m 4 ls []) := by
  obtain ⟨hx, hb, hr, hml, hown, hts, hlk⟩ := id C
  intro N
  induction N with
  | zero =>
    intro x1 x2 σ H locs ls h
    exact False.elim h
  | succ N ih =>
    intro x1 x2 σ H locs ls h wd hl
    have h : wlX10_isTooOld_4_body Φ (wlX10_isTooOld_4 Φ N) x1 x2 σ := h
    have hk_4 := ih
    unfold wlX10_isTooOld_4_body at h
    refine lv_iload_n hx hb dX10_isTooOld_4 rfl (lv_at hl 2 rfl) ?_
    refine lv_aload_n hx hb dX10_isTooOld_5 rfl (lv_at hl 0 rfl) ?_
    refine getF C wd (k := 0) (Cn := RX10) (T := TX10) (N := 26) (v := .int (σ.1 0)) (by decide) mc_X10 rfl 0 (by decide) rfl inX10 tw4_26 dX10_isTooOld_6 ?_
    refine lv_icmp_ge (tgt := 39) hx hb dX10_isTooOld_9 (by decide) (fun c1 => ?_) (fun c1 => ?_)
    · have h := h.1 c1
      refine lv_iload_n hx hb dX10_isTooOld_39 rfl (lv_at hl 1 rfl) ?_
      exact retZ C wd h.1 h.2 dX10_isTooOld_40
    · have h := h.2 c1
      refine lv_iload_n hx hb dX10_isTooOld_12 rfl (lv_at hl 1 rfl) ?_
      refine lv_if_ne (tgt := 27) hx hb dX10_isTooOld_13 (by decide) (fun c2 => ?_) (fun c2 => ?_)
      · have h := h.2 c2
        refine lv_iconst (v := (1 : Int32)) hx hb dX10_isTooOld_27 (by decide) ?_
        refine lv_goto (tgt := 32) hx hb dX10_isTooOld_28 (by decide) ?_
        exact blX10_isTooOld_32 C hk_4 h wd (lv_sub hl [0, 2] rfl)
      · have h := h.1 c2
        refine lv_aload_n hx hb dX10_isTooOld_16 rfl (lv_at hl 0 rfl) ?_
        refine getF C wd (k := 0) (Cn := RX10) (T := TX10) (N := 26) (v := .ref (ad 1)) (by decide) mc_X10 rfl 1 (by decide) rfl inX10 tw4_27 dX10_isTooOld_17 ?_
        refine lv_iload_n hx hb dX10_isTooOld_20 rfl (lv_at hl 2 rfl) ?_
        obtain ⟨hi3, h⟩ := h
        refine ldI C wd (k := 1) (N := 5) (by decide) mc_A1 hi3 dX10_isTooOld_21 ?_
        refine lv_bipush (v := (60 : Int32)) hx hb dX10_isTooOld_22 (by decide) ?_
        refine lv_icmp_lt (tgt := 31) hx hb dX10_isTooOld_24 (by decide) (fun c4 => ?_) (fun c4 => ?_)
        · have h := h.1 c4
          refine lv_iconst (v := (0 : Int32)) hx hb dX10_isTooOld_31 (by decide) ?_
          exact blX10_isTooOld_32 C hk_4 h wd (lv_sub hl [0, 2] rfl)
        · have h := h.2 c4
          refine lv_iconst (v := (1 : Int32)) hx hb dX10_isTooOld_27 (by decide) ?_
          refine lv_goto (tgt := 32) hx hb dX10_isTooOld_28 (by decide) ?_
          exact blX10_isTooOld_32 C hk_4 h wd (lv_sub hl [0, 2] rfl)
def wpX10_isTooOld (σ : St) (Φ : Int32 → St → Prop) : Prop :=
  (∃ N, wlX10_isTooOld_4 Φ N (0 : Int32) (0 : Int32) σ)
set_option maxHeartbeats 4000000 in
set_option maxRecDepth 100000 in
theorem cmX10_isTooOld {D : va_G} {cyI cyO : ClassId} {ad : Nat → Nat} {l : Launch} {σ : St} {sz : Nat} {Φ : Int32 → St → Prop} (h : wpX10_isTooOld σ Φ) : gMet D (tyL cyI cyO) (mCell ad cyI cyO) ad 16 l yX10_isTooOld cX10_isTooOld 3 (some .boolean) rmX10_isTooOld [.ref (ad 0)] σ sz (gQi D (mCell ad cyI cyO) ad 16 sz Φ) := by
  refine gMet.of (by decide) (Nat.le_of_ble_eq_true rfl) ?_
  intro p e s m below meth c ls hsz C hl wd
  subst hsz
  have C : Cx p s m _ meth c cX10_isTooOld 3 (some .boolean) RX10 := C
  obtain ⟨hx, hb, hr, hml, hown, hts, hlk⟩ := id C
  have hl : lv_has ls 3 [(0, .ref (ad 0))] := hl
  unfold wpX10_isTooOld at h
  refine lv_iconst (v := (0 : Int32)) hx hb dX10_isTooOld_0 (by decide) ?_
  refine lv_istore_n (lv' := [(1, .int (0 : Int32)), (0, .ref (ad 0))]) hx hb dX10_isTooOld_1 rfl hl (by decide) rfl (fun ls hl => ?_)
  refine lv_iconst (v := (0 : Int32)) hx hb dX10_isTooOld_2 (by decide) ?_
  refine lv_istore_n (lv' := [(2, .int (0 : Int32)), (1, .int (0 : Int32)), (0, .ref (ad 0))]) hx hb dX10_isTooOld_3 rfl hl (by decide) rfl (fun ls hl => ?_)
  obtain ⟨N, h⟩ := h
  exact llX10_isTooOld_4 C N _ _ _ _ _ _ h wd (lv_sub hl [2, 1, 0] rfl)
abbrev rmX10_losesNow : Room := rmOf 5 113
def wbX10_losesNow_110 (Φ : Int32 → St → Prop) (k_28 : Int32 → Int32 → St → Prop) (x2 : Int32) (x3 : Int32) (z1 : Int32) (z2 : Int32) (σ : St) : Prop :=
  (vp_in z1 90 ∧ ∀ t2 : St, t2 = wr σ 11 z1 z2 → (∀ y3 : Int32, y3 = x3 + (1 : Int32) → k_28 x2 y3 t2))
set_option maxHeartbeats 4000000 in
set_option maxRecDepth 100000 in
theorem blX10_losesNow_110 {p : Program} {l : Launch} {e : Env} {s : State} {m : MethodId} {args : Array Value} {below : List Frame} {meth : Method} {c : Code} (C : Cx p s m args meth c cX10_losesNow 5 (some .int) RX10) {Φ : Int32 → St → Prop} {k_28 : Int32 → Int32 → St → Prop} (hk_28 : ∀ (x2 : Int32) (x3 : Int32) (σ : St) (H : Heap) (locs : List Loc) (ls : Array Slot), k_28 x2 x3 σ → gWd D (tyL cyI cyO) (mCell ad cyI cyO) ad 16 s H locs σ → lv_has ls 5 [(0, .ref (ad 0)), (2, .int x2), (3, .int x3)] → W p l e rmX10_losesNow s m args below meth c H locs 0 0 (MQ below (gQi D (mCell ad cyI cyO) ad 16 s.heap.size Φ) args s 0 0 (gA ad 16 s.heap.size)) (F0 m 28 ls [])) {x2 : Int32} {x3 : Int32} {z1 : Int32} {z2 : Int32} {σ : St} {H : Heap} {locs : List Loc} {ls : Array Slot} (h : wbX10_losesNow_110 Φ k_28 x2 x3 z1 z2 σ) (wd : gWd D (tyL cyI cyO) (mCell ad cyI cyO) ad 16 s H locs σ) (hl : lv_has ls 5 [(0, .ref (ad 0)), (2, .int x2), (3, .int x3)]) : W p l e rmX10_losesNow s m args below meth c H locs 0 0 (MQ below (gQi D (mCell ad cyI cyO) ad 16 s.heap.size Φ) args s 0 0 (gA ad 16 s.heap.size)) (F0 m 110 ls [.int z2, .int z1, .ref (ad 11)]) := by
  obtain ⟨hx, hb, hr, hml, hown, hts, hlk⟩ := id C
  unfold wbX10_losesNow_110 at h
  obtain ⟨hi1, h⟩ := h
  refine stI C wd (k := 11) (N := 90) (by decide) mc_A11 ms_A11 hi1 dX10_losesNow_110 (fun H locs wd => ?_)
  obtain ⟨t2, et2⟩ : ∃ z : St, z = wr σ 11 z1 z2 := ⟨_, rfl⟩
  rw [← et2] at wd
  have h := h t2 et2
  obtain ⟨y3, ey3⟩ : ∃ y : Int32, y = x3 + (1 : Int32) := ⟨_, rfl⟩
  refine lv_iinc (v := y3) (lv' := [(3, .int y3), (0, .ref (ad 0)), (2, .int x2)]) hx hb dX10_losesNow_111 hl (k := 2) rfl (by rw [ey3]; rfl) (by decide) rfl (fun ls hl => ?_)
  have h := h y3 ey3
  refine lv_goto (tgt := 28) hx hb dX10_losesNow_114 (by decide) ?_
  exact hk_28 _ _ _ _ _ _ h wd (lv_sub hl [1, 2, 0] rfl)
def wbX10_losesNow_80 (Φ : Int32 → St → Prop) (k_28 : Int32 → Int32 → St → Prop) (x2 : Int32) (x3 : Int32) (z0 : Int32) (σ : St) : Prop :=
  ((z0 = 0 → (vp_in (((3 : Int32) * x3) + (2 : Int32)) 90 ∧ wbX10_losesNow_110 Φ k_28 x2 x3 (((3 : Int32) * x3) + (2 : Int32)) (rd σ 11 (((3 : Int32) * x3) + (2 : Int32))) σ)) ∧ (¬ z0 = 0 → wbX10_losesNow_110 Φ k_28 x2 x3 (((3 : Int32) * x3) + (2 : Int32)) (2 : Int32) σ))
set_option maxHeartbeats 4000000 in
set_option maxRecDepth 100000 in
theorem blX10_losesNow_80 {p : Program} {l : Launch} {e : Env} {s : State} {m : MethodId} {args : Array Value} {below : List Frame} {meth : Method} {c : Code} (C : Cx p s m args meth c cX10_losesNow 5 (some .int) RX10) {Φ : Int32 → St → Prop} {k_28 : Int32 → Int32 → St → Prop} (hk_28 : ∀ (x2 : Int32) (x3 : Int32) (σ : St) (H : Heap) (locs : List Loc) (ls : Array Slot), k_28 x2 x3 σ → gWd D (tyL cyI cyO) (mCell ad cyI cyO) ad 16 s H locs σ → lv_has ls 5 [(0, .ref (ad 0)), (2, .int x2), (3, .int x3)] → W p l e rmX10_losesNow s m args below meth c H locs 0 0 (MQ below (gQi D (mCell ad cyI cyO) ad 16 s.heap.size Φ) args s 0 0 (gA ad 16 s.heap.size)) (F0 m 28 ls [])) {x2 : Int32} {x3 : Int32} {z0 : Int32} {σ : St} {H : Heap} {locs : List Loc} {ls : Array Slot} (h : wbX10_losesNow_80 Φ k_28 x2 x3 z0 σ) (wd : gWd D (tyL cyI cyO) (mCell ad cyI cyO) ad 16 s H locs σ) (hl : lv_has ls 5 [(0, .ref (ad 0)), (2, .int x2), (3, .int x3)]) : W p l e rmX10_losesNow s m args below meth c H locs 0 0 (MQ below (gQi D (mCell ad cyI cyO) ad 16 s.heap.size Φ) args s 0 0 (gA ad 16 s.heap.size)) (F0 m 80 ls [.int z0]) := by
  obtain ⟨hx, hb, hr, hml, hown, hts, hlk⟩ := id C
  unfold wbX10_losesNow_80 at h
  refine lv_istore (lv' := [(4, .int z0), (0, .ref (ad 0)), (2, .int x2), (3, .int x3)]) hx hb dX10_losesNow_80 hl (by decide) rfl (fun ls hl => ?_)
  refine lv_aload_n hx hb dX10_losesNow_82 rfl (lv_at hl 1 rfl) ?_
  refine getF C wd (k := 0) (Cn := RX10) (T := TX10) (N := 26) (v := .ref (ad 11)) (by decide) mc_X10 rfl 12 (by decide) rfl inX10 tw4_38 dX10_losesNow_83 ?_
  refine lv_iconst (v := (3 : Int32)) hx hb dX10_losesNow_86 (by decide) ?_
  refine lv_iload_n hx hb dX10_losesNow_87 rfl (lv_at hl 3 rfl) ?_
  refine lv_imul hx hb dX10_losesNow_88 ?_
  refine lv_iconst (v := (2 : Int32)) hx hb dX10_losesNow_89 (by decide) ?_
  refine lv_iadd hx hb dX10_losesNow_90 ?_
  refine lv_iload hx hb dX10_losesNow_91 (lv_at hl 0 rfl) ?_
  refine lv_if_eq (tgt := 100) hx hb dX10_losesNow_93 (by decide) (fun c1 => ?_) (fun c1 => ?_)
  · have h := h.1 c1
    refine lv_aload_n hx hb dX10_losesNow_100 rfl (lv_at hl 1 rfl) ?_
    refine getF C wd (k := 0) (Cn := RX10) (T := TX10) (N := 26) (v := .ref (ad 11)) (by decide) mc_X10 rfl 12 (by decide) rfl inX10 tw4_38 dX10_losesNow_101 ?_
    refine lv_iconst (v := (3 : Int32)) hx hb dX10_losesNow_104 (by decide) ?_
    refine lv_iload_n hx hb dX10_losesNow_105 rfl (lv_at hl 3 rfl) ?_
    refine lv_imul hx hb dX10_losesNow_106 ?_
    refine lv_iconst (v := (2 : Int32)) hx hb dX10_losesNow_107 (by decide) ?_
    refine lv_iadd hx hb dX10_losesNow_108 ?_
    obtain ⟨hi2, h⟩ := h
    refine ldI C wd (k := 11) (N := 90) (by decide) mc_A11 hi2 dX10_losesNow_109 ?_
    exact blX10_losesNow_110 C hk_28 h wd (lv_sub hl [1, 2, 3] rfl)
  · have h := h.2 c1
    refine lv_iconst (v := (2 : Int32)) hx hb dX10_losesNow_96 (by decide) ?_
    refine lv_goto (tgt := 110) hx hb dX10_losesNow_97 (by decide) ?_
    exact blX10_losesNow_110 C hk_28 h wd (lv_sub hl [1, 2, 3] rfl)
def wbX10_losesNow_79 (Φ : Int32 → St → Prop) (k_28 : Int32 → Int32 → St → Prop) (x2 : Int32) (x3 : Int32) (σ : St) : Prop :=
  wbX10_losesNow_80 Φ k_28 x2 x3 (0 : Int32) σ
set_option maxHeartbeats 4000000 in
set_option maxRecDepth 100000 in
theorem blX10_losesNow_79 {p : Program} {l : Launch} {e : Env} {s : State} {m : MethodId} {args : Array Value} {below : List Frame} {meth : Method} {c : Code} (C : Cx p s m args meth c cX10_losesNow 5 (some .int) RX10) {Φ : Int32 → St → Prop} {k_28 : Int32 → Int32 → St → Prop} (hk_28 : ∀ (x2 : Int32) (x3 : Int32) (σ : St) (H : Heap) (locs : List Loc) (ls : Array Slot), k_28 x2 x3 σ → gWd D (tyL cyI cyO) (mCell ad cyI cyO) ad 16 s H locs σ → lv_has ls 5 [(0, .ref (ad 0)), (2, .int x2), (3, .int x3)] → W p l e rmX10_losesNow s m args below meth c H locs 0 0 (MQ below (gQi D (mCell ad cyI cyO) ad 16 s.heap.size Φ) args s 0 0 (gA ad 16 s.heap.size)) (F0 m 28 ls [])) {x2 : Int32} {x3 : Int32} {σ : St} {H : Heap} {locs : List Loc} {ls : Array Slot} (h : wbX10_losesNow_79 Φ k_28 x2 x3 σ) (wd : gWd D (tyL cyI cyO) (mCell ad cyI cyO) ad 16 s H locs σ) (hl : lv_has ls 5 [(0, .ref (ad 0)), (2, .int x2), (3, .int x3)]) : W p l e rmX10_losesNow s m args below meth c H locs 0 0 (MQ below (gQi D (mCell ad cyI cyO) ad 16 s.heap.size Φ) args s 0 0 (gA ad 16 s.heap.size)) (F0 m 79 ls []) := by
  obtain ⟨hx, hb, hr, hml, hown, hts, hlk⟩ := id C
  unfold wbX10_losesNow_79 at h
  refine lv_iconst (v := (0 : Int32)) hx hb dX10_losesNow_79 (by decide) ?_
  exact blX10_losesNow_80 C hk_28 h wd (lv_sub hl [0, 1, 2] rfl)
def wlX10_losesNow_28_body (Φ : Int32 → St → Prop) (k_28 : Int32 → Int32 → St → Prop) (x2 : Int32) (x3 : Int32) (σ : St) : Prop :=
  (((σ.1 13) ≤ x3 → Φ x2 σ) ∧ (¬ (σ.1 13) ≤ x3 → (vp_in (((3 : Int32) * x3) + (2 : Int32)) 90 ∧ (((rd σ 11 (((3 : Int32) * x3) + (2 : Int32))) = 0 → (vp_in (((3 : Int32) * x3) + (1 : Int32)) 90 ∧ (vp_in ((3 : Int32) * x3) 90 ∧ (vp_in (rd σ 11 ((3 : Int32) * x3)) 5 ∧ (((rd σ 11 (((3 : Int32) * x3) + (1 : Int32))) ≤ (rd σ 2 (rd σ 11 ((3 : Int32) * x3))) → wbX10_losesNow_79 Φ k_28 x2 x3 σ) ∧ (¬ (rd σ 11 (((3 : Int32) * x3) + (1 : Int32))) ≤ (rd σ 2 (rd σ 11 ((3 : Int32) * x3))) → wbX10_losesNow_80 Φ k_28 x2 x3 (1 : Int32) σ)))))) ∧ (¬ (rd σ 11 (((3 : Int32) * x3) + (2 : Int32))) = 0 → wbX10_losesNow_79 Φ k_28 x2 x3 σ)))))
def wlX10_losesNow_28 (Φ : Int32 → St → Prop) : Nat → Int32 → Int32 → St → Prop
  | 0 => fun _ _ _ => False
  | N + 1 => fun x2 x3 σ => wlX10_losesNow_28_body Φ (wlX10_losesNow_28 Φ N) x2 x3 σ
set_option maxHeartbeats 4000000 in
set_option maxRecDepth 100000 in
theorem llX10_losesNow_28 {p : Program} {l : Launch} {e : Env} {s : State} {m : MethodId} {args : Array Value} {below : List Frame} {meth : Method} {c : Code} (C : Cx p s m args meth c cX10_losesNow 5 (some .int) RX10) {Φ : Int32 → St → Prop} : ∀ (N : Nat) (x2 : Int32) (x3 : Int32) (σ : St) (H : Heap) (locs : List Loc) (ls : Array Slot), wlX10_losesNow_28 Φ N x2 x3 σ → gWd D (tyL cyI cyO) (mCell ad cyI cyO) ad 16 s H locs σ → lv_has ls 5 [(0, .ref (ad 0)), (2, .int x2), (3, .int x3)] → W p l e rmX10_losesNow s m args below meth c H locs 0 0 (MQ below (gQi D (mCell ad cyI cyO) ad 16 s.heap.size Φ) args s 0 0 (gA ad 16 s.heap.size)) (F0 m 28 ls []) := by
  obtain ⟨hx, hb, hr, hml, hown, hts, hlk⟩ := id C
  intro N
  induction N with
  | zero =>
    intro x2 x3 σ H locs ls h
    exact False.elim h
  | succ N ih =>
    intro x2 x3 σ H locs ls h wd hl
    have h : wlX10_losesNow_28_body Φ (wlX10_losesNow_28 Φ N) x2 x3 σ := h
    have hk_28 := ih
    unfold wlX10_losesNow_28_body at h
    refine lv_iload_n hx hb dX10_losesNow_28 rfl (lv_at hl 2 rfl) ?_
    refine lv_aload_n hx hb dX10_losesNow_29 rfl (lv_at hl 0 rfl) ?_
    refine getF C wd (k := 0) (Cn := RX10) (T := TX10) (N := 26) (v := .int (σ.1 13)) (by decide) mc_X10 rfl 13 (by decide) rfl inX10 tw4_39 dX10_losesNow_30 ?_
    refine lv_icmp_ge (tgt := 117) hx hb dX10_losesNow_33 (by decide) (fun c1 => ?_) (fun c1 => ?_)
    · have h := h.1 c1
      refine lv_iload_n hx hb dX10_losesNow_117 rfl (lv_at hl 1 rfl) ?_
      exact retI C wd h dX10_losesNow_118
    · have h := h.2 c1
      refine lv_aload_n hx hb dX10_losesNow_36 rfl (lv_at hl 0 rfl) ?_
      refine getF C wd (k := 0) (Cn := RX10) (T := TX10) (N := 26) (v := .ref (ad 11)) (by decide) mc_X10 rfl 12 (by decide) rfl inX10 tw4_38 dX10_losesNow_37 ?_
      refine lv_iconst (v := (3 : Int32)) hx hb dX10_losesNow_40 (by decide) ?_
      refine lv_iload_n hx hb dX10_losesNow_41 rfl (lv_at hl 2 rfl) ?_
      refine lv_imul hx hb dX10_losesNow_42 ?_
      refine lv_iconst (v := (2 : Int32)) hx hb dX10_losesNow_43 (by decide) ?_
      refine lv_iadd hx hb dX10_losesNow_44 ?_
      obtain ⟨hi2, h⟩ := h
      refine ldI C wd (k := 11) (N := 90) (by decide) mc_A11 hi2 dX10_losesNow_45 ?_
      refine lv_if_ne (tgt := 79) hx hb dX10_losesNow_46 (by decide) (fun c3 => ?_) (fun c3 => ?_)
      · have h := h.2 c3
        exact blX10_losesNow_79 C hk_28 h wd (lv_sub hl [0, 1, 2] rfl)
      · have h := h.1 c3
        refine lv_aload_n hx hb dX10_losesNow_49 rfl (lv_at hl 0 rfl) ?_
        refine getF C wd (k := 0) (Cn := RX10) (T := TX10) (N := 26) (v := .ref (ad 11)) (by decide) mc_X10 rfl 12 (by decide) rfl inX10 tw4_38 dX10_losesNow_50 ?_
        refine lv_iconst (v := (3 : Int32)) hx hb dX10_losesNow_53 (by decide) ?_
        refine lv_iload_n hx hb dX10_losesNow_54 rfl (lv_at hl 2 rfl) ?_
        refine lv_imul hx hb dX10_losesNow_55 ?_
        refine lv_iconst (v := (1 : Int32)) hx hb dX10_losesNow_56 (by decide) ?_
        refine lv_iadd hx hb dX10_losesNow_57 ?_
        obtain ⟨hi4, h⟩ := h
        refine ldI C wd (k := 11) (N := 90) (by decide) mc_A11 hi4 dX10_losesNow_58 ?_
        refine lv_aload_n hx hb dX10_losesNow_59 rfl (lv_at hl 0 rfl) ?_
        refine getF C wd (k := 0) (Cn := RX10) (T := TX10) (N := 26) (v := .ref (ad 2)) (by decide) mc_X10 rfl 2 (by decide) rfl inX10 tw4_28 dX10_losesNow_60 ?_
        refine lv_aload_n hx hb dX10_losesNow_63 rfl (lv_at hl 0 rfl) ?_
        refine getF C wd (k := 0) (Cn := RX10) (T := TX10) (N := 26) (v := .ref (ad 11)) (by decide) mc_X10 rfl 12 (by decide) rfl inX10 tw4_38 dX10_losesNow_64 ?_
        refine lv_iconst (v := (3 : Int32)) hx hb dX10_losesNow_67 (by decide) ?_
        refine lv_iload_n hx hb dX10_losesNow_68 rfl (lv_at hl 2 rfl) ?_
        refine lv_imul hx hb dX10_losesNow_69 ?_
        obtain ⟨hi5, h⟩ := h
        refine ldI C wd (k := 11) (N := 90) (by decide) mc_A11 hi5 dX10_losesNow_70 ?_
        obtain ⟨hi6, h⟩ := h
        refine ldI C wd (k := 2) (N := 5) (by decide) mc_A2 hi6 dX10_losesNow_71 ?_
        refine lv_icmp_le (tgt := 79) hx hb dX10_losesNow_72 (by decide) (fun c7 => ?_) (fun c7 => ?_)
        · have h := h.1 c7
          exact blX10_losesNow_79 C hk_28 h wd (lv_sub hl [0, 1, 2] rfl)
        · have h := h.2 c7
          refine lv_iconst (v := (1 : Int32)) hx hb dX10_losesNow_75 (by decide) ?_
          refine lv_goto (tgt := 80) hx hb dX10_losesNow_76 (by decide) ?_
          exact blX10_losesNow_80 C hk_28 h wd (lv_sub hl [0, 1, 2] rfl)
def wpX10_losesNow (x1 : Int32) (σ : St) (Φ : Int32 → St → Prop) : Prop :=
  wpX10_isTooOld σ (fun r2 t1 => ((r2 = 0 → wpX10_lossOf x1 t1 (fun r5 t4 => (∀ t6 : St, t6 = setI t4 16 ((t4.1 16) + r5) → (∃ N, wlX10_losesNow_28 Φ N r5 (0 : Int32) t6)))) ∧ (¬ r2 = 0 → Φ (-4 : Int32) t1)))
set_option maxHeartbeats 4000000 in
set_option maxRecDepth 100000 in
theorem cmX10_losesNow {D : va_G} {cyI cyO : ClassId} {ad : Nat → Nat} {l : Launch} {x1 : Int32} {σ : St} {sz : Nat} {Φ : Int32 → St → Prop} (h : wpX10_losesNow x1 σ Φ) : gMet D (tyL cyI cyO) (mCell ad cyI cyO) ad 16 l yX10_losesNow cX10_losesNow 5 (some .int) rmX10_losesNow [.ref (ad 0), .int x1] σ sz (gQi D (mCell ad cyI cyO) ad 16 sz Φ) := by
  refine gMet.of (by decide) (Nat.le_of_ble_eq_true rfl) ?_
  intro p e s m below meth c ls hsz C hl wd
  subst hsz
  have C : Cx p s m _ meth c cX10_losesNow 5 (some .int) RX10 := C
  obtain ⟨hx, hb, hr, hml, hown, hts, hlk⟩ := id C
  have hl : lv_has ls 5 [(0, .ref (ad 0)), (1, .int x1)] := hl
  unfold wpX10_losesNow at h
  refine lv_aload_n hx hb dX10_losesNow_0 rfl (lv_at hl 0 rfl) ?_
  refine gCi wd (gRunV (y := yX10_isTooOld) (k := 0) (As := []) (rest := []) C wd (cmX10_isTooOld h) ⟨rfl, rfl⟩ gd_X10_146 nk_X10_isTooOld ⟨Nat.le_of_ble_eq_true rfl, Nat.le_of_ble_eq_true rfl⟩ (by decide) mc_X10 rfl rfl hl.1 (Nat.le_of_ble_eq_true rfl) dX10_losesNow_1 rfl) (fun r2 t1 H locs h wd => ?_)
  try dsimp only at h
  refine lv_if_eq (tgt := 10) hx hb dX10_losesNow_4 (by decide) (fun c3 => ?_) (fun c3 => ?_)
  · have h := h.1 c3
    refine lv_aload_n hx hb dX10_losesNow_10 rfl (lv_at hl 0 rfl) ?_
    refine lv_iload_n hx hb dX10_losesNow_11 rfl (lv_at hl 1 rfl) ?_
    refine gCi wd (gRunV (y := yX10_lossOf) (k := 0) (As := [.int x1]) (rest := []) C wd (cmX10_lossOf h) ⟨rfl, rfl⟩ gd_X10_150 nk_X10_lossOf ⟨Nat.le_of_ble_eq_true rfl, Nat.le_of_ble_eq_true rfl⟩ (by decide) mc_X10 rfl rfl hl.1 (Nat.le_of_ble_eq_true rfl) dX10_losesNow_12 rfl) (fun r5 t4 H locs h wd => ?_)
    try dsimp only at h
    refine lv_istore_n (lv' := [(2, .int r5), (0, .ref (ad 0)), (1, .int x1)]) hx hb dX10_losesNow_15 rfl hl (by decide) rfl (fun ls hl => ?_)
    refine lv_aload_n hx hb dX10_losesNow_16 rfl (lv_at hl 1 rfl) ?_
    refine lv_dup hx hb dX10_losesNow_17 rfl ?_
    refine getF C wd (k := 0) (Cn := RX10) (T := TX10) (N := 26) (v := .int (t4.1 16)) (by decide) mc_X10 rfl 16 (by decide) rfl inX10 tw4_42 dX10_losesNow_18 ?_
    refine lv_iload_n hx hb dX10_losesNow_21 rfl (lv_at hl 0 rfl) ?_
    refine lv_iadd hx hb dX10_losesNow_22 ?_
    refine putF C wd (k := 0) (Cn := RX10) (T := TX10) (N := 26) (σ' := setI t4 16 ((t4.1 16) + r5)) (by decide) mc_X10 rfl tyX10_ok nmX10 16 (by decide) rfl (by decide +kernel) (Nat.le_of_ble_eq_true rfl) inX10 tw4_42 ms_X10_gone dX10_losesNow_23 (fun H locs wd => ?_)
    obtain ⟨t6, et6⟩ : ∃ z : St, z = setI t4 16 ((t4.1 16) + r5) := ⟨_, rfl⟩
    rw [← et6] at wd
    have h := h t6 et6
    refine lv_iconst (v := (0 : Int32)) hx hb dX10_losesNow_26 (by decide) ?_
    refine lv_istore_n (lv' := [(3, .int (0 : Int32)), (2, .int r5), (0, .ref (ad 0)), (1, .int x1)]) hx hb dX10_losesNow_27 rfl hl (by decide) rfl (fun ls hl => ?_)
    obtain ⟨N, h⟩ := h
    exact llX10_losesNow_28 C N _ _ _ _ _ _ h wd (lv_sub hl [2, 1, 0] rfl)
  · have h := h.2 c3
    refine lv_bipush (v := (-4 : Int32)) hx hb dX10_losesNow_7 (by decide) ?_
    exact retI C wd h dX10_losesNow_9
end
