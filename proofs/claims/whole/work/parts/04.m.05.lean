section
variable {D : va_G} {cyI cyO : ClassId} {ad : Nat → Nat} {n : Nat}
abbrev rmX10_dead : Room := rmOf 2 46
def wbX10_dead_32 (Φ : Int32 → St → Prop) (σ : St) : Prop :=
  wpX10_bad σ (fun r2 t1 => Φ r2 t1)
set_option maxHeartbeats 4000000 in
set_option maxRecDepth 100000 in
theorem blX10_dead_32 {p : Program} {l : Launch} {e : Env} {s : State} {m : MethodId} {args : Array Value} {below : List Frame} {meth : Method} {c : Code} (C : Cx p s m args meth c cX10_dead 4 (some .int) RX10) {Φ : Int32 → St → Prop} {σ : St} {H : Heap} {locs : List Loc} {ls : Array Slot} (h : wbX10_dead_32 Φ σ) (wd : gWd D (tyL cyI cyO) (mCell ad cyI cyO) ad 16 s H locs σ) (hl : lv_has ls 4 [(0, .ref (ad 0))]) : W p l e rmX10_dead s m args below meth c H locs 0 0 (MQ below (gQi D (mCell ad cyI cyO) ad 16 s.heap.size Φ) args s 0 0 (gA ad 16 s.heap.size)) (F0 m 32 ls []) := by
  obtain ⟨hx, hb, hr, hml, hown, hts, hlk⟩ := id C
  unfold wbX10_dead_32 at h
  refine lv_aload_n hx hb dX10_dead_32 rfl (lv_at hl 0 rfl) ?_
  refine gCi wd (gRunV (y := yX10_bad) (k := 0) (As := []) (rest := []) C wd (cmX10_bad h) ⟨rfl, rfl⟩ gd_X10_87 nk_X10_bad ⟨Nat.le_of_ble_eq_true rfl, Nat.le_of_ble_eq_true rfl⟩ (by decide) mc_X10 rfl rfl hl.1 (Nat.le_of_ble_eq_true rfl) dX10_dead_33 rfl) (fun r2 t1 H locs h wd => ?_)
  try dsimp only at h
  exact retI C wd h dX10_dead_36
def wpX10_dead (x1 : Int32) (x2 : Int32) (x3 : Int32) (σ : St) (Φ : Int32 → St → Prop) : Prop :=
  wpX10_isClerk x1 σ (fun r2 t1 => ((r2 = 0 → wbX10_dead_32 Φ t1) ∧ (¬ r2 = 0 → wpX10_in x2.toInt64 (0 : Int64) (99 : Int64) t1 (fun r5 t4 => ((r5 = 0 → wbX10_dead_32 Φ t4) ∧ (¬ r5 = 0 → wpX10_in x3.toInt64 (0 : Int64) (99 : Int64) t4 (fun r8 t7 => ((r8 = 0 → wbX10_dead_32 Φ t7) ∧ (¬ r8 = 0 → wpX10_isDead x1 x2 x3 t7 (fun r11 t10 => ((r11 = 0 → Φ (0 : Int32) t10) ∧ (¬ r11 = 0 → Φ (1 : Int32) t10))))))))))))
set_option maxHeartbeats 4000000 in
set_option maxRecDepth 100000 in
theorem cmX10_dead {D : va_G} {cyI cyO : ClassId} {ad : Nat → Nat} {l : Launch} {x1 : Int32} {x2 : Int32} {x3 : Int32} {σ : St} {sz : Nat} {Φ : Int32 → St → Prop} (h : wpX10_dead x1 x2 x3 σ Φ) : gMet D (tyL cyI cyO) (mCell ad cyI cyO) ad 16 l yX10_dead cX10_dead 4 (some .int) rmX10_dead [.ref (ad 0), .int x1, .int x2, .int x3] σ sz (gQi D (mCell ad cyI cyO) ad 16 sz Φ) := by
  refine gMet.of (by decide) (Nat.le_of_ble_eq_true rfl) ?_
  intro p e s m below meth c ls hsz C hl wd
  subst hsz
  have C : Cx p s m _ meth c cX10_dead 4 (some .int) RX10 := C
  obtain ⟨hx, hb, hr, hml, hown, hts, hlk⟩ := id C
  have hl : lv_has ls 4 [(0, .ref (ad 0)), (1, .int x1), (2, .int x2), (3, .int x3)] := hl
  unfold wpX10_dead at h
  refine lv_aload_n hx hb dX10_dead_0 rfl (lv_at hl 0 rfl) ?_
  refine lv_iload_n hx hb dX10_dead_1 rfl (lv_at hl 1 rfl) ?_
  refine gCi wd (gRunV (y := yX10_isClerk) (k := 0) (As := [.int x1]) (rest := []) C wd (cmX10_isClerk h) ⟨rfl, rfl⟩ gd_X10_98 nk_X10_isClerk ⟨Nat.le_of_ble_eq_true rfl, Nat.le_of_ble_eq_true rfl⟩ (by decide) mc_X10 rfl rfl hl.1 (Nat.le_of_ble_eq_true rfl) dX10_dead_2 rfl) (fun r2 t1 H locs h wd => ?_)
  try dsimp only at h
  refine lv_if_eq (tgt := 32) hx hb dX10_dead_5 (by decide) (fun c3 => ?_) (fun c3 => ?_)
  · have h := h.1 c3
    exact blX10_dead_32 C h wd (lv_sub hl [0] rfl)
  · have h := h.2 c3
    refine lv_iload_n hx hb dX10_dead_8 rfl (lv_at hl 2 rfl) ?_
    refine lv_i2l hx hb dX10_dead_9 rfl ?_
    refine lv_lconst (v := (0 : Int64)) hx hb dX10_dead_10 (by decide) ?_
    refine lv_ldc2 (v := (99 : Int64)) hx hb hown (hts _ tw5_47) dX10_dead_11 ?_
    refine gCi wd (gRunS (y := yX10_in) (As := [.long x2.toInt64, .long (0 : Int64), .long (99 : Int64)]) (rest := []) C wd (cmX10_in h) ⟨rfl, rfl⟩ gd_X10_59 nk_X10_in ⟨Nat.le_of_ble_eq_true rfl, Nat.le_of_ble_eq_true rfl⟩ hl.1 (Nat.le_of_ble_eq_true rfl) dX10_dead_14 rfl) (fun r5 t4 H locs h wd => ?_)
    try dsimp only at h
    refine lv_if_eq (tgt := 32) hx hb dX10_dead_17 (by decide) (fun c6 => ?_) (fun c6 => ?_)
    · have h := h.1 c6
      exact blX10_dead_32 C h wd (lv_sub hl [0] rfl)
    · have h := h.2 c6
      refine lv_iload_n hx hb dX10_dead_20 rfl (lv_at hl 3 rfl) ?_
      refine lv_i2l hx hb dX10_dead_21 rfl ?_
      refine lv_lconst (v := (0 : Int64)) hx hb dX10_dead_22 (by decide) ?_
      refine lv_ldc2 (v := (99 : Int64)) hx hb hown (hts _ tw5_47) dX10_dead_23 ?_
      refine gCi wd (gRunS (y := yX10_in) (As := [.long x3.toInt64, .long (0 : Int64), .long (99 : Int64)]) (rest := []) C wd (cmX10_in h) ⟨rfl, rfl⟩ gd_X10_59 nk_X10_in ⟨Nat.le_of_ble_eq_true rfl, Nat.le_of_ble_eq_true rfl⟩ hl.1 (Nat.le_of_ble_eq_true rfl) dX10_dead_26 rfl) (fun r8 t7 H locs h wd => ?_)
      try dsimp only at h
      refine lv_if_ne (tgt := 37) hx hb dX10_dead_29 (by decide) (fun c9 => ?_) (fun c9 => ?_)
      · have h := h.2 c9
        refine lv_aload_n hx hb dX10_dead_37 rfl (lv_at hl 0 rfl) ?_
        refine lv_iload_n hx hb dX10_dead_38 rfl (lv_at hl 1 rfl) ?_
        refine lv_iload_n hx hb dX10_dead_39 rfl (lv_at hl 2 rfl) ?_
        refine lv_iload_n hx hb dX10_dead_40 rfl (lv_at hl 3 rfl) ?_
        refine gCi wd (gRunV (y := yX10_isDead) (k := 0) (As := [.int x1, .int x2, .int x3]) (rest := []) C wd (cmX10_isDead h) ⟨rfl, rfl⟩ gd_X10_114 nk_X10_isDead ⟨Nat.le_of_ble_eq_true rfl, Nat.le_of_ble_eq_true rfl⟩ (by decide) mc_X10 rfl rfl hl.1 (Nat.le_of_ble_eq_true rfl) dX10_dead_41 rfl) (fun r11 t10 H locs h wd => ?_)
        try dsimp only at h
        refine lv_if_eq (tgt := 51) hx hb dX10_dead_44 (by decide) (fun c12 => ?_) (fun c12 => ?_)
        · have h := h.1 c12
          refine lv_iconst (v := (0 : Int32)) hx hb dX10_dead_51 (by decide) ?_
          exact retI C wd h dX10_dead_52
        · have h := h.2 c12
          refine lv_iconst (v := (1 : Int32)) hx hb dX10_dead_47 (by decide) ?_
          refine lv_goto (tgt := 52) hx hb dX10_dead_48 (by decide) ?_
          exact retI C wd h dX10_dead_52
      · have h := h.1 c9
        exact blX10_dead_32 C h wd (lv_sub hl [0] rfl)
abbrev rmX10_end : Room := rmOf 2 46
def wbX10_end_20 (Φ : Int32 → St → Prop) (σ : St) : Prop :=
  wpX10_bad σ (fun r2 t1 => Φ r2 t1)
set_option maxHeartbeats 4000000 in
set_option maxRecDepth 100000 in
theorem blX10_end_20 {p : Program} {l : Launch} {e : Env} {s : State} {m : MethodId} {args : Array Value} {below : List Frame} {meth : Method} {c : Code} (C : Cx p s m args meth c cX10_end 3 (some .int) RX10) {Φ : Int32 → St → Prop} {σ : St} {H : Heap} {locs : List Loc} {ls : Array Slot} (h : wbX10_end_20 Φ σ) (wd : gWd D (tyL cyI cyO) (mCell ad cyI cyO) ad 16 s H locs σ) (hl : lv_has ls 3 [(0, .ref (ad 0))]) : W p l e rmX10_end s m args below meth c H locs 0 0 (MQ below (gQi D (mCell ad cyI cyO) ad 16 s.heap.size Φ) args s 0 0 (gA ad 16 s.heap.size)) (F0 m 20 ls []) := by
  obtain ⟨hx, hb, hr, hml, hown, hts, hlk⟩ := id C
  unfold wbX10_end_20 at h
  refine lv_aload_n hx hb dX10_end_20 rfl (lv_at hl 0 rfl) ?_
  refine gCi wd (gRunV (y := yX10_bad) (k := 0) (As := []) (rest := []) C wd (cmX10_bad h) ⟨rfl, rfl⟩ gd_X10_87 nk_X10_bad ⟨Nat.le_of_ble_eq_true rfl, Nat.le_of_ble_eq_true rfl⟩ (by decide) mc_X10 rfl rfl hl.1 (Nat.le_of_ble_eq_true rfl) dX10_end_21 rfl) (fun r2 t1 H locs h wd => ?_)
  try dsimp only at h
  exact retI C wd h dX10_end_24
def wpX10_end (x1 : Int32) (x2 : Int32) (σ : St) (Φ : Int32 → St → Prop) : Prop :=
  wpX10_isClerk x1 σ (fun r2 t1 => ((r2 = 0 → wbX10_end_20 Φ t1) ∧ (¬ r2 = 0 → wpX10_in x2.toInt64 (0 : Int64) (99 : Int64) t1 (fun r5 t4 => ((r5 = 0 → wbX10_end_20 Φ t4) ∧ (¬ r5 = 0 → (vp_in x1 5 ∧ (((rd t4 1 x1) ≤ x2 → Φ (-1 : Int32) t4) ∧ (¬ (rd t4 1 x1) ≤ x2 → (vp_in (((128 : Int32) * x1) + x2) 640 ∧ Φ (rd t4 5 (((128 : Int32) * x1) + x2)) t4))))))))))
set_option maxHeartbeats 4000000 in
set_option maxRecDepth 100000 in
theorem cmX10_end {D : va_G} {cyI cyO : ClassId} {ad : Nat → Nat} {l : Launch} {x1 : Int32} {x2 : Int32} {σ : St} {sz : Nat} {Φ : Int32 → St → Prop} (h : wpX10_end x1 x2 σ Φ) : gMet D (tyL cyI cyO) (mCell ad cyI cyO) ad 16 l yX10_end cX10_end 3 (some .int) rmX10_end [.ref (ad 0), .int x1, .int x2] σ sz (gQi D (mCell ad cyI cyO) ad 16 sz Φ) := by
  refine gMet.of (by decide) (Nat.le_of_ble_eq_true rfl) ?_
  intro p e s m below meth c ls hsz C hl wd
  subst hsz
  have C : Cx p s m _ meth c cX10_end 3 (some .int) RX10 := C
  obtain ⟨hx, hb, hr, hml, hown, hts, hlk⟩ := id C
  have hl : lv_has ls 3 [(0, .ref (ad 0)), (1, .int x1), (2, .int x2)] := hl
  unfold wpX10_end at h
  refine lv_aload_n hx hb dX10_end_0 rfl (lv_at hl 0 rfl) ?_
  refine lv_iload_n hx hb dX10_end_1 rfl (lv_at hl 1 rfl) ?_
  refine gCi wd (gRunV (y := yX10_isClerk) (k := 0) (As := [.int x1]) (rest := []) C wd (cmX10_isClerk h) ⟨rfl, rfl⟩ gd_X10_98 nk_X10_isClerk ⟨Nat.le_of_ble_eq_true rfl, Nat.le_of_ble_eq_true rfl⟩ (by decide) mc_X10 rfl rfl hl.1 (Nat.le_of_ble_eq_true rfl) dX10_end_2 rfl) (fun r2 t1 H locs h wd => ?_)
  try dsimp only at h
  refine lv_if_eq (tgt := 20) hx hb dX10_end_5 (by decide) (fun c3 => ?_) (fun c3 => ?_)
  · have h := h.1 c3
    exact blX10_end_20 C h wd (lv_sub hl [0] rfl)
  · have h := h.2 c3
    refine lv_iload_n hx hb dX10_end_8 rfl (lv_at hl 2 rfl) ?_
    refine lv_i2l hx hb dX10_end_9 rfl ?_
    refine lv_lconst (v := (0 : Int64)) hx hb dX10_end_10 (by decide) ?_
    refine lv_ldc2 (v := (99 : Int64)) hx hb hown (hts _ tw5_47) dX10_end_11 ?_
    refine gCi wd (gRunS (y := yX10_in) (As := [.long x2.toInt64, .long (0 : Int64), .long (99 : Int64)]) (rest := []) C wd (cmX10_in h) ⟨rfl, rfl⟩ gd_X10_59 nk_X10_in ⟨Nat.le_of_ble_eq_true rfl, Nat.le_of_ble_eq_true rfl⟩ hl.1 (Nat.le_of_ble_eq_true rfl) dX10_end_14 rfl) (fun r5 t4 H locs h wd => ?_)
    try dsimp only at h
    refine lv_if_ne (tgt := 25) hx hb dX10_end_17 (by decide) (fun c6 => ?_) (fun c6 => ?_)
    · have h := h.2 c6
      refine lv_iload_n hx hb dX10_end_25 rfl (lv_at hl 2 rfl) ?_
      refine lv_aload_n hx hb dX10_end_26 rfl (lv_at hl 0 rfl) ?_
      refine getF C wd (k := 0) (Cn := RX10) (T := TX10) (N := 26) (v := .ref (ad 1)) (by decide) mc_X10 rfl 1 (by decide) rfl inX10 tw4_27 dX10_end_27 ?_
      refine lv_iload_n hx hb dX10_end_30 rfl (lv_at hl 1 rfl) ?_
      obtain ⟨hi7, h⟩ := h
      refine ldI C wd (k := 1) (N := 5) (by decide) mc_A1 hi7 dX10_end_31 ?_
      refine lv_icmp_ge (tgt := 50) hx hb dX10_end_32 (by decide) (fun c8 => ?_) (fun c8 => ?_)
      · have h := h.1 c8
        refine lv_iconst (v := (-1 : Int32)) hx hb dX10_end_50 (by decide) ?_
        exact retI C wd h dX10_end_51
      · have h := h.2 c8
        refine lv_aload_n hx hb dX10_end_35 rfl (lv_at hl 0 rfl) ?_
        refine getF C wd (k := 0) (Cn := RX10) (T := TX10) (N := 26) (v := .ref (ad 5)) (by decide) mc_X10 rfl 5 (by decide) rfl inX10 tw4_31 dX10_end_36 ?_
        refine lv_sipush (v := (128 : Int32)) hx hb dX10_end_39 (by decide) ?_
        refine lv_iload_n hx hb dX10_end_42 rfl (lv_at hl 1 rfl) ?_
        refine lv_imul hx hb dX10_end_43 ?_
        refine lv_iload_n hx hb dX10_end_44 rfl (lv_at hl 2 rfl) ?_
        refine lv_iadd hx hb dX10_end_45 ?_
        obtain ⟨hi9, h⟩ := h
        refine ldI C wd (k := 5) (N := 640) (by decide) mc_A5 hi9 dX10_end_46 ?_
        refine lv_goto (tgt := 51) hx hb dX10_end_47 (by decide) ?_
        exact retI C wd h dX10_end_51
    · have h := h.1 c6
      exact blX10_end_20 C h wd (lv_sub hl [0] rfl)
abbrev rmX10_letter : Room := rmOf 2 48
def wbX10_letter_24 (Φ : Int32 → St → Prop) (σ : St) : Prop :=
  wpX10_bad σ (fun r2 t1 => Φ r2 t1)
set_option maxHeartbeats 4000000 in
set_option maxRecDepth 100000 in
theorem blX10_letter_24 {p : Program} {l : Launch} {e : Env} {s : State} {m : MethodId} {args : Array Value} {below : List Frame} {meth : Method} {c : Code} (C : Cx p s m args meth c cX10_letter 6 (some .int) RX10) {Φ : Int32 → St → Prop} {σ : St} {H : Heap} {locs : List Loc} {ls : Array Slot} (h : wbX10_letter_24 Φ σ) (wd : gWd D (tyL cyI cyO) (mCell ad cyI cyO) ad 16 s H locs σ) (hl : lv_has ls 6 [(0, .ref (ad 0))]) : W p l e rmX10_letter s m args below meth c H locs 0 0 (MQ below (gQi D (mCell ad cyI cyO) ad 16 s.heap.size Φ) args s 0 0 (gA ad 16 s.heap.size)) (F0 m 24 ls []) := by
  obtain ⟨hx, hb, hr, hml, hown, hts, hlk⟩ := id C
  unfold wbX10_letter_24 at h
  refine lv_aload_n hx hb dX10_letter_24 rfl (lv_at hl 0 rfl) ?_
  refine gCi wd (gRunV (y := yX10_bad) (k := 0) (As := []) (rest := []) C wd (cmX10_bad h) ⟨rfl, rfl⟩ gd_X10_87 nk_X10_bad ⟨Nat.le_of_ble_eq_true rfl, Nat.le_of_ble_eq_true rfl⟩ (by decide) mc_X10 rfl rfl hl.1 (Nat.le_of_ble_eq_true rfl) dX10_letter_25 rfl) (fun r2 t1 H locs h wd => ?_)
  try dsimp only at h
  exact retI C wd h dX10_letter_28
def wpX10_letter (x1 : Int32) (x2 : Int32) (x3 : Int32) (σ : St) (Φ : Int32 → St → Prop) : Prop :=
  wpX10_isClerk x1 σ (fun r2 t1 => ((r2 = 0 → wbX10_letter_24 Φ t1) ∧ (¬ r2 = 0 → ((x2 < 0 → wbX10_letter_24 Φ t1) ∧ (¬ x2 < 0 → wpX10_in x3.toInt64 (0 : Int64) (3 : Int64) t1 (fun r6 t5 => ((r6 = 0 → wbX10_letter_24 Φ t5) ∧ (¬ r6 = 0 → wpX10_letterAt x1 x2 t5 (fun r9 t8 => ((r9 = (-1 : Int32) → Φ (-1 : Int32) t8) ∧ (¬ r9 = (-1 : Int32) → (vp_in (((13 : Int32) * r9) + (1 : Int32)) 520 ∧ (∀ y12 : Int32, y12 = rd t8 10 (((13 : Int32) * r9) + (1 : Int32)) → ((x3 = 0 → Φ y12 t8) ∧ (¬ x3 = 0 → ((x3 = (1 : Int32) → (vp_in (((13 : Int32) * r9) + (2 : Int32)) 520 ∧ Φ (rd t8 10 (((13 : Int32) * r9) + (2 : Int32))) t8)) ∧ (¬ x3 = (1 : Int32) → ((x3 = (3 : Int32) → (vp_in ((((13 : Int32) * r9) + (8 : Int32)) + y12) 520 ∧ Φ (rd t8 10 ((((13 : Int32) * r9) + (8 : Int32)) + y12)) t8)) ∧ (¬ x3 = (3 : Int32) → wpX10_isDeadLetter r9 t8 (fun r17 t16 => ((r17 = 0 → Φ (0 : Int32) t16) ∧ (¬ r17 = 0 → Φ (1 : Int32) t16))))))))))))))))))))))
set_option maxHeartbeats 4000000 in
set_option maxRecDepth 100000 in
theorem cmX10_letter {D : va_G} {cyI cyO : ClassId} {ad : Nat → Nat} {l : Launch} {x1 : Int32} {x2 : Int32} {x3 : Int32} {σ : St} {sz : Nat} {Φ : Int32 → St → Prop} (h : wpX10_letter x1 x2 x3 σ Φ) : gMet D (tyL cyI cyO) (mCell ad cyI cyO) ad 16 l yX10_letter cX10_letter 6 (some .int) rmX10_letter [.ref (ad 0), .int x1, .int x2, .int x3] σ sz (gQi D (mCell ad cyI cyO) ad 16 sz Φ) := by
  refine gMet.of (by decide) (Nat.le_of_ble_eq_true rfl) ?_
  intro p e s m below meth c ls hsz C hl wd
  subst hsz
  have C : Cx p s m _ meth c cX10_letter 6 (some .int) RX10 := C
  obtain ⟨hx, hb, hr, hml, hown, hts, hlk⟩ := id C
  have hl : lv_has ls 6 [(0, .ref (ad 0)), (1, .int x1), (2, .int x2), (3, .int x3)] := hl
  unfold wpX10_letter at h
  refine lv_aload_n hx hb dX10_letter_0 rfl (lv_at hl 0 rfl) ?_
  refine lv_iload_n hx hb dX10_letter_1 rfl (lv_at hl 1 rfl) ?_
  refine gCi wd (gRunV (y := yX10_isClerk) (k := 0) (As := [.int x1]) (rest := []) C wd (cmX10_isClerk h) ⟨rfl, rfl⟩ gd_X10_98 nk_X10_isClerk ⟨Nat.le_of_ble_eq_true rfl, Nat.le_of_ble_eq_true rfl⟩ (by decide) mc_X10 rfl rfl hl.1 (Nat.le_of_ble_eq_true rfl) dX10_letter_2 rfl) (fun r2 t1 H locs h wd => ?_)
  try dsimp only at h
  refine lv_if_eq (tgt := 24) hx hb dX10_letter_5 (by decide) (fun c3 => ?_) (fun c3 => ?_)
  · have h := h.1 c3
    exact blX10_letter_24 C h wd (lv_sub hl [0] rfl)
  · have h := h.2 c3
    refine lv_iload_n hx hb dX10_letter_8 rfl (lv_at hl 2 rfl) ?_
    refine lv_if_lt (tgt := 24) hx hb dX10_letter_9 (by decide) (fun c4 => ?_) (fun c4 => ?_)
    · have h := h.1 c4
      exact blX10_letter_24 C h wd (lv_sub hl [0] rfl)
    · have h := h.2 c4
      refine lv_iload_n hx hb dX10_letter_12 rfl (lv_at hl 3 rfl) ?_
      refine lv_i2l hx hb dX10_letter_13 rfl ?_
      refine lv_lconst (v := (0 : Int64)) hx hb dX10_letter_14 (by decide) ?_
      refine lv_ldc2 (v := (3 : Int64)) hx hb hown (hts _ tw4_141) dX10_letter_15 ?_
      refine gCi wd (gRunS (y := yX10_in) (As := [.long x3.toInt64, .long (0 : Int64), .long (3 : Int64)]) (rest := []) C wd (cmX10_in h) ⟨rfl, rfl⟩ gd_X10_59 nk_X10_in ⟨Nat.le_of_ble_eq_true rfl, Nat.le_of_ble_eq_true rfl⟩ hl.1 (Nat.le_of_ble_eq_true rfl) dX10_letter_18 rfl) (fun r6 t5 H locs h wd => ?_)
      try dsimp only at h
      refine lv_if_ne (tgt := 29) hx hb dX10_letter_21 (by decide) (fun c7 => ?_) (fun c7 => ?_)
      · have h := h.2 c7
        refine lv_aload_n hx hb dX10_letter_29 rfl (lv_at hl 0 rfl) ?_
        refine lv_iload_n hx hb dX10_letter_30 rfl (lv_at hl 1 rfl) ?_
        refine lv_iload_n hx hb dX10_letter_31 rfl (lv_at hl 2 rfl) ?_
        refine gCi wd (gRunV (y := yX10_letterAt) (k := 0) (As := [.int x1, .int x2]) (rest := []) C wd (cmX10_letterAt h) ⟨rfl, rfl⟩ gd_X10_118 nk_X10_letterAt ⟨Nat.le_of_ble_eq_true rfl, Nat.le_of_ble_eq_true rfl⟩ (by decide) mc_X10 rfl rfl hl.1 (Nat.le_of_ble_eq_true rfl) dX10_letter_32 rfl) (fun r9 t8 H locs h wd => ?_)
        try dsimp only at h
        refine lv_istore (lv' := [(4, .int r9), (0, .ref (ad 0)), (1, .int x1), (2, .int x2), (3, .int x3)]) hx hb dX10_letter_35 hl (by decide) rfl (fun ls hl => ?_)
        refine lv_iload hx hb dX10_letter_37 (lv_at hl 0 rfl) ?_
        refine lv_iconst (v := (-1 : Int32)) hx hb dX10_letter_39 (by decide) ?_
        refine lv_icmp_ne (tgt := 45) hx hb dX10_letter_40 (by decide) (fun c10 => ?_) (fun c10 => ?_)
        · have h := h.2 c10
          refine lv_aload_n hx hb dX10_letter_45 rfl (lv_at hl 1 rfl) ?_
          refine getF C wd (k := 0) (Cn := RX10) (T := TX10) (N := 26) (v := .ref (ad 10)) (by decide) mc_X10 rfl 10 (by decide) rfl inX10 tw4_36 dX10_letter_46 ?_
          refine lv_bipush (v := (13 : Int32)) hx hb dX10_letter_49 (by decide) ?_
          refine lv_iload hx hb dX10_letter_51 (lv_at hl 0 rfl) ?_
          refine lv_imul hx hb dX10_letter_53 ?_
          refine lv_iconst (v := (1 : Int32)) hx hb dX10_letter_54 (by decide) ?_
          refine lv_iadd hx hb dX10_letter_55 ?_
          obtain ⟨hi11, h⟩ := h
          refine ldI C wd (k := 10) (N := 520) (by decide) mc_A10 hi11 dX10_letter_56 ?_
          refine lv_topi (fun y12 ey12 => ?_)
          have h := h y12 ey12
          refine lv_istore (lv' := [(5, .int y12), (4, .int r9), (0, .ref (ad 0)), (1, .int x1), (2, .int x2), (3, .int x3)]) hx hb dX10_letter_57 hl (by decide) rfl (fun ls hl => ?_)
          refine lv_iload_n hx hb dX10_letter_59 rfl (lv_at hl 5 rfl) ?_
          refine lv_if_ne (tgt := 68) hx hb dX10_letter_60 (by decide) (fun c13 => ?_) (fun c13 => ?_)
          · have h := h.2 c13
            refine lv_iload_n hx hb dX10_letter_68 rfl (lv_at hl 5 rfl) ?_
            refine lv_iconst (v := (1 : Int32)) hx hb dX10_letter_69 (by decide) ?_
            refine lv_icmp_ne (tgt := 88) hx hb dX10_letter_70 (by decide) (fun c14 => ?_) (fun c14 => ?_)
            · have h := h.2 c14
              refine lv_iload_n hx hb dX10_letter_88 rfl (lv_at hl 5 rfl) ?_
              refine lv_iconst (v := (3 : Int32)) hx hb dX10_letter_89 (by decide) ?_
              refine lv_icmp_ne (tgt := 112) hx hb dX10_letter_90 (by decide) (fun c15 => ?_) (fun c15 => ?_)
              · have h := h.2 c15
                refine lv_aload_n hx hb dX10_letter_112 rfl (lv_at hl 2 rfl) ?_
                refine lv_iload hx hb dX10_letter_113 (lv_at hl 1 rfl) ?_
                refine gCi wd (gRunV (y := yX10_isDeadLetter) (k := 0) (As := [.int r9]) (rest := []) C wd (cmX10_isDeadLetter h) ⟨rfl, rfl⟩ gd_X10_121 nk_X10_isDeadLetter ⟨Nat.le_of_ble_eq_true rfl, Nat.le_of_ble_eq_true rfl⟩ (by decide) mc_X10 rfl rfl hl.1 (Nat.le_of_ble_eq_true rfl) dX10_letter_115 rfl) (fun r17 t16 H locs h wd => ?_)
                try dsimp only at h
                refine lv_if_eq (tgt := 125) hx hb dX10_letter_118 (by decide) (fun c18 => ?_) (fun c18 => ?_)
                · have h := h.1 c18
                  refine lv_iconst (v := (0 : Int32)) hx hb dX10_letter_125 (by decide) ?_
                  exact retI C wd h dX10_letter_126
                · have h := h.2 c18
                  refine lv_iconst (v := (1 : Int32)) hx hb dX10_letter_121 (by decide) ?_
                  refine lv_goto (tgt := 126) hx hb dX10_letter_122 (by decide) ?_
                  exact retI C wd h dX10_letter_126
              · have h := h.1 c15
                refine lv_aload_n hx hb dX10_letter_93 rfl (lv_at hl 2 rfl) ?_
                refine getF C wd (k := 0) (Cn := RX10) (T := TX10) (N := 26) (v := .ref (ad 10)) (by decide) mc_X10 rfl 10 (by decide) rfl inX10 tw4_36 dX10_letter_94 ?_
                refine lv_bipush (v := (13 : Int32)) hx hb dX10_letter_97 (by decide) ?_
                refine lv_iload hx hb dX10_letter_99 (lv_at hl 1 rfl) ?_
                refine lv_imul hx hb dX10_letter_101 ?_
                refine lv_bipush (v := (8 : Int32)) hx hb dX10_letter_102 (by decide) ?_
                refine lv_iadd hx hb dX10_letter_104 ?_
                refine lv_iload hx hb dX10_letter_105 (lv_at hl 0 rfl) ?_
                refine lv_iadd hx hb dX10_letter_107 ?_
                obtain ⟨hi19, h⟩ := h
                refine ldI C wd (k := 10) (N := 520) (by decide) mc_A10 hi19 dX10_letter_108 ?_
                refine lv_goto (tgt := 126) hx hb dX10_letter_109 (by decide) ?_
                exact retI C wd h dX10_letter_126
            · have h := h.1 c14
              refine lv_aload_n hx hb dX10_letter_73 rfl (lv_at hl 2 rfl) ?_
              refine getF C wd (k := 0) (Cn := RX10) (T := TX10) (N := 26) (v := .ref (ad 10)) (by decide) mc_X10 rfl 10 (by decide) rfl inX10 tw4_36 dX10_letter_74 ?_
              refine lv_bipush (v := (13 : Int32)) hx hb dX10_letter_77 (by decide) ?_
              refine lv_iload hx hb dX10_letter_79 (lv_at hl 1 rfl) ?_
              refine lv_imul hx hb dX10_letter_81 ?_
              refine lv_iconst (v := (2 : Int32)) hx hb dX10_letter_82 (by decide) ?_
              refine lv_iadd hx hb dX10_letter_83 ?_
              obtain ⟨hi20, h⟩ := h
              refine ldI C wd (k := 10) (N := 520) (by decide) mc_A10 hi20 dX10_letter_84 ?_
              refine lv_goto (tgt := 126) hx hb dX10_letter_85 (by decide) ?_
              exact retI C wd h dX10_letter_126
          · have h := h.1 c13
            refine lv_iload hx hb dX10_letter_63 (lv_at hl 0 rfl) ?_
            refine lv_goto (tgt := 126) hx hb dX10_letter_65 (by decide) ?_
            exact retI C wd h dX10_letter_126
        · have h := h.1 c10
          refine lv_iconst (v := (-1 : Int32)) hx hb dX10_letter_43 (by decide) ?_
          exact retI C wd h dX10_letter_44
      · have h := h.1 c7
        exact blX10_letter_24 C h wd (lv_sub hl [0] rfl)
abbrev rmX10_sweeps : Room := rmOf 2 48
def wbX10_sweeps_29 (Φ : Int32 → St → Prop) (k_9 : Int32 → Int32 → St → Prop) (x1 : Int32) (x2 : Int32) (σ : St) : Prop :=
  (∀ y1 : Int32, y1 = x2 + (-1 : Int32) → k_9 x1 y1 σ)
set_option maxHeartbeats 4000000 in
set_option maxRecDepth 100000 in
theorem blX10_sweeps_29 {p : Program} {l : Launch} {e : Env} {s : State} {m : MethodId} {args : Array Value} {below : List Frame} {meth : Method} {c : Code} (C : Cx p s m args meth c cX10_sweeps 3 (some .int) RX10) {Φ : Int32 → St → Prop} {k_9 : Int32 → Int32 → St → Prop} (hk_9 : ∀ (x1 : Int32) (x2 : Int32) (σ : St) (H : Heap) (locs : List Loc) (ls : Array Slot), k_9 x1 x2 σ → gWd D (tyL cyI cyO) (mCell ad cyI cyO) ad 16 s H locs σ → lv_has ls 3 [(0, .ref (ad 0)), (1, .int x1), (2, .int x2)] → W p l e rmX10_sweeps s m args below meth c H locs 0 0 (MQ below (gQi D (mCell ad cyI cyO) ad 16 s.heap.size Φ) args s 0 0 (gA ad 16 s.heap.size)) (F0 m 9 ls [])) {x1 : Int32} {x2 : Int32} {σ : St} {H : Heap} {locs : List Loc} {ls : Array Slot} (h : wbX10_sweeps_29 Φ k_9 x1 x2 σ) (wd : gWd D (tyL cyI cyO) (mCell ad cyI cyO) ad 16 s H locs σ) (hl : lv_has ls 3 [(0, .ref (ad 0)), (1, .int x1), (2, .int x2)]) : W p l e rmX10_sweeps s m args below meth c H locs 0 0 (MQ below (gQi D (mCell ad cyI cyO) ad 16 s.heap.size Φ) args s 0 0 (gA ad 16 s.heap.size)) (F0 m 29 ls []) := by
  obtain ⟨hx, hb, hr, hml, hown, hts, hlk⟩ := id C
  unfold wbX10_sweeps_29 at h
  obtain ⟨y1, ey1⟩ : ∃ y : Int32, y = x2 + (-1 : Int32) := ⟨_, rfl⟩
  refine lv_iinc (v := y1) (lv' := [(2, .int y1), (0, .ref (ad 0)), (1, .int x1)]) hx hb dX10_sweeps_29 hl (k := 2) rfl (by rw [ey1]; rfl) (by decide) rfl (fun ls hl => ?_)
  have h := h y1 ey1
  refine lv_goto (tgt := 9) hx hb dX10_sweeps_32 (by decide) ?_
  exact hk_9 _ _ _ _ _ _ h wd (lv_sub hl [1, 2, 0] rfl)
def wlX10_sweeps_9_body (Φ : Int32 → St → Prop) (k_9 : Int32 → Int32 → St → Prop) (x1 : Int32) (x2 : Int32) (σ : St) : Prop :=
  ((x2 < 0 → Φ x1 σ) ∧ (¬ x2 < 0 → wpX10_isDeadLetter x2 σ (fun r3 t2 => ((r3 = 0 → wbX10_sweeps_29 Φ k_9 x1 x2 t2) ∧ (¬ r3 = 0 → wpX10_takeLetter x2 t2 (fun t5 => (∀ y6 : Int32, y6 = x1 + (1 : Int32) → wbX10_sweeps_29 Φ k_9 y6 x2 t5)))))))
def wlX10_sweeps_9 (Φ : Int32 → St → Prop) : Nat → Int32 → Int32 → St → Prop
  | 0 => fun _ _ _ => False
  | N + 1 => fun x1 x2 σ => wlX10_sweeps_9_body Φ (wlX10_sweeps_9 Φ N) x1 x2 σ
set_option maxHeartbeats 4000000 in
set_option maxRecDepth 100000 in
theorem llX10_sweeps_9 {p : Program} {l : Launch} {e : Env} {s : State} {m : MethodId} {args : Array Value} {below : List Frame} {meth : Method} {c : Code} (C : Cx p s m args meth c cX10_sweeps 3 (some .int) RX10) {Φ : Int32 → St → Prop} : ∀ (N : Nat) (x1 : Int32) (x2 : Int32) (σ : St) (H : Heap) (locs : List Loc) (ls : Array Slot), wlX10_sweeps_9 Φ N x1 x2 σ → gWd D (tyL cyI cyO) (mCell ad cyI cyO) ad 16 s H locs σ → lv_has ls 3 [(0, .ref (ad 0)), (1, .int x1), (2, .int x2)] → W p l e rmX10_sweeps s m args below meth c H locs 0 0 (MQ below (gQi D (mCell ad cyI cyO) ad 16 s.heap.size Φ) args s 0 0 (gA ad 16 s.heap.size)) (F0 m 9 ls []) := by
  obtain ⟨hx, hb, hr, hml, hown, hts, hlk⟩ := id C
  intro N
  induction N with
  | zero =>
    intro x1 x2 σ H locs ls h
    exact False.elim h
  | succ N ih =>
    intro x1 x2 σ H locs ls h wd hl
    have h : wlX10_sweeps_9_body Φ (wlX10_sweeps_9 Φ N) x1 x2 σ := h
    have hk_9 := ih
    unfold wlX10_sweeps_9_body at h
    refine lv_iload_n hx hb dX10_sweeps_9 rfl (lv_at hl 2 rfl) ?_
    refine lv_if_lt (tgt := 35) hx hb dX10_sweeps_10 (by decide) (fun c1 => ?_) (fun c1 => ?_)
    · have h := h.1 c1
      refine lv_iload_n hx hb dX10_sweeps_35 rfl (lv_at hl 1 rfl) ?_
      exact retI C wd h dX10_sweeps_36
    · have h := h.2 c1
      refine lv_aload_n hx hb dX10_sweeps_13 rfl (lv_at hl 0 rfl) ?_
      refine lv_iload_n hx hb dX10_sweeps_14 rfl (lv_at hl 2 rfl) ?_
      refine gCi wd (gRunV (y := yX10_isDeadLetter) (k := 0) (As := [.int x2]) (rest := []) C wd (cmX10_isDeadLetter h) ⟨rfl, rfl⟩ gd_X10_121 nk_X10_isDeadLetter ⟨Nat.le_of_ble_eq_true rfl, Nat.le_of_ble_eq_true rfl⟩ (by decide) mc_X10 rfl rfl hl.1 (Nat.le_of_ble_eq_true rfl) dX10_sweeps_15 rfl) (fun r3 t2 H locs h wd => ?_)
      try dsimp only at h
      refine lv_if_eq (tgt := 29) hx hb dX10_sweeps_18 (by decide) (fun c4 => ?_) (fun c4 => ?_)
      · have h := h.1 c4
        exact blX10_sweeps_29 C hk_9 h wd (lv_sub hl [0, 1, 2] rfl)
      · have h := h.2 c4
        refine lv_aload_n hx hb dX10_sweeps_21 rfl (lv_at hl 0 rfl) ?_
        refine lv_iload_n hx hb dX10_sweeps_22 rfl (lv_at hl 2 rfl) ?_
        refine gCv wd (gRunV (y := yX10_takeLetter) (k := 0) (As := [.int x2]) (rest := []) C wd (cmX10_takeLetter h) ⟨rfl, rfl⟩ gd_X10_124 nk_X10_takeLetter ⟨Nat.le_of_ble_eq_true rfl, Nat.le_of_ble_eq_true rfl⟩ (by decide) mc_X10 rfl rfl hl.1 (Nat.le_of_ble_eq_true rfl) dX10_sweeps_23 rfl) (fun t5 H locs h wd => ?_)
        try dsimp only at h
        obtain ⟨y6, ey6⟩ : ∃ y : Int32, y = x1 + (1 : Int32) := ⟨_, rfl⟩
        refine lv_iinc (v := y6) (lv' := [(1, .int y6), (0, .ref (ad 0)), (2, .int x2)]) hx hb dX10_sweeps_26 hl (k := 1) rfl (by rw [ey6]; rfl) (by decide) rfl (fun ls hl => ?_)
        have h := h y6 ey6
        exact blX10_sweeps_29 C hk_9 h wd (lv_sub hl [1, 0, 2] rfl)
def wpX10_sweeps (σ : St) (Φ : Int32 → St → Prop) : Prop :=
  (∀ y1 : Int32, y1 = (σ.1 11) - (1 : Int32) → (∃ N, wlX10_sweeps_9 Φ N (0 : Int32) y1 σ))
set_option maxHeartbeats 4000000 in
set_option maxRecDepth 100000 in
theorem cmX10_sweeps {D : va_G} {cyI cyO : ClassId} {ad : Nat → Nat} {l : Launch} {σ : St} {sz : Nat} {Φ : Int32 → St → Prop} (h : wpX10_sweeps σ Φ) : gMet D (tyL cyI cyO) (mCell ad cyI cyO) ad 16 l yX10_sweeps cX10_sweeps 3 (some .int) rmX10_sweeps [.ref (ad 0)] σ sz (gQi D (mCell ad cyI cyO) ad 16 sz Φ) := by
  refine gMet.of (by decide) (Nat.le_of_ble_eq_true rfl) ?_
  intro p e s m below meth c ls hsz C hl wd
  subst hsz
  have C : Cx p s m _ meth c cX10_sweeps 3 (some .int) RX10 := C
  obtain ⟨hx, hb, hr, hml, hown, hts, hlk⟩ := id C
  have hl : lv_has ls 3 [(0, .ref (ad 0))] := hl
  unfold wpX10_sweeps at h
  refine lv_iconst (v := (0 : Int32)) hx hb dX10_sweeps_0 (by decide) ?_
  refine lv_istore_n (lv' := [(1, .int (0 : Int32)), (0, .ref (ad 0))]) hx hb dX10_sweeps_1 rfl hl (by decide) rfl (fun ls hl => ?_)
  refine lv_aload_n hx hb dX10_sweeps_2 rfl (lv_at hl 1 rfl) ?_
  refine getF C wd (k := 0) (Cn := RX10) (T := TX10) (N := 26) (v := .int (σ.1 11)) (by decide) mc_X10 rfl 11 (by decide) rfl inX10 tw4_37 dX10_sweeps_3 ?_
  refine lv_iconst (v := (1 : Int32)) hx hb dX10_sweeps_6 (by decide) ?_
  refine lv_isub hx hb dX10_sweeps_7 ?_
  refine lv_topi (fun y1 ey1 => ?_)
  have h := h y1 ey1
  refine lv_istore_n (lv' := [(2, .int y1), (1, .int (0 : Int32)), (0, .ref (ad 0))]) hx hb dX10_sweeps_8 rfl hl (by decide) rfl (fun ls hl => ?_)
  obtain ⟨N, h⟩ := h
  exact llX10_sweeps_9 C N _ _ _ _ _ _ h wd (lv_sub hl [2, 1, 0] rfl)
abbrev rmX10_says : Room := rmOf 2 46
def wpX10_says (x1 : Int32) (σ : St) (Φ : Int32 → St → Prop) : Prop :=
  wpX10_isClerk x1 σ (fun r2 t1 => ((r2 = 0 → wpX10_bad t1 (fun r5 t4 => Φ r5 t4)) ∧ (¬ r2 = 0 → wpX10_saysNow x1 t1 (fun r7 t6 => wpX10_tells r7 t6 (fun r9 t8 => Φ r9 t8)))))
set_option maxHeartbeats 4000000 in
set_option maxRecDepth 100000 in
theorem cmX10_says {D : va_G} {cyI cyO : ClassId} {ad : Nat → Nat} {l : Launch} {x1 : Int32} {σ : St} {sz : Nat} {Φ : Int32 → St → Prop} (h : wpX10_says x1 σ Φ) : gMet D (tyL cyI cyO) (mCell ad cyI cyO) ad 16 l yX10_says cX10_says 2 (some .int) rmX10_says [.ref (ad 0), .int x1] σ sz (gQi D (mCell ad cyI cyO) ad 16 sz Φ) := by
  refine gMet.of (by decide) (Nat.le_of_ble_eq_true rfl) ?_
  intro p e s m below meth c ls hsz C hl wd
  subst hsz
  have C : Cx p s m _ meth c cX10_says 2 (some .int) RX10 := C
  obtain ⟨hx, hb, hr, hml, hown, hts, hlk⟩ := id C
  have hl : lv_has ls 2 [(0, .ref (ad 0)), (1, .int x1)] := hl
  unfold wpX10_says at h
  refine lv_aload_n hx hb dX10_says_0 rfl (lv_at hl 0 rfl) ?_
  refine lv_iload_n hx hb dX10_says_1 rfl (lv_at hl 1 rfl) ?_
  refine gCi wd (gRunV (y := yX10_isClerk) (k := 0) (As := [.int x1]) (rest := []) C wd (cmX10_isClerk h) ⟨rfl, rfl⟩ gd_X10_98 nk_X10_isClerk ⟨Nat.le_of_ble_eq_true rfl, Nat.le_of_ble_eq_true rfl⟩ (by decide) mc_X10 rfl rfl hl.1 (Nat.le_of_ble_eq_true rfl) dX10_says_2 rfl) (fun r2 t1 H locs h wd => ?_)
  try dsimp only at h
  refine lv_if_eq (tgt := 20) hx hb dX10_says_5 (by decide) (fun c3 => ?_) (fun c3 => ?_)
  · have h := h.1 c3
    refine lv_aload_n hx hb dX10_says_20 rfl (lv_at hl 0 rfl) ?_
    refine gCi wd (gRunV (y := yX10_bad) (k := 0) (As := []) (rest := []) C wd (cmX10_bad h) ⟨rfl, rfl⟩ gd_X10_87 nk_X10_bad ⟨Nat.le_of_ble_eq_true rfl, Nat.le_of_ble_eq_true rfl⟩ (by decide) mc_X10 rfl rfl hl.1 (Nat.le_of_ble_eq_true rfl) dX10_says_21 rfl) (fun r5 t4 H locs h wd => ?_)
    try dsimp only at h
    exact retI C wd h dX10_says_24
  · have h := h.2 c3
    refine lv_aload_n hx hb dX10_says_8 rfl (lv_at hl 0 rfl) ?_
    refine lv_aload_n hx hb dX10_says_9 rfl (lv_at hl 0 rfl) ?_
    refine lv_iload_n hx hb dX10_says_10 rfl (lv_at hl 1 rfl) ?_
    refine gCi wd (gRunV (y := yX10_saysNow) (k := 0) (As := [.int x1]) (rest := [.ref (ad 0)]) C wd (cmX10_saysNow h) ⟨rfl, rfl⟩ gd_X10_188 nk_X10_saysNow ⟨Nat.le_of_ble_eq_true rfl, Nat.le_of_ble_eq_true rfl⟩ (by decide) mc_X10 rfl rfl hl.1 (Nat.le_of_ble_eq_true rfl) dX10_says_11 rfl) (fun r7 t6 H locs h wd => ?_)
    try dsimp only at h
    refine gCi wd (gRunV (y := yX10_tells) (k := 0) (As := [.int r7]) (rest := []) C wd (cmX10_tells h) ⟨rfl, rfl⟩ gd_X10_107 nk_X10_tells ⟨Nat.le_of_ble_eq_true rfl, Nat.le_of_ble_eq_true rfl⟩ (by decide) mc_X10 rfl rfl hl.1 (Nat.le_of_ble_eq_true rfl) dX10_says_14 rfl) (fun r9 t8 H locs h wd => ?_)
    try dsimp only at h
    refine lv_goto (tgt := 24) hx hb dX10_says_17 (by decide) ?_
    exact retI C wd h dX10_says_24
abbrev rmX10_isSafe : Room := rmOf 3 67
def wpX10_isSafe (x1 : Int32) (σ : St) (Φ : Int32 → St → Prop) : Prop :=
  (vp_in (((3 : Int32) * x1) + (2 : Int32)) 90 ∧ (((rd σ 11 (((3 : Int32) * x1) + (2 : Int32))) = 0 → (vp_in ((3 : Int32) * x1) 90 ∧ (vp_in (((3 : Int32) * x1) + (1 : Int32)) 90 ∧ wpX10_isFirm (rd σ 11 ((3 : Int32) * x1)) (rd σ 11 (((3 : Int32) * x1) + (1 : Int32))) σ (fun r6 t5 => ((r6 = 0 → Φ (0 : Int32) t5) ∧ (¬ r6 = 0 → Φ (1 : Int32) t5)))))) ∧ (¬ (rd σ 11 (((3 : Int32) * x1) + (2 : Int32))) = 0 → Φ (0 : Int32) σ)))
set_option maxHeartbeats 4000000 in
set_option maxRecDepth 100000 in
theorem cmX10_isSafe {D : va_G} {cyI cyO : ClassId} {ad : Nat → Nat} {l : Launch} {x1 : Int32} {σ : St} {sz : Nat} {Φ : Int32 → St → Prop} (h : wpX10_isSafe x1 σ Φ) : gMet D (tyL cyI cyO) (mCell ad cyI cyO) ad 16 l yX10_isSafe cX10_isSafe 2 (some .boolean) rmX10_isSafe [.ref (ad 0), .int x1] σ sz (gQi D (mCell ad cyI cyO) ad 16 sz Φ) := by
  refine gMet.of (by decide) (Nat.le_of_ble_eq_true rfl) ?_
  intro p e s m below meth c ls hsz C hl wd
  subst hsz
  have C : Cx p s m _ meth c cX10_isSafe 2 (some .boolean) RX10 := C
  obtain ⟨hx, hb, hr, hml, hown, hts, hlk⟩ := id C
  have hl : lv_has ls 2 [(0, .ref (ad 0)), (1, .int x1)] := hl
  unfold wpX10_isSafe at h
  refine lv_aload_n hx hb dX10_isSafe_0 rfl (lv_at hl 0 rfl) ?_
  refine getF C wd (k := 0) (Cn := RX10) (T := TX10) (N := 26) (v := .ref (ad 11)) (by decide) mc_X10 rfl 12 (by decide) rfl inX10 tw4_38 dX10_isSafe_1 ?_
  refine lv_iconst (v := (3 : Int32)) hx hb dX10_isSafe_4 (by decide) ?_
  refine lv_iload_n hx hb dX10_isSafe_5 rfl (lv_at hl 1 rfl) ?_
  refine lv_imul hx hb dX10_isSafe_6 ?_
  refine lv_iconst (v := (2 : Int32)) hx hb dX10_isSafe_7 (by decide) ?_
  refine lv_iadd hx hb dX10_isSafe_8 ?_
  obtain ⟨hi1, h⟩ := h
  refine ldI C wd (k := 11) (N := 90) (by decide) mc_A11 hi1 dX10_isSafe_9 ?_
  refine lv_if_ne (tgt := 42) hx hb dX10_isSafe_10 (by decide) (fun c2 => ?_) (fun c2 => ?_)
  · have h := h.2 c2
    refine lv_iconst (v := (0 : Int32)) hx hb dX10_isSafe_42 (by decide) ?_
    exact retZ C wd rfl h dX10_isSafe_43
  · have h := h.1 c2
    refine lv_aload_n hx hb dX10_isSafe_13 rfl (lv_at hl 0 rfl) ?_
    refine lv_aload_n hx hb dX10_isSafe_14 rfl (lv_at hl 0 rfl) ?_
    refine getF C wd (k := 0) (Cn := RX10) (T := TX10) (N := 26) (v := .ref (ad 11)) (by decide) mc_X10 rfl 12 (by decide) rfl inX10 tw4_38 dX10_isSafe_15 ?_
    refine lv_iconst (v := (3 : Int32)) hx hb dX10_isSafe_18 (by decide) ?_
    refine lv_iload_n hx hb dX10_isSafe_19 rfl (lv_at hl 1 rfl) ?_
    refine lv_imul hx hb dX10_isSafe_20 ?_
    obtain ⟨hi3, h⟩ := h
    refine ldI C wd (k := 11) (N := 90) (by decide) mc_A11 hi3 dX10_isSafe_21 ?_
    refine lv_aload_n hx hb dX10_isSafe_22 rfl (lv_at hl 0 rfl) ?_
    refine getF C wd (k := 0) (Cn := RX10) (T := TX10) (N := 26) (v := .ref (ad 11)) (by decide) mc_X10 rfl 12 (by decide) rfl inX10 tw4_38 dX10_isSafe_23 ?_
    refine lv_iconst (v := (3 : Int32)) hx hb dX10_isSafe_26 (by decide) ?_
    refine lv_iload_n hx hb dX10_isSafe_27 rfl (lv_at hl 1 rfl) ?_
    refine lv_imul hx hb dX10_isSafe_28 ?_
    refine lv_iconst (v := (1 : Int32)) hx hb dX10_isSafe_29 (by decide) ?_
    refine lv_iadd hx hb dX10_isSafe_30 ?_
    obtain ⟨hi4, h⟩ := h
    refine ldI C wd (k := 11) (N := 90) (by decide) mc_A11 hi4 dX10_isSafe_31 ?_
    refine gCi wd (gRunV (y := yX10_isFirm) (k := 0) (As := [.int (rd σ 11 ((3 : Int32) * x1)), .int (rd σ 11 (((3 : Int32) * x1) + (1 : Int32)))]) (rest := []) C wd (cmX10_isFirm h) ⟨rfl, rfl⟩ gd_X10_191 nk_X10_isFirm ⟨Nat.le_of_ble_eq_true rfl, Nat.le_of_ble_eq_true rfl⟩ (by decide) mc_X10 rfl rfl hl.1 (Nat.le_of_ble_eq_true rfl) dX10_isSafe_32 rfl) (fun r6 t5 H locs h wd => ?_)
    try dsimp only at h
    refine lv_if_eq (tgt := 42) hx hb dX10_isSafe_35 (by decide) (fun c7 => ?_) (fun c7 => ?_)
    · have h := h.1 c7
      refine lv_iconst (v := (0 : Int32)) hx hb dX10_isSafe_42 (by decide) ?_
      exact retZ C wd rfl h dX10_isSafe_43
    · have h := h.2 c7
      refine lv_iconst (v := (1 : Int32)) hx hb dX10_isSafe_38 (by decide) ?_
      refine lv_goto (tgt := 43) hx hb dX10_isSafe_39 (by decide) ?_
      exact retZ C wd rfl h dX10_isSafe_43
abbrev rmX10_firstSafe : Room := rmOf 4 88
def wbX10_firstSafe_61 (Φ : Int32 → St → Prop) (k_6 : Int32 → Int32 → Int32 → St → Prop) (x1 : Int32) (x2 : Int32) (x3 : Int32) (σ : St) : Prop :=
  (∀ y1 : Int32, y1 = x3 + (1 : Int32) → k_6 x1 x2 y1 σ)
set_option maxHeartbeats 4000000 in
set_option maxRecDepth 100000 in
theorem blX10_firstSafe_61 {p : Program} {l : Launch} {e : Env} {s : State} {m : MethodId} {args : Array Value} {below : List Frame} {meth : Method} {c : Code} (C : Cx p s m args meth c cX10_firstSafe 5 (some .int) RX10) {Φ : Int32 → St → Prop} {k_6 : Int32 → Int32 → Int32 → St → Prop} (hk_6 : ∀ (x1 : Int32) (x2 : Int32) (x3 : Int32) (σ : St) (H : Heap) (locs : List Loc) (ls : Array Slot), k_6 x1 x2 x3 σ → gWd D (tyL cyI cyO) (mCell ad cyI cyO) ad 16 s H locs σ → lv_has ls 5 [(0, .ref (ad 0)), (1, .int x1), (2, .int x2), (3, .int x3)] → W p l e rmX10_firstSafe s m args below meth c H locs 0 0 (MQ below (gQi D (mCell ad cyI cyO) ad 16 s.heap.size Φ) args s 0 0 (gA ad 16 s.heap.size)) (F0 m 6 ls [])) {x1 : Int32} {x2 : Int32} {x3 : Int32} {σ : St} {H : Heap} {locs : List Loc} {ls : Array Slot} (h : wbX10_firstSafe_61 Φ k_6 x1 x2 x3 σ) (wd : gWd D (tyL cyI cyO) (mCell ad cyI cyO) ad 16 s H locs σ) (hl : lv_has ls 5 [(0, .ref (ad 0)), (1, .int x1), (2, .int x2), (3, .int x3)]) : W p l e rmX10_firstSafe s m args below meth c H locs 0 0 (MQ below (gQi D (mCell ad cyI cyO) ad 16 s.heap.size Φ) args s 0 0 (gA ad 16 s.heap.size)) (F0 m 61 ls []) := by
  obtain ⟨hx, hb, hr, hml, hown, hts, hlk⟩ := id C
  unfold wbX10_firstSafe_61 at h
  obtain ⟨y1, ey1⟩ : ∃ y : Int32, y = x3 + (1 : Int32) := ⟨_, rfl⟩
  refine lv_iinc (v := y1) (lv' := [(3, .int y1), (0, .ref (ad 0)), (1, .int x1), (2, .int x2)]) hx hb dX10_firstSafe_61 hl (k := 3) rfl (by rw [ey1]; rfl) (by decide) rfl (fun ls hl => ?_)
  have h := h y1 ey1
  refine lv_goto (tgt := 6) hx hb dX10_firstSafe_64 (by decide) ?_
  exact hk_6 _ _ _ _ _ _ _ h wd (lv_sub hl [1, 2, 3, 0] rfl)
def wbX10_firstSafe_56 (Φ : Int32 → St → Prop) (k_6 : Int32 → Int32 → Int32 → St → Prop) (x3 : Int32) (x4 : Int32) (σ : St) : Prop :=
  wbX10_firstSafe_61 Φ k_6 x3 x4 x3 σ
set_option maxHeartbeats 4000000 in
set_option maxRecDepth 100000 in
theorem blX10_firstSafe_56 {p : Program} {l : Launch} {e : Env} {s : State} {m : MethodId} {args : Array Value} {below : List Frame} {meth : Method} {c : Code} (C : Cx p s m args meth c cX10_firstSafe 5 (some .int) RX10) {Φ : Int32 → St → Prop} {k_6 : Int32 → Int32 → Int32 → St → Prop} (hk_6 : ∀ (x1 : Int32) (x2 : Int32) (x3 : Int32) (σ : St) (H : Heap) (locs : List Loc) (ls : Array Slot), k_6 x1 x2 x3 σ → gWd D (tyL cyI cyO) (mCell ad cyI cyO) ad 16 s H locs σ → lv_has ls 5 [(0, .ref (ad 0)), (1, .int x1), (2, .int x2), (3, .int x3)] → W p l e rmX10_firstSafe s m args below meth c H locs 0 0 (MQ below (gQi D (mCell ad cyI cyO) ad 16 s.heap.size Φ) args s 0 0 (gA ad 16 s.heap.size)) (F0 m 6 ls [])) {x3 : Int32} {x4 : Int32} {σ : St} {H : Heap} {locs : List Loc} {ls : Array Slot} (h : wbX10_firstSafe_56 Φ k_6 x3 x4 σ) (wd : gWd D (tyL cyI cyO) (mCell ad cyI cyO) ad 16 s H locs σ) (hl : lv_has ls 5 [(0, .ref (ad 0)), (3, .int x3), (4, .int x4)]) : W p l e rmX10_firstSafe s m args below meth c H locs 0 0 (MQ below (gQi D (mCell ad cyI cyO) ad 16 s.heap.size Φ) args s 0 0 (gA ad 16 s.heap.size)) (F0 m 56 ls []) := by
  obtain ⟨hx, hb, hr, hml, hown, hts, hlk⟩ := id C
  unfold wbX10_firstSafe_56 at h
  refine lv_iload_n hx hb dX10_firstSafe_56 rfl (lv_at hl 1 rfl) ?_
  refine lv_istore_n (lv' := [(1, .int x3), (0, .ref (ad 0)), (3, .int x3), (4, .int x4)]) hx hb dX10_firstSafe_57 rfl hl (by decide) rfl (fun ls hl => ?_)
  refine lv_iload hx hb dX10_firstSafe_58 (lv_at hl 3 rfl) ?_
  refine lv_istore_n (lv' := [(2, .int x4), (1, .int x3), (0, .ref (ad 0)), (3, .int x3), (4, .int x4)]) hx hb dX10_firstSafe_60 rfl hl (by decide) rfl (fun ls hl => ?_)
  exact blX10_firstSafe_61 C hk_6 h wd (lv_sub hl [2, 1, 0, 3] rfl)
def wlX10_firstSafe_6_body (Φ : Int32 → St → Prop) (k_6 : Int32 → Int32 → Int32 → St → Prop) (x1 : Int32) (x2 : Int32) (x3 : Int32) (σ : St) : Prop :=
  (((σ.1 13) ≤ x3 → Φ x1 σ) ∧ (¬ (σ.1 13) ≤ x3 → (vp_in (((3 : Int32) * x3) + (1 : Int32)) 90 ∧ (vp_in ((3 : Int32) * x3) 90 ∧ (∀ y4 : Int32, y4 = ((5 : Int32) * (rd σ 11 (((3 : Int32) * x3) + (1 : Int32)))) + (rd σ 11 ((3 : Int32) * x3)) → wpX10_isSafe x3 σ (fun r6 t5 => ((r6 = 0 → wbX10_firstSafe_61 Φ k_6 x1 x2 x3 t5) ∧ (¬ r6 = 0 → ((x1 = (-1 : Int32) → wbX10_firstSafe_56 Φ k_6 x3 y4 t5) ∧ (¬ x1 = (-1 : Int32) → ((x2 ≤ y4 → wbX10_firstSafe_61 Φ k_6 x1 x2 x3 t5) ∧ (¬ x2 ≤ y4 → wbX10_firstSafe_56 Φ k_6 x3 y4 t5))))))))))))
def wlX10_firstSafe_6 (Φ : Int32 → St → Prop) : Nat → Int32 → Int32 → Int32 → St → Prop
  | 0 => fun _ _ _ _ => False
  | N + 1 => fun x1 x2 x3 σ => wlX10_firstSafe_6_body Φ (wlX10_firstSafe_6 Φ N) x1 x2 x3 σ
set_option maxHeartbeats 4000000 in
set_option maxRecDepth 100000 in
theorem llX10_firstSafe_6 {p : Program} {l : Launch} {e : Env} {s : State} {m : MethodId} {args : Array Value} {below : List Frame} {meth : Method} {c : Code} (C : Cx p s m args meth c cX10_firstSafe 5 (some .int) RX10) {Φ : Int32 → St → Prop} : ∀ (N : Nat) (x1 : Int32) (x2 : Int32) (x3 : Int32) (σ : St) (H : Heap) (locs : List Loc) (ls : Array Slot), wlX10_firstSafe_6 Φ N x1 x2 x3 σ → gWd D (tyL cyI cyO) (mCell ad cyI cyO) ad 16 s H locs σ → lv_has ls 5 [(0, .ref (ad 0)), (1, .int x1), (2, .int x2), (3, .int x3)] → W p l e rmX10_firstSafe s m args below meth c H locs 0 0 (MQ below (gQi D (mCell ad cyI cyO) ad 16 s.heap.size Φ) args s 0 0 (gA ad 16 s.heap.size)) (F0 m 6 ls []) := by
  obtain ⟨hx, hb, hr, hml, hown, hts, hlk⟩ := id C
  intro N
  induction N with
  | zero =>
    intro x1 x2 x3 σ H locs ls h
    exact False.elim h
  | succ N ih =>
    intro x1 x2 x3 σ H locs ls h wd hl
    have h : wlX10_firstSafe_6_body Φ (wlX10_firstSafe_6 Φ N) x1 x2 x3 σ := h
    have hk_6 := ih
    unfold wlX10_firstSafe_6_body at h
    refine lv_iload_n hx hb dX10_firstSafe_6 rfl (lv_at hl 3 rfl) ?_
    refine lv_aload_n hx hb dX10_firstSafe_7 rfl (lv_at hl 0 rfl) ?_
    refine getF C wd (k := 0) (Cn := RX10) (T := TX10) (N := 26) (v := .int (σ.1 13)) (by decide) mc_X10 rfl 13 (by decide) rfl inX10 tw4_39 dX10_firstSafe_8 ?_
    refine lv_icmp_ge (tgt := 67) hx hb dX10_firstSafe_11 (by decide) (fun c1 => ?_) (fun c1 => ?_)
    · have h := h.1 c1
      refine lv_iload_n hx hb dX10_firstSafe_67 rfl (lv_at hl 1 rfl) ?_
      exact retI C wd h dX10_firstSafe_68
    · have h := h.2 c1
      refine lv_iconst (v := (5 : Int32)) hx hb dX10_firstSafe_14 (by decide) ?_
      refine lv_aload_n hx hb dX10_firstSafe_15 rfl (lv_at hl 0 rfl) ?_
      refine getF C wd (k := 0) (Cn := RX10) (T := TX10) (N := 26) (v := .ref (ad 11)) (by decide) mc_X10 rfl 12 (by decide) rfl inX10 tw4_38 dX10_firstSafe_16 ?_
      refine lv_iconst (v := (3 : Int32)) hx hb dX10_firstSafe_19 (by decide) ?_
      refine lv_iload_n hx hb dX10_firstSafe_20 rfl (lv_at hl 3 rfl) ?_
      refine lv_imul hx hb dX10_firstSafe_21 ?_
      refine lv_iconst (v := (1 : Int32)) hx hb dX10_firstSafe_22 (by decide) ?_
      refine lv_iadd hx hb dX10_firstSafe_23 ?_
      obtain ⟨hi2, h⟩ := h
      refine ldI C wd (k := 11) (N := 90) (by decide) mc_A11 hi2 dX10_firstSafe_24 ?_
      refine lv_imul hx hb dX10_firstSafe_25 ?_
      refine lv_aload_n hx hb dX10_firstSafe_26 rfl (lv_at hl 0 rfl) ?_
      refine getF C wd (k := 0) (Cn := RX10) (T := TX10) (N := 26) (v := .ref (ad 11)) (by decide) mc_X10 rfl 12 (by decide) rfl inX10 tw4_38 dX10_firstSafe_27 ?_
      refine lv_iconst (v := (3 : Int32)) hx hb dX10_firstSafe_30 (by decide) ?_
      refine lv_iload_n hx hb dX10_firstSafe_31 rfl (lv_at hl 3 rfl) ?_
      refine lv_imul hx hb dX10_firstSafe_32 ?_
      obtain ⟨hi3, h⟩ := h
      refine ldI C wd (k := 11) (N := 90) (by decide) mc_A11 hi3 dX10_firstSafe_33 ?_
      refine lv_iadd hx hb dX10_firstSafe_34 ?_
      refine lv_topi (fun y4 ey4 => ?_)
      have h := h y4 ey4
      refine lv_istore (lv' := [(4, .int y4), (0, .ref (ad 0)), (1, .int x1), (2, .int x2), (3, .int x3)]) hx hb dX10_firstSafe_35 hl (by decide) rfl (fun ls hl => ?_)
      refine lv_aload_n hx hb dX10_firstSafe_37 rfl (lv_at hl 1 rfl) ?_
      refine lv_iload_n hx hb dX10_firstSafe_38 rfl (lv_at hl 4 rfl) ?_
      refine gCi wd (gRunV (y := yX10_isSafe) (k := 0) (As := [.int x3]) (rest := []) C wd (cmX10_isSafe h) ⟨rfl, rfl⟩ gd_X10_213 nk_X10_isSafe ⟨Nat.le_of_ble_eq_true rfl, Nat.le_of_ble_eq_true rfl⟩ (by decide) mc_X10 rfl rfl hl.1 (Nat.le_of_ble_eq_true rfl) dX10_firstSafe_39 rfl) (fun r6 t5 H locs h wd => ?_)
      try dsimp only at h
      refine lv_if_eq (tgt := 61) hx hb dX10_firstSafe_42 (by decide) (fun c7 => ?_) (fun c7 => ?_)
      · have h := h.1 c7
        exact blX10_firstSafe_61 C hk_6 h wd (lv_sub hl [1, 2, 3, 4] rfl)
      · have h := h.2 c7
        refine lv_iload_n hx hb dX10_firstSafe_45 rfl (lv_at hl 2 rfl) ?_
        refine lv_iconst (v := (-1 : Int32)) hx hb dX10_firstSafe_46 (by decide) ?_
        refine lv_icmp_eq (tgt := 56) hx hb dX10_firstSafe_47 (by decide) (fun c8 => ?_) (fun c8 => ?_)
        · have h := h.1 c8
          exact blX10_firstSafe_56 C hk_6 h wd (lv_sub hl [1, 4, 0] rfl)
        · have h := h.2 c8
          refine lv_iload hx hb dX10_firstSafe_50 (lv_at hl 0 rfl) ?_
          refine lv_iload_n hx hb dX10_firstSafe_52 rfl (lv_at hl 3 rfl) ?_
          refine lv_icmp_ge (tgt := 61) hx hb dX10_firstSafe_53 (by decide) (fun c9 => ?_) (fun c9 => ?_)
          · have h := h.1 c9
            exact blX10_firstSafe_61 C hk_6 h wd (lv_sub hl [1, 2, 3, 4] rfl)
          · have h := h.2 c9
            exact blX10_firstSafe_56 C hk_6 h wd (lv_sub hl [1, 4, 0] rfl)
def wpX10_firstSafe (σ : St) (Φ : Int32 → St → Prop) : Prop :=
  (∃ N, wlX10_firstSafe_6 Φ N (-1 : Int32) (0 : Int32) (0 : Int32) σ)
set_option maxHeartbeats 4000000 in
set_option maxRecDepth 100000 in
theorem cmX10_firstSafe {D : va_G} {cyI cyO : ClassId} {ad : Nat → Nat} {l : Launch} {σ : St} {sz : Nat} {Φ : Int32 → St → Prop} (h : wpX10_firstSafe σ Φ) : gMet D (tyL cyI cyO) (mCell ad cyI cyO) ad 16 l yX10_firstSafe cX10_firstSafe 5 (some .int) rmX10_firstSafe [.ref (ad 0)] σ sz (gQi D (mCell ad cyI cyO) ad 16 sz Φ) := by
  refine gMet.of (by decide) (Nat.le_of_ble_eq_true rfl) ?_
  intro p e s m below meth c ls hsz C hl wd
  subst hsz
  have C : Cx p s m _ meth c cX10_firstSafe 5 (some .int) RX10 := C
  obtain ⟨hx, hb, hr, hml, hown, hts, hlk⟩ := id C
  have hl : lv_has ls 5 [(0, .ref (ad 0))] := hl
  unfold wpX10_firstSafe at h
  refine lv_iconst (v := (-1 : Int32)) hx hb dX10_firstSafe_0 (by decide) ?_
  refine lv_istore_n (lv' := [(1, .int (-1 : Int32)), (0, .ref (ad 0))]) hx hb dX10_firstSafe_1 rfl hl (by decide) rfl (fun ls hl => ?_)
  refine lv_iconst (v := (0 : Int32)) hx hb dX10_firstSafe_2 (by decide) ?_
  refine lv_istore_n (lv' := [(2, .int (0 : Int32)), (1, .int (-1 : Int32)), (0, .ref (ad 0))]) hx hb dX10_firstSafe_3 rfl hl (by decide) rfl (fun ls hl => ?_)
  refine lv_iconst (v := (0 : Int32)) hx hb dX10_firstSafe_4 (by decide) ?_
  refine lv_istore_n (lv' := [(3, .int (0 : Int32)), (2, .int (0 : Int32)), (1, .int (-1 : Int32)), (0, .ref (ad 0))]) hx hb dX10_firstSafe_5 rfl hl (by decide) rfl (fun ls hl => ?_)
  obtain ⟨N, h⟩ := h
  exact llX10_firstSafe_6 C N _ _ _ _ _ _ _ h wd (lv_sub hl [3, 2, 1, 0] rfl)
abbrev rmX10_releases : Room := rmOf 5 112
def wlX10_releases_7_body (Φ : Int32 → St → Prop) (k_7 : Int32 → Int32 → St → Prop) (x1 : Int32) (x2 : Int32) (σ : St) : Prop :=
  ((x2 = (-1 : Int32) → Φ x1 σ) ∧ (¬ x2 = (-1 : Int32) → (vp_in (((3 : Int32) * x2) + (2 : Int32)) 90 ∧ ∀ t3 : St, t3 = wr σ 11 (((3 : Int32) * x2) + (2 : Int32)) (1 : Int32) → (vp_in (t3.1 15) 30 ∧ ∀ t5 : St, t5 = wr t3 12 (t3.1 15) x2 → (∀ t6 : St, t6 = setI t5 15 ((t5.1 15) + (1 : Int32)) → (∀ y7 : Int32, y7 = x1 + (1 : Int32) → wpX10_firstSafe t6 (fun r9 t8 => k_7 y7 r9 t8)))))))
def wlX10_releases_7 (Φ : Int32 → St → Prop) : Nat → Int32 → Int32 → St → Prop
  | 0 => fun _ _ _ => False
  | N + 1 => fun x1 x2 σ => wlX10_releases_7_body Φ (wlX10_releases_7 Φ N) x1 x2 σ
set_option maxHeartbeats 4000000 in
set_option maxRecDepth 100000 in
theorem llX10_releases_7 {p : Program} {l : Launch} {e : Env} {s : State} {m : MethodId} {args : Array Value} {below : List Frame} {meth : Method} {c : Code} (C : Cx p s m args meth c cX10_releases 3 (some .int) RX10) {Φ : Int32 → St → Prop} : ∀ (N : Nat) (x1 : Int32) (x2 : Int32) (σ : St) (H : Heap) (locs : List Loc) (ls : Array Slot), wlX10_releases_7 Φ N x1 x2 σ → gWd D (tyL cyI cyO) (mCell ad cyI cyO) ad 16 s H locs σ → lv_has ls 3 [(0, .ref (ad 0)), (1, .int x1), (2, .int x2)] → W p l e rmX10_releases s m args below meth c H locs 0 0 (MQ below (gQi D (mCell ad cyI cyO) ad 16 s.heap.size Φ) args s 0 0 (gA ad 16 s.heap.size)) (F0 m 7 ls []) := by
  obtain ⟨hx, hb, hr, hml, hown, hts, hlk⟩ := id C
  intro N
  induction N with
  | zero =>
    intro x1 x2 σ H locs ls h
    exact False.elim h
  | succ N ih =>
    intro x1 x2 σ H locs ls h wd hl
    have h : wlX10_releases_7_body Φ (wlX10_releases_7 Φ N) x1 x2 σ := h
    have hk_7 := ih
    unfold wlX10_releases_7_body at h
    refine lv_iload_n hx hb dX10_releases_7 rfl (lv_at hl 2 rfl) ?_
    refine lv_iconst (v := (-1 : Int32)) hx hb dX10_releases_8 (by decide) ?_
    refine lv_icmp_eq (tgt := 54) hx hb dX10_releases_9 (by decide) (fun c1 => ?_) (fun c1 => ?_)
    · have h := h.1 c1
      refine lv_iload_n hx hb dX10_releases_54 rfl (lv_at hl 1 rfl) ?_
      exact retI C wd h dX10_releases_55
    · have h := h.2 c1
      refine lv_aload_n hx hb dX10_releases_12 rfl (lv_at hl 0 rfl) ?_
      refine getF C wd (k := 0) (Cn := RX10) (T := TX10) (N := 26) (v := .ref (ad 11)) (by decide) mc_X10 rfl 12 (by decide) rfl inX10 tw4_38 dX10_releases_13 ?_
      refine lv_iconst (v := (3 : Int32)) hx hb dX10_releases_16 (by decide) ?_
      refine lv_iload_n hx hb dX10_releases_17 rfl (lv_at hl 2 rfl) ?_
      refine lv_imul hx hb dX10_releases_18 ?_
      refine lv_iconst (v := (2 : Int32)) hx hb dX10_releases_19 (by decide) ?_
      refine lv_iadd hx hb dX10_releases_20 ?_
      refine lv_iconst (v := (1 : Int32)) hx hb dX10_releases_21 (by decide) ?_
      obtain ⟨hi2, h⟩ := h
      refine stI C wd (k := 11) (N := 90) (by decide) mc_A11 ms_A11 hi2 dX10_releases_22 (fun H locs wd => ?_)
      obtain ⟨t3, et3⟩ : ∃ z : St, z = wr σ 11 (((3 : Int32) * x2) + (2 : Int32)) (1 : Int32) := ⟨_, rfl⟩
      rw [← et3] at wd
      have h := h t3 et3
      refine lv_aload_n hx hb dX10_releases_23 rfl (lv_at hl 0 rfl) ?_
      refine getF C wd (k := 0) (Cn := RX10) (T := TX10) (N := 26) (v := .ref (ad 12)) (by decide) mc_X10 rfl 14 (by decide) rfl inX10 tw4_40 dX10_releases_24 ?_
      refine lv_aload_n hx hb dX10_releases_27 rfl (lv_at hl 0 rfl) ?_
      refine getF C wd (k := 0) (Cn := RX10) (T := TX10) (N := 26) (v := .int (t3.1 15)) (by decide) mc_X10 rfl 15 (by decide) rfl inX10 tw4_41 dX10_releases_28 ?_
      refine lv_iload_n hx hb dX10_releases_31 rfl (lv_at hl 2 rfl) ?_
      obtain ⟨hi4, h⟩ := h
      refine stI C wd (k := 12) (N := 30) (by decide) mc_A12 ms_A12 hi4 dX10_releases_32 (fun H locs wd => ?_)
      obtain ⟨t5, et5⟩ : ∃ z : St, z = wr t3 12 (t3.1 15) x2 := ⟨_, rfl⟩
      rw [← et5] at wd
      have h := h t5 et5
      refine lv_aload_n hx hb dX10_releases_33 rfl (lv_at hl 0 rfl) ?_
      refine lv_dup hx hb dX10_releases_34 rfl ?_
      refine getF C wd (k := 0) (Cn := RX10) (T := TX10) (N := 26) (v := .int (t5.1 15)) (by decide) mc_X10 rfl 15 (by decide) rfl inX10 tw4_41 dX10_releases_35 ?_
      refine lv_iconst (v := (1 : Int32)) hx hb dX10_releases_38 (by decide) ?_
      refine lv_iadd hx hb dX10_releases_39 ?_
      refine putF C wd (k := 0) (Cn := RX10) (T := TX10) (N := 26) (σ' := setI t5 15 ((t5.1 15) + (1 : Int32))) (by decide) mc_X10 rfl tyX10_ok nmX10 15 (by decide) rfl (by decide +kernel) (Nat.le_of_ble_eq_true rfl) inX10 tw4_41 ms_X10_releasedMany dX10_releases_40 (fun H locs wd => ?_)
      obtain ⟨t6, et6⟩ : ∃ z : St, z = setI t5 15 ((t5.1 15) + (1 : Int32)) := ⟨_, rfl⟩
      rw [← et6] at wd
      have h := h t6 et6
      obtain ⟨y7, ey7⟩ : ∃ y : Int32, y = x1 + (1 : Int32) := ⟨_, rfl⟩
      refine lv_iinc (v := y7) (lv' := [(1, .int y7), (0, .ref (ad 0)), (2, .int x2)]) hx hb dX10_releases_43 hl (k := 1) rfl (by rw [ey7]; rfl) (by decide) rfl (fun ls hl => ?_)
      have h := h y7 ey7
      refine lv_aload_n hx hb dX10_releases_46 rfl (lv_at hl 1 rfl) ?_
      refine gCi wd (gRunV (y := yX10_firstSafe) (k := 0) (As := []) (rest := []) C wd (cmX10_firstSafe h) ⟨rfl, rfl⟩ gd_X10_216 nk_X10_firstSafe ⟨Nat.le_of_ble_eq_true rfl, Nat.le_of_ble_eq_true rfl⟩ (by decide) mc_X10 rfl rfl hl.1 (Nat.le_of_ble_eq_true rfl) dX10_releases_47 rfl) (fun r9 t8 H locs h wd => ?_)
      try dsimp only at h
      refine lv_istore_n (lv' := [(2, .int r9), (1, .int y7), (0, .ref (ad 0))]) hx hb dX10_releases_50 rfl hl (by decide) rfl (fun ls hl => ?_)
      refine lv_goto (tgt := 7) hx hb dX10_releases_51 (by decide) ?_
      exact hk_7 _ _ _ _ _ _ h wd (lv_sub hl [2, 1, 0] rfl)
def wpX10_releases (σ : St) (Φ : Int32 → St → Prop) : Prop :=
  wpX10_firstSafe σ (fun r2 t1 => (∃ N, wlX10_releases_7 Φ N (0 : Int32) r2 t1))
set_option maxHeartbeats 4000000 in
set_option maxRecDepth 100000 in
theorem cmX10_releases {D : va_G} {cyI cyO : ClassId} {ad : Nat → Nat} {l : Launch} {σ : St} {sz : Nat} {Φ : Int32 → St → Prop} (h : wpX10_releases σ Φ) : gMet D (tyL cyI cyO) (mCell ad cyI cyO) ad 16 l yX10_releases cX10_releases 3 (some .int) rmX10_releases [.ref (ad 0)] σ sz (gQi D (mCell ad cyI cyO) ad 16 sz Φ) := by
  refine gMet.of (by decide) (Nat.le_of_ble_eq_true rfl) ?_
  intro p e s m below meth c ls hsz C hl wd
  subst hsz
  have C : Cx p s m _ meth c cX10_releases 3 (some .int) RX10 := C
  obtain ⟨hx, hb, hr, hml, hown, hts, hlk⟩ := id C
  have hl : lv_has ls 3 [(0, .ref (ad 0))] := hl
  unfold wpX10_releases at h
  refine lv_iconst (v := (0 : Int32)) hx hb dX10_releases_0 (by decide) ?_
  refine lv_istore_n (lv' := [(1, .int (0 : Int32)), (0, .ref (ad 0))]) hx hb dX10_releases_1 rfl hl (by decide) rfl (fun ls hl => ?_)
  refine lv_aload_n hx hb dX10_releases_2 rfl (lv_at hl 1 rfl) ?_
  refine gCi wd (gRunV (y := yX10_firstSafe) (k := 0) (As := []) (rest := []) C wd (cmX10_firstSafe h) ⟨rfl, rfl⟩ gd_X10_216 nk_X10_firstSafe ⟨Nat.le_of_ble_eq_true rfl, Nat.le_of_ble_eq_true rfl⟩ (by decide) mc_X10 rfl rfl hl.1 (Nat.le_of_ble_eq_true rfl) dX10_releases_3 rfl) (fun r2 t1 H locs h wd => ?_)
  try dsimp only at h
  refine lv_istore_n (lv' := [(2, .int r2), (1, .int (0 : Int32)), (0, .ref (ad 0))]) hx hb dX10_releases_6 rfl hl (by decide) rfl (fun ls hl => ?_)
  obtain ⟨N, h⟩ := h
  exact llX10_releases_7 C N _ _ _ _ _ _ h wd (lv_sub hl [2, 1, 0] rfl)
abbrev rmX10_release : Room := rmOf 6 134
def wpX10_release (σ : St) (Φ : Int32 → St → Prop) : Prop :=
  wpX10_releases σ (fun r2 t1 => Φ r2 t1)
set_option maxHeartbeats 4000000 in
set_option maxRecDepth 100000 in
theorem cmX10_release {D : va_G} {cyI cyO : ClassId} {ad : Nat → Nat} {l : Launch} {σ : St} {sz : Nat} {Φ : Int32 → St → Prop} (h : wpX10_release σ Φ) : gMet D (tyL cyI cyO) (mCell ad cyI cyO) ad 16 l yX10_release cX10_release 1 (some .int) rmX10_release [.ref (ad 0)] σ sz (gQi D (mCell ad cyI cyO) ad 16 sz Φ) := by
  refine gMet.of (by decide) (Nat.le_of_ble_eq_true rfl) ?_
  intro p e s m below meth c ls hsz C hl wd
  subst hsz
  have C : Cx p s m _ meth c cX10_release 1 (some .int) RX10 := C
  obtain ⟨hx, hb, hr, hml, hown, hts, hlk⟩ := id C
  have hl : lv_has ls 1 [(0, .ref (ad 0))] := hl
  unfold wpX10_release at h
  refine lv_aload_n hx hb dX10_release_0 rfl (lv_at hl 0 rfl) ?_
  refine gCi wd (gRunV (y := yX10_releases) (k := 0) (As := []) (rest := []) C wd (cmX10_releases h) ⟨rfl, rfl⟩ gd_X10_219 nk_X10_releases ⟨Nat.le_of_ble_eq_true rfl, Nat.le_of_ble_eq_true rfl⟩ (by decide) mc_X10 rfl rfl hl.1 (Nat.le_of_ble_eq_true rfl) dX10_release_1 rfl) (fun r2 t1 H locs h wd => ?_)
  try dsimp only at h
  exact retI C wd h dX10_release_4
abbrev rmX10_sayingOf : Room := rmOf 4 88
def wpX10_sayingOf (x1 : Int32) (x2 : Int32) (σ : St) (Φ : Int32 → St → Prop) : Prop :=
  (((3 : Int32) ≤ x2 → wpX10_isSafe x1 σ (fun r3 t2 => ((r3 = 0 → Φ (0 : Int32) t2) ∧ (¬ r3 = 0 → Φ (1 : Int32) t2)))) ∧ (¬ (3 : Int32) ≤ x2 → (vp_in (((3 : Int32) * x1) + x2) 90 ∧ Φ (rd σ 11 (((3 : Int32) * x1) + x2)) σ)))
set_option maxHeartbeats 4000000 in
set_option maxRecDepth 100000 in
theorem cmX10_sayingOf {D : va_G} {cyI cyO : ClassId} {ad : Nat → Nat} {l : Launch} {x1 : Int32} {x2 : Int32} {σ : St} {sz : Nat} {Φ : Int32 → St → Prop} (h : wpX10_sayingOf x1 x2 σ Φ) : gMet D (tyL cyI cyO) (mCell ad cyI cyO) ad 16 l yX10_sayingOf cX10_sayingOf 3 (some .int) rmX10_sayingOf [.ref (ad 0), .int x1, .int x2] σ sz (gQi D (mCell ad cyI cyO) ad 16 sz Φ) := by
  refine gMet.of (by decide) (Nat.le_of_ble_eq_true rfl) ?_
  intro p e s m below meth c ls hsz C hl wd
  subst hsz
  have C : Cx p s m _ meth c cX10_sayingOf 3 (some .int) RX10 := C
  obtain ⟨hx, hb, hr, hml, hown, hts, hlk⟩ := id C
  have hl : lv_has ls 3 [(0, .ref (ad 0)), (1, .int x1), (2, .int x2)] := hl
  unfold wpX10_sayingOf at h
  refine lv_iload_n hx hb dX10_sayingOf_0 rfl (lv_at hl 2 rfl) ?_
  refine lv_iconst (v := (3 : Int32)) hx hb dX10_sayingOf_1 (by decide) ?_
  refine lv_icmp_ge (tgt := 18) hx hb dX10_sayingOf_2 (by decide) (fun c1 => ?_) (fun c1 => ?_)
  · have h := h.1 c1
    refine lv_aload_n hx hb dX10_sayingOf_18 rfl (lv_at hl 0 rfl) ?_
    refine lv_iload_n hx hb dX10_sayingOf_19 rfl (lv_at hl 1 rfl) ?_
    refine gCi wd (gRunV (y := yX10_isSafe) (k := 0) (As := [.int x1]) (rest := []) C wd (cmX10_isSafe h) ⟨rfl, rfl⟩ gd_X10_213 nk_X10_isSafe ⟨Nat.le_of_ble_eq_true rfl, Nat.le_of_ble_eq_true rfl⟩ (by decide) mc_X10 rfl rfl hl.1 (Nat.le_of_ble_eq_true rfl) dX10_sayingOf_20 rfl) (fun r3 t2 H locs h wd => ?_)
    try dsimp only at h
    refine lv_if_eq (tgt := 30) hx hb dX10_sayingOf_23 (by decide) (fun c4 => ?_) (fun c4 => ?_)
    · have h := h.1 c4
      refine lv_iconst (v := (0 : Int32)) hx hb dX10_sayingOf_30 (by decide) ?_
      exact retI C wd h dX10_sayingOf_31
    · have h := h.2 c4
      refine lv_iconst (v := (1 : Int32)) hx hb dX10_sayingOf_26 (by decide) ?_
      refine lv_goto (tgt := 31) hx hb dX10_sayingOf_27 (by decide) ?_
      exact retI C wd h dX10_sayingOf_31
  · have h := h.2 c1
    refine lv_aload_n hx hb dX10_sayingOf_5 rfl (lv_at hl 0 rfl) ?_
    refine getF C wd (k := 0) (Cn := RX10) (T := TX10) (N := 26) (v := .ref (ad 11)) (by decide) mc_X10 rfl 12 (by decide) rfl inX10 tw4_38 dX10_sayingOf_6 ?_
    refine lv_iconst (v := (3 : Int32)) hx hb dX10_sayingOf_9 (by decide) ?_
    refine lv_iload_n hx hb dX10_sayingOf_10 rfl (lv_at hl 1 rfl) ?_
    refine lv_imul hx hb dX10_sayingOf_11 ?_
    refine lv_iload_n hx hb dX10_sayingOf_12 rfl (lv_at hl 2 rfl) ?_
    refine lv_iadd hx hb dX10_sayingOf_13 ?_
    obtain ⟨hi5, h⟩ := h
    refine ldI C wd (k := 11) (N := 90) (by decide) mc_A11 hi5 dX10_sayingOf_14 ?_
    refine lv_goto (tgt := 31) hx hb dX10_sayingOf_15 (by decide) ?_
    exact retI C wd h dX10_sayingOf_31
end
