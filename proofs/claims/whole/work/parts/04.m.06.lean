section
variable {D : va_G} {cyI cyO : ClassId} {ad : Nat → Nat} {n : Nat}
abbrev rmX10_saying : Room := rmOf 5 110
def wbX10_saying_16 (Φ : Int32 → St → Prop) (σ : St) : Prop :=
  wpX10_bad σ (fun r2 t1 => Φ r2 t1)
set_option maxHeartbeats 4000000 in
set_option maxRecDepth 100000 in
theorem blX10_saying_16 {p : Program} {l : Launch} {e : Env} {s : State} {m : MethodId} {args : Array Value} {below : List Frame} {meth : Method} {c : Code} (C : Cx p s m args meth c cX10_saying 3 (some .int) RX10) {Φ : Int32 → St → Prop} {σ : St} {H : Heap} {locs : List Loc} {ls : Array Slot} (h : wbX10_saying_16 Φ σ) (wd : gWd D (tyL cyI cyO) (mCell ad cyI cyO) ad 16 s H locs σ) (hl : lv_has ls 3 [(0, .ref (ad 0))]) : W p l e rmX10_saying s m args below meth c H locs 0 0 (MQ below (gQi D (mCell ad cyI cyO) ad 16 s.heap.size Φ) args s 0 0 (gA ad 16 s.heap.size)) (F0 m 16 ls []) := by
  obtain ⟨hx, hb, hr, hml, hown, hts, hlk⟩ := id C
  unfold wbX10_saying_16 at h
  refine lv_aload_n hx hb dX10_saying_16 rfl (lv_at hl 0 rfl) ?_
  refine gCi wd (gRunV (y := yX10_bad) (k := 0) (As := []) (rest := []) C wd (cmX10_bad h) ⟨rfl, rfl⟩ gd_X10_87 nk_X10_bad ⟨Nat.le_of_ble_eq_true rfl, Nat.le_of_ble_eq_true rfl⟩ (by decide) mc_X10 rfl rfl hl.1 (Nat.le_of_ble_eq_true rfl) dX10_saying_17 rfl) (fun r2 t1 H locs h wd => ?_)
  try dsimp only at h
  exact retI C wd h dX10_saying_20
def wpX10_saying (x1 : Int32) (x2 : Int32) (σ : St) (Φ : Int32 → St → Prop) : Prop :=
  ((x1 < 0 → wbX10_saying_16 Φ σ) ∧ (¬ x1 < 0 → wpX10_in x2.toInt64 (0 : Int64) (3 : Int64) σ (fun r3 t2 => ((r3 = 0 → wbX10_saying_16 Φ t2) ∧ (¬ r3 = 0 → (((t2.1 13) ≤ x1 → Φ (-1 : Int32) t2) ∧ (¬ (t2.1 13) ≤ x1 → wpX10_sayingOf x1 x2 t2 (fun r7 t6 => Φ r7 t6))))))))
set_option maxHeartbeats 4000000 in
set_option maxRecDepth 100000 in
theorem cmX10_saying {D : va_G} {cyI cyO : ClassId} {ad : Nat → Nat} {l : Launch} {x1 : Int32} {x2 : Int32} {σ : St} {sz : Nat} {Φ : Int32 → St → Prop} (h : wpX10_saying x1 x2 σ Φ) : gMet D (tyL cyI cyO) (mCell ad cyI cyO) ad 16 l yX10_saying cX10_saying 3 (some .int) rmX10_saying [.ref (ad 0), .int x1, .int x2] σ sz (gQi D (mCell ad cyI cyO) ad 16 sz Φ) := by
  refine gMet.of (by decide) (Nat.le_of_ble_eq_true rfl) ?_
  intro p e s m below meth c ls hsz C hl wd
  subst hsz
  have C : Cx p s m _ meth c cX10_saying 3 (some .int) RX10 := C
  obtain ⟨hx, hb, hr, hml, hown, hts, hlk⟩ := id C
  have hl : lv_has ls 3 [(0, .ref (ad 0)), (1, .int x1), (2, .int x2)] := hl
  unfold wpX10_saying at h
  refine lv_iload_n hx hb dX10_saying_0 rfl (lv_at hl 1 rfl) ?_
  refine lv_if_lt (tgt := 16) hx hb dX10_saying_1 (by decide) (fun c1 => ?_) (fun c1 => ?_)
  · have h := h.1 c1
    exact blX10_saying_16 C h wd (lv_sub hl [0] rfl)
  · have h := h.2 c1
    refine lv_iload_n hx hb dX10_saying_4 rfl (lv_at hl 2 rfl) ?_
    refine lv_i2l hx hb dX10_saying_5 rfl ?_
    refine lv_lconst (v := (0 : Int64)) hx hb dX10_saying_6 (by decide) ?_
    refine lv_ldc2 (v := (3 : Int64)) hx hb hown (hts _ tw4_141) dX10_saying_7 ?_
    refine gCi wd (gRunS (y := yX10_in) (As := [.long x2.toInt64, .long (0 : Int64), .long (3 : Int64)]) (rest := []) C wd (cmX10_in h) ⟨rfl, rfl⟩ gd_X10_59 nk_X10_in ⟨Nat.le_of_ble_eq_true rfl, Nat.le_of_ble_eq_true rfl⟩ hl.1 (Nat.le_of_ble_eq_true rfl) dX10_saying_10 rfl) (fun r3 t2 H locs h wd => ?_)
    try dsimp only at h
    refine lv_if_ne (tgt := 21) hx hb dX10_saying_13 (by decide) (fun c4 => ?_) (fun c4 => ?_)
    · have h := h.2 c4
      refine lv_iload_n hx hb dX10_saying_21 rfl (lv_at hl 1 rfl) ?_
      refine lv_aload_n hx hb dX10_saying_22 rfl (lv_at hl 0 rfl) ?_
      refine getF C wd (k := 0) (Cn := RX10) (T := TX10) (N := 26) (v := .int (t2.1 13)) (by decide) mc_X10 rfl 13 (by decide) rfl inX10 tw4_39 dX10_saying_23 ?_
      refine lv_icmp_ge (tgt := 38) hx hb dX10_saying_26 (by decide) (fun c5 => ?_) (fun c5 => ?_)
      · have h := h.1 c5
        refine lv_iconst (v := (-1 : Int32)) hx hb dX10_saying_38 (by decide) ?_
        exact retI C wd h dX10_saying_39
      · have h := h.2 c5
        refine lv_aload_n hx hb dX10_saying_29 rfl (lv_at hl 0 rfl) ?_
        refine lv_iload_n hx hb dX10_saying_30 rfl (lv_at hl 1 rfl) ?_
        refine lv_iload_n hx hb dX10_saying_31 rfl (lv_at hl 2 rfl) ?_
        refine gCi wd (gRunV (y := yX10_sayingOf) (k := 0) (As := [.int x1, .int x2]) (rest := []) C wd (cmX10_sayingOf h) ⟨rfl, rfl⟩ gd_X10_222 nk_X10_sayingOf ⟨Nat.le_of_ble_eq_true rfl, Nat.le_of_ble_eq_true rfl⟩ (by decide) mc_X10 rfl rfl hl.1 (Nat.le_of_ble_eq_true rfl) dX10_saying_32 rfl) (fun r7 t6 H locs h wd => ?_)
        try dsimp only at h
        refine lv_goto (tgt := 39) hx hb dX10_saying_35 (by decide) ?_
        exact retI C wd h dX10_saying_39
    · have h := h.1 c4
      exact blX10_saying_16 C h wd (lv_sub hl [0] rfl)
abbrev rmX10_released : Room := rmOf 1 20
def wpX10_released (x1 : Int32) (σ : St) (Φ : Int32 → St → Prop) : Prop :=
  ((0 ≤ x1 → (((σ.1 15) ≤ x1 → Φ (-1 : Int32) σ) ∧ (¬ (σ.1 15) ≤ x1 → (vp_in x1 30 ∧ Φ (rd σ 12 x1) σ)))) ∧ (¬ 0 ≤ x1 → wpX10_bad σ (fun r5 t4 => Φ r5 t4)))
set_option maxHeartbeats 4000000 in
set_option maxRecDepth 100000 in
theorem cmX10_released {D : va_G} {cyI cyO : ClassId} {ad : Nat → Nat} {l : Launch} {x1 : Int32} {σ : St} {sz : Nat} {Φ : Int32 → St → Prop} (h : wpX10_released x1 σ Φ) : gMet D (tyL cyI cyO) (mCell ad cyI cyO) ad 16 l yX10_released cX10_released 2 (some .int) rmX10_released [.ref (ad 0), .int x1] σ sz (gQi D (mCell ad cyI cyO) ad 16 sz Φ) := by
  refine gMet.of (by decide) (Nat.le_of_ble_eq_true rfl) ?_
  intro p e s m below meth c ls hsz C hl wd
  subst hsz
  have C : Cx p s m _ meth c cX10_released 2 (some .int) RX10 := C
  obtain ⟨hx, hb, hr, hml, hown, hts, hlk⟩ := id C
  have hl : lv_has ls 2 [(0, .ref (ad 0)), (1, .int x1)] := hl
  unfold wpX10_released at h
  refine lv_iload_n hx hb dX10_released_0 rfl (lv_at hl 1 rfl) ?_
  refine lv_if_ge (tgt := 9) hx hb dX10_released_1 (by decide) (fun c1 => ?_) (fun c1 => ?_)
  · have h := h.1 c1
    refine lv_iload_n hx hb dX10_released_9 rfl (lv_at hl 1 rfl) ?_
    refine lv_aload_n hx hb dX10_released_10 rfl (lv_at hl 0 rfl) ?_
    refine getF C wd (k := 0) (Cn := RX10) (T := TX10) (N := 26) (v := .int (σ.1 15)) (by decide) mc_X10 rfl 15 (by decide) rfl inX10 tw4_41 dX10_released_11 ?_
    refine lv_icmp_ge (tgt := 26) hx hb dX10_released_14 (by decide) (fun c2 => ?_) (fun c2 => ?_)
    · have h := h.1 c2
      refine lv_iconst (v := (-1 : Int32)) hx hb dX10_released_26 (by decide) ?_
      exact retI C wd h dX10_released_27
    · have h := h.2 c2
      refine lv_aload_n hx hb dX10_released_17 rfl (lv_at hl 0 rfl) ?_
      refine getF C wd (k := 0) (Cn := RX10) (T := TX10) (N := 26) (v := .ref (ad 12)) (by decide) mc_X10 rfl 14 (by decide) rfl inX10 tw4_40 dX10_released_18 ?_
      refine lv_iload_n hx hb dX10_released_21 rfl (lv_at hl 1 rfl) ?_
      obtain ⟨hi3, h⟩ := h
      refine ldI C wd (k := 12) (N := 30) (by decide) mc_A12 hi3 dX10_released_22 ?_
      refine lv_goto (tgt := 27) hx hb dX10_released_23 (by decide) ?_
      exact retI C wd h dX10_released_27
  · have h := h.2 c1
    refine lv_aload_n hx hb dX10_released_4 rfl (lv_at hl 0 rfl) ?_
    refine gCi wd (gRunV (y := yX10_bad) (k := 0) (As := []) (rest := []) C wd (cmX10_bad h) ⟨rfl, rfl⟩ gd_X10_87 nk_X10_bad ⟨Nat.le_of_ble_eq_true rfl, Nat.le_of_ble_eq_true rfl⟩ (by decide) mc_X10 rfl rfl hl.1 (Nat.le_of_ble_eq_true rfl) dX10_released_5 rfl) (fun r5 t4 H locs h wd => ?_)
    try dsimp only at h
    exact retI C wd h dX10_released_8
abbrev rmX10_cutsNow : Room := rmOf 4 89
def wbX10_cutsNow_28 (Φ : Int32 → St → Prop) (x1 : Int32) (z0 : Int32) (σ : St) : Prop :=
  (vp_in x1 5 ∧ (vp_in x1 5 ∧ ∀ t3 : St, t3 = wr σ 4 x1 ((rd σ 4 x1) + z0) → Φ z0 t3))
set_option maxHeartbeats 4000000 in
set_option maxRecDepth 100000 in
theorem blX10_cutsNow_28 {p : Program} {l : Launch} {e : Env} {s : State} {m : MethodId} {args : Array Value} {below : List Frame} {meth : Method} {c : Code} (C : Cx p s m args meth c cX10_cutsNow 4 (some .int) RX10) {Φ : Int32 → St → Prop} {x1 : Int32} {z0 : Int32} {σ : St} {H : Heap} {locs : List Loc} {ls : Array Slot} (h : wbX10_cutsNow_28 Φ x1 z0 σ) (wd : gWd D (tyL cyI cyO) (mCell ad cyI cyO) ad 16 s H locs σ) (hl : lv_has ls 4 [(0, .ref (ad 0)), (1, .int x1)]) : W p l e rmX10_cutsNow s m args below meth c H locs 0 0 (MQ below (gQi D (mCell ad cyI cyO) ad 16 s.heap.size Φ) args s 0 0 (gA ad 16 s.heap.size)) (F0 m 28 ls [.int z0]) := by
  obtain ⟨hx, hb, hr, hml, hown, hts, hlk⟩ := id C
  unfold wbX10_cutsNow_28 at h
  refine lv_istore_n (lv' := [(3, .int z0), (0, .ref (ad 0)), (1, .int x1)]) hx hb dX10_cutsNow_28 rfl hl (by decide) rfl (fun ls hl => ?_)
  refine lv_aload_n hx hb dX10_cutsNow_29 rfl (lv_at hl 1 rfl) ?_
  refine getF C wd (k := 0) (Cn := RX10) (T := TX10) (N := 26) (v := .ref (ad 4)) (by decide) mc_X10 rfl 4 (by decide) rfl inX10 tw4_30 dX10_cutsNow_30 ?_
  refine lv_iload_n hx hb dX10_cutsNow_33 rfl (lv_at hl 2 rfl) ?_
  refine lv_dup2_11 hx hb dX10_cutsNow_34 rfl rfl ?_
  obtain ⟨hi1, h⟩ := h
  refine ldI C wd (k := 4) (N := 5) (by decide) mc_A4 hi1 dX10_cutsNow_35 ?_
  refine lv_iload_n hx hb dX10_cutsNow_36 rfl (lv_at hl 0 rfl) ?_
  refine lv_iadd hx hb dX10_cutsNow_37 ?_
  obtain ⟨hi2, h⟩ := h
  refine stI C wd (k := 4) (N := 5) (by decide) mc_A4 ms_A4 hi2 dX10_cutsNow_38 (fun H locs wd => ?_)
  obtain ⟨t3, et3⟩ : ∃ z : St, z = wr σ 4 x1 ((rd σ 4 x1) + z0) := ⟨_, rfl⟩
  rw [← et3] at wd
  have h := h t3 et3
  refine lv_iload_n hx hb dX10_cutsNow_39 rfl (lv_at hl 0 rfl) ?_
  exact retI C wd h dX10_cutsNow_40
def wpX10_cutsNow (x1 : Int32) (σ : St) (Φ : Int32 → St → Prop) : Prop :=
  wpX10_firmOf x1 σ (fun r2 t1 => (vp_in x1 5 ∧ ((r2 ≤ (rd t1 4 x1) → wbX10_cutsNow_28 Φ x1 (0 : Int32) t1) ∧ (¬ r2 ≤ (rd t1 4 x1) → (vp_in x1 5 ∧ wbX10_cutsNow_28 Φ x1 (r2 - (rd t1 4 x1)) t1)))))
set_option maxHeartbeats 4000000 in
set_option maxRecDepth 100000 in
theorem cmX10_cutsNow {D : va_G} {cyI cyO : ClassId} {ad : Nat → Nat} {l : Launch} {x1 : Int32} {σ : St} {sz : Nat} {Φ : Int32 → St → Prop} (h : wpX10_cutsNow x1 σ Φ) : gMet D (tyL cyI cyO) (mCell ad cyI cyO) ad 16 l yX10_cutsNow cX10_cutsNow 4 (some .int) rmX10_cutsNow [.ref (ad 0), .int x1] σ sz (gQi D (mCell ad cyI cyO) ad 16 sz Φ) := by
  refine gMet.of (by decide) (Nat.le_of_ble_eq_true rfl) ?_
  intro p e s m below meth c ls hsz C hl wd
  subst hsz
  have C : Cx p s m _ meth c cX10_cutsNow 4 (some .int) RX10 := C
  obtain ⟨hx, hb, hr, hml, hown, hts, hlk⟩ := id C
  have hl : lv_has ls 4 [(0, .ref (ad 0)), (1, .int x1)] := hl
  unfold wpX10_cutsNow at h
  refine lv_aload_n hx hb dX10_cutsNow_0 rfl (lv_at hl 0 rfl) ?_
  refine lv_iload_n hx hb dX10_cutsNow_1 rfl (lv_at hl 1 rfl) ?_
  refine gCi wd (gRunV (y := yX10_firmOf) (k := 0) (As := [.int x1]) (rest := []) C wd (cmX10_firmOf h) ⟨rfl, rfl⟩ gd_X10_194 nk_X10_firmOf ⟨Nat.le_of_ble_eq_true rfl, Nat.le_of_ble_eq_true rfl⟩ (by decide) mc_X10 rfl rfl hl.1 (Nat.le_of_ble_eq_true rfl) dX10_cutsNow_2 rfl) (fun r2 t1 H locs h wd => ?_)
  try dsimp only at h
  refine lv_istore_n (lv' := [(2, .int r2), (0, .ref (ad 0)), (1, .int x1)]) hx hb dX10_cutsNow_5 rfl hl (by decide) rfl (fun ls hl => ?_)
  refine lv_iload_n hx hb dX10_cutsNow_6 rfl (lv_at hl 0 rfl) ?_
  refine lv_aload_n hx hb dX10_cutsNow_7 rfl (lv_at hl 1 rfl) ?_
  refine getF C wd (k := 0) (Cn := RX10) (T := TX10) (N := 26) (v := .ref (ad 4)) (by decide) mc_X10 rfl 4 (by decide) rfl inX10 tw4_30 dX10_cutsNow_8 ?_
  refine lv_iload_n hx hb dX10_cutsNow_11 rfl (lv_at hl 2 rfl) ?_
  obtain ⟨hi3, h⟩ := h
  refine ldI C wd (k := 4) (N := 5) (by decide) mc_A4 hi3 dX10_cutsNow_12 ?_
  refine lv_icmp_le (tgt := 27) hx hb dX10_cutsNow_13 (by decide) (fun c4 => ?_) (fun c4 => ?_)
  · have h := h.1 c4
    refine lv_iconst (v := (0 : Int32)) hx hb dX10_cutsNow_27 (by decide) ?_
    exact blX10_cutsNow_28 C h wd (lv_sub hl [1, 2] rfl)
  · have h := h.2 c4
    refine lv_iload_n hx hb dX10_cutsNow_16 rfl (lv_at hl 0 rfl) ?_
    refine lv_aload_n hx hb dX10_cutsNow_17 rfl (lv_at hl 1 rfl) ?_
    refine getF C wd (k := 0) (Cn := RX10) (T := TX10) (N := 26) (v := .ref (ad 4)) (by decide) mc_X10 rfl 4 (by decide) rfl inX10 tw4_30 dX10_cutsNow_18 ?_
    refine lv_iload_n hx hb dX10_cutsNow_21 rfl (lv_at hl 2 rfl) ?_
    obtain ⟨hi5, h⟩ := h
    refine ldI C wd (k := 4) (N := 5) (by decide) mc_A4 hi5 dX10_cutsNow_22 ?_
    refine lv_isub hx hb dX10_cutsNow_23 ?_
    refine lv_goto (tgt := 28) hx hb dX10_cutsNow_24 (by decide) ?_
    exact blX10_cutsNow_28 C h wd (lv_sub hl [1, 2] rfl)
abbrev rmX10_cuts : Room := rmOf 5 112
def wpX10_cuts (x1 : Int32) (σ : St) (Φ : Int32 → St → Prop) : Prop :=
  wpX10_isClerk x1 σ (fun r2 t1 => ((r2 = 0 → wpX10_bad t1 (fun r5 t4 => Φ r5 t4)) ∧ (¬ r2 = 0 → wpX10_cutsNow x1 t1 (fun r7 t6 => Φ r7 t6))))
set_option maxHeartbeats 4000000 in
set_option maxRecDepth 100000 in
theorem cmX10_cuts {D : va_G} {cyI cyO : ClassId} {ad : Nat → Nat} {l : Launch} {x1 : Int32} {σ : St} {sz : Nat} {Φ : Int32 → St → Prop} (h : wpX10_cuts x1 σ Φ) : gMet D (tyL cyI cyO) (mCell ad cyI cyO) ad 16 l yX10_cuts cX10_cuts 2 (some .int) rmX10_cuts [.ref (ad 0), .int x1] σ sz (gQi D (mCell ad cyI cyO) ad 16 sz Φ) := by
  refine gMet.of (by decide) (Nat.le_of_ble_eq_true rfl) ?_
  intro p e s m below meth c ls hsz C hl wd
  subst hsz
  have C : Cx p s m _ meth c cX10_cuts 2 (some .int) RX10 := C
  obtain ⟨hx, hb, hr, hml, hown, hts, hlk⟩ := id C
  have hl : lv_has ls 2 [(0, .ref (ad 0)), (1, .int x1)] := hl
  unfold wpX10_cuts at h
  refine lv_aload_n hx hb dX10_cuts_0 rfl (lv_at hl 0 rfl) ?_
  refine lv_iload_n hx hb dX10_cuts_1 rfl (lv_at hl 1 rfl) ?_
  refine gCi wd (gRunV (y := yX10_isClerk) (k := 0) (As := [.int x1]) (rest := []) C wd (cmX10_isClerk h) ⟨rfl, rfl⟩ gd_X10_98 nk_X10_isClerk ⟨Nat.le_of_ble_eq_true rfl, Nat.le_of_ble_eq_true rfl⟩ (by decide) mc_X10 rfl rfl hl.1 (Nat.le_of_ble_eq_true rfl) dX10_cuts_2 rfl) (fun r2 t1 H locs h wd => ?_)
  try dsimp only at h
  refine lv_if_eq (tgt := 16) hx hb dX10_cuts_5 (by decide) (fun c3 => ?_) (fun c3 => ?_)
  · have h := h.1 c3
    refine lv_aload_n hx hb dX10_cuts_16 rfl (lv_at hl 0 rfl) ?_
    refine gCi wd (gRunV (y := yX10_bad) (k := 0) (As := []) (rest := []) C wd (cmX10_bad h) ⟨rfl, rfl⟩ gd_X10_87 nk_X10_bad ⟨Nat.le_of_ble_eq_true rfl, Nat.le_of_ble_eq_true rfl⟩ (by decide) mc_X10 rfl rfl hl.1 (Nat.le_of_ble_eq_true rfl) dX10_cuts_17 rfl) (fun r5 t4 H locs h wd => ?_)
    try dsimp only at h
    exact retI C wd h dX10_cuts_20
  · have h := h.2 c3
    refine lv_aload_n hx hb dX10_cuts_8 rfl (lv_at hl 0 rfl) ?_
    refine lv_iload_n hx hb dX10_cuts_9 rfl (lv_at hl 1 rfl) ?_
    refine gCi wd (gRunV (y := yX10_cutsNow) (k := 0) (As := [.int x1]) (rest := []) C wd (cmX10_cutsNow h) ⟨rfl, rfl⟩ gd_X10_225 nk_X10_cutsNow ⟨Nat.le_of_ble_eq_true rfl, Nat.le_of_ble_eq_true rfl⟩ (by decide) mc_X10 rfl rfl hl.1 (Nat.le_of_ble_eq_true rfl) dX10_cuts_10 rfl) (fun r7 t6 H locs h wd => ?_)
    try dsimp only at h
    refine lv_goto (tgt := 20) hx hb dX10_cuts_13 (by decide) ?_
    exact retI C wd h dX10_cuts_20
abbrev rmX10_type : Room := rmOf 1 25
def wpX10_type (x1 : Int32) (σ : St) (Φ : Int32 → St → Prop) : Prop :=
  wpX10_in x1.toInt64 (0 : Int64) (127 : Int64) σ (fun r2 t1 => ((r2 = 0 → wpX10_bad t1 (fun r11 t10 => Φ r11 t10)) ∧ (¬ r2 = 0 → (((t1.1 22) = (120 : Int32) → wpX10_full t1 (fun r9 t8 => Φ r9 t8)) ∧ (¬ (t1.1 22) = (120 : Int32) → (vp_in (t1.1 22) 120 ∧ ∀ t6 : St, t6 = wr t1 15 (t1.1 22) x1 → (∀ t7 : St, t7 = setI t6 22 ((t6.1 22) + (1 : Int32)) → Φ (t7.1 22) t7)))))))
set_option maxHeartbeats 4000000 in
set_option maxRecDepth 100000 in
theorem cmX10_type {D : va_G} {cyI cyO : ClassId} {ad : Nat → Nat} {l : Launch} {x1 : Int32} {σ : St} {sz : Nat} {Φ : Int32 → St → Prop} (h : wpX10_type x1 σ Φ) : gMet D (tyL cyI cyO) (mCell ad cyI cyO) ad 16 l yX10_type cX10_type 2 (some .int) rmX10_type [.ref (ad 0), .int x1] σ sz (gQi D (mCell ad cyI cyO) ad 16 sz Φ) := by
  refine gMet.of (by decide) (Nat.le_of_ble_eq_true rfl) ?_
  intro p e s m below meth c ls hsz C hl wd
  subst hsz
  have C : Cx p s m _ meth c cX10_type 2 (some .int) RX10 := C
  obtain ⟨hx, hb, hr, hml, hown, hts, hlk⟩ := id C
  have hl : lv_has ls 2 [(0, .ref (ad 0)), (1, .int x1)] := hl
  unfold wpX10_type at h
  refine lv_iload_n hx hb dX10_type_0 rfl (lv_at hl 1 rfl) ?_
  refine lv_i2l hx hb dX10_type_1 rfl ?_
  refine lv_lconst (v := (0 : Int64)) hx hb dX10_type_2 (by decide) ?_
  refine lv_ldc2 (v := (127 : Int64)) hx hb hown (hts _ tw5_104) dX10_type_3 ?_
  refine gCi wd (gRunS (y := yX10_in) (As := [.long x1.toInt64, .long (0 : Int64), .long (127 : Int64)]) (rest := []) C wd (cmX10_in h) ⟨rfl, rfl⟩ gd_X10_59 nk_X10_in ⟨Nat.le_of_ble_eq_true rfl, Nat.le_of_ble_eq_true rfl⟩ hl.1 (Nat.le_of_ble_eq_true rfl) dX10_type_6 rfl) (fun r2 t1 H locs h wd => ?_)
  try dsimp only at h
  refine lv_if_ne (tgt := 17) hx hb dX10_type_9 (by decide) (fun c3 => ?_) (fun c3 => ?_)
  · have h := h.2 c3
    refine lv_aload_n hx hb dX10_type_17 rfl (lv_at hl 0 rfl) ?_
    refine getF C wd (k := 0) (Cn := RX10) (T := TX10) (N := 26) (v := .int (t1.1 22)) (by decide) mc_X10 rfl 22 (by decide) rfl inX10 tw4_48 dX10_type_18 ?_
    refine lv_bipush (v := (120 : Int32)) hx hb dX10_type_21 (by decide) ?_
    refine lv_icmp_ne (tgt := 31) hx hb dX10_type_23 (by decide) (fun c4 => ?_) (fun c4 => ?_)
    · have h := h.2 c4
      refine lv_aload_n hx hb dX10_type_31 rfl (lv_at hl 0 rfl) ?_
      refine getF C wd (k := 0) (Cn := RX10) (T := TX10) (N := 26) (v := .ref (ad 15)) (by decide) mc_X10 rfl 21 (by decide) rfl inX10 tw4_47 dX10_type_32 ?_
      refine lv_aload_n hx hb dX10_type_35 rfl (lv_at hl 0 rfl) ?_
      refine getF C wd (k := 0) (Cn := RX10) (T := TX10) (N := 26) (v := .int (t1.1 22)) (by decide) mc_X10 rfl 22 (by decide) rfl inX10 tw4_48 dX10_type_36 ?_
      refine lv_iload_n hx hb dX10_type_39 rfl (lv_at hl 1 rfl) ?_
      obtain ⟨hi5, h⟩ := h
      refine stI C wd (k := 15) (N := 120) (by decide) mc_A15 ms_A15 hi5 dX10_type_40 (fun H locs wd => ?_)
      obtain ⟨t6, et6⟩ : ∃ z : St, z = wr t1 15 (t1.1 22) x1 := ⟨_, rfl⟩
      rw [← et6] at wd
      have h := h t6 et6
      refine lv_aload_n hx hb dX10_type_41 rfl (lv_at hl 0 rfl) ?_
      refine lv_dup hx hb dX10_type_42 rfl ?_
      refine getF C wd (k := 0) (Cn := RX10) (T := TX10) (N := 26) (v := .int (t6.1 22)) (by decide) mc_X10 rfl 22 (by decide) rfl inX10 tw4_48 dX10_type_43 ?_
      refine lv_iconst (v := (1 : Int32)) hx hb dX10_type_46 (by decide) ?_
      refine lv_iadd hx hb dX10_type_47 ?_
      refine putF C wd (k := 0) (Cn := RX10) (T := TX10) (N := 26) (σ' := setI t6 22 ((t6.1 22) + (1 : Int32))) (by decide) mc_X10 rfl tyX10_ok nmX10 22 (by decide) rfl (by decide +kernel) (Nat.le_of_ble_eq_true rfl) inX10 tw4_48 ms_X10_textLong dX10_type_48 (fun H locs wd => ?_)
      obtain ⟨t7, et7⟩ : ∃ z : St, z = setI t6 22 ((t6.1 22) + (1 : Int32)) := ⟨_, rfl⟩
      rw [← et7] at wd
      have h := h t7 et7
      refine lv_aload_n hx hb dX10_type_51 rfl (lv_at hl 0 rfl) ?_
      refine getF C wd (k := 0) (Cn := RX10) (T := TX10) (N := 26) (v := .int (t7.1 22)) (by decide) mc_X10 rfl 22 (by decide) rfl inX10 tw4_48 dX10_type_52 ?_
      exact retI C wd h dX10_type_55
    · have h := h.1 c4
      refine lv_aload_n hx hb dX10_type_26 rfl (lv_at hl 0 rfl) ?_
      refine gCi wd (gRunV (y := yX10_full) (k := 0) (As := []) (rest := []) C wd (cmX10_full h) ⟨rfl, rfl⟩ gd_X10_233 nk_X10_full ⟨Nat.le_of_ble_eq_true rfl, Nat.le_of_ble_eq_true rfl⟩ (by decide) mc_X10 rfl rfl hl.1 (Nat.le_of_ble_eq_true rfl) dX10_type_27 rfl) (fun r9 t8 H locs h wd => ?_)
      try dsimp only at h
      exact retI C wd h dX10_type_30
  · have h := h.1 c3
    refine lv_aload_n hx hb dX10_type_12 rfl (lv_at hl 0 rfl) ?_
    refine gCi wd (gRunV (y := yX10_bad) (k := 0) (As := []) (rest := []) C wd (cmX10_bad h) ⟨rfl, rfl⟩ gd_X10_87 nk_X10_bad ⟨Nat.le_of_ble_eq_true rfl, Nat.le_of_ble_eq_true rfl⟩ (by decide) mc_X10 rfl rfl hl.1 (Nat.le_of_ble_eq_true rfl) dX10_type_13 rfl) (fun r11 t10 H locs h wd => ?_)
    try dsimp only at h
    exact retI C wd h dX10_type_16
abbrev rmX10_clear : Room := rmOf 0 0
def wpX10_clear (σ : St) (Φ : Int32 → St → Prop) : Prop :=
  (∀ y1 : Int32, y1 = σ.1 22 → (∀ t2 : St, t2 = setI σ 22 (0 : Int32) → Φ y1 t2))
set_option maxHeartbeats 4000000 in
set_option maxRecDepth 100000 in
theorem cmX10_clear {D : va_G} {cyI cyO : ClassId} {ad : Nat → Nat} {l : Launch} {σ : St} {sz : Nat} {Φ : Int32 → St → Prop} (h : wpX10_clear σ Φ) : gMet D (tyL cyI cyO) (mCell ad cyI cyO) ad 16 l yX10_clear cX10_clear 2 (some .int) rmX10_clear [.ref (ad 0)] σ sz (gQi D (mCell ad cyI cyO) ad 16 sz Φ) := by
  refine gMet.of (by decide) (Nat.le_of_ble_eq_true rfl) ?_
  intro p e s m below meth c ls hsz C hl wd
  subst hsz
  have C : Cx p s m _ meth c cX10_clear 2 (some .int) RX10 := C
  obtain ⟨hx, hb, hr, hml, hown, hts, hlk⟩ := id C
  have hl : lv_has ls 2 [(0, .ref (ad 0))] := hl
  unfold wpX10_clear at h
  refine lv_aload_n hx hb dX10_clear_0 rfl (lv_at hl 0 rfl) ?_
  refine getF C wd (k := 0) (Cn := RX10) (T := TX10) (N := 26) (v := .int (σ.1 22)) (by decide) mc_X10 rfl 22 (by decide) rfl inX10 tw4_48 dX10_clear_1 ?_
  refine lv_topi (fun y1 ey1 => ?_)
  have h := h y1 ey1
  refine lv_istore_n (lv' := [(1, .int y1), (0, .ref (ad 0))]) hx hb dX10_clear_4 rfl hl (by decide) rfl (fun ls hl => ?_)
  refine lv_aload_n hx hb dX10_clear_5 rfl (lv_at hl 1 rfl) ?_
  refine lv_iconst (v := (0 : Int32)) hx hb dX10_clear_6 (by decide) ?_
  refine putF C wd (k := 0) (Cn := RX10) (T := TX10) (N := 26) (σ' := setI σ 22 (0 : Int32)) (by decide) mc_X10 rfl tyX10_ok nmX10 22 (by decide) rfl (by decide +kernel) (Nat.le_of_ble_eq_true rfl) inX10 tw4_48 ms_X10_textLong dX10_clear_7 (fun H locs wd => ?_)
  obtain ⟨t2, et2⟩ : ∃ z : St, z = setI σ 22 (0 : Int32) := ⟨_, rfl⟩
  rw [← et2] at wd
  have h := h t2 et2
  refine lv_iload_n hx hb dX10_clear_10 rfl (lv_at hl 0 rfl) ?_
  exact retI C wd h dX10_clear_11
abbrev rmX10_skip : Room := rmOf 0 0
def wlX10_skip_0_body (Φ : St → Prop) (k_0 : St → Prop) (σ : St) : Prop :=
  (((σ.1 22) ≤ (σ.1 23) → Φ σ) ∧ (¬ (σ.1 22) ≤ (σ.1 23) → (vp_in (σ.1 23) 120 ∧ (((rd σ 15 (σ.1 23)) = (32 : Int32) → (∀ t4 : St, t4 = setI σ 23 ((σ.1 23) + (1 : Int32)) → k_0 t4)) ∧ (¬ (rd σ 15 (σ.1 23)) = (32 : Int32) → Φ σ)))))
def wlX10_skip_0 (Φ : St → Prop) : Nat → St → Prop
  | 0 => fun _ => False
  | N + 1 => fun σ => wlX10_skip_0_body Φ (wlX10_skip_0 Φ N) σ
set_option maxHeartbeats 4000000 in
set_option maxRecDepth 100000 in
theorem llX10_skip_0 {p : Program} {l : Launch} {e : Env} {s : State} {m : MethodId} {args : Array Value} {below : List Frame} {meth : Method} {c : Code} (C : Cx p s m args meth c cX10_skip 1 none RX10) {Φ : St → Prop} : ∀ (N : Nat) (σ : St) (H : Heap) (locs : List Loc) (ls : Array Slot), wlX10_skip_0 Φ N σ → gWd D (tyL cyI cyO) (mCell ad cyI cyO) ad 16 s H locs σ → lv_has ls 1 [(0, .ref (ad 0))] → W p l e rmX10_skip s m args below meth c H locs 0 0 (MQ below (gQv D (mCell ad cyI cyO) ad 16 s.heap.size Φ) args s 0 0 (gA ad 16 s.heap.size)) (F0 m 0 ls []) := by
  obtain ⟨hx, hb, hr, hml, hown, hts, hlk⟩ := id C
  intro N
  induction N with
  | zero =>
    intro σ H locs ls h
    exact False.elim h
  | succ N ih =>
    intro σ H locs ls h wd hl
    have h : wlX10_skip_0_body Φ (wlX10_skip_0 Φ N) σ := h
    have hk_0 := ih
    unfold wlX10_skip_0_body at h
    refine lv_aload_n hx hb dX10_skip_0 rfl (lv_at hl 0 rfl) ?_
    refine getF C wd (k := 0) (Cn := RX10) (T := TX10) (N := 26) (v := .int (σ.1 23)) (by decide) mc_X10 rfl 23 (by decide) rfl inX10 tw4_49 dX10_skip_1 ?_
    refine lv_aload_n hx hb dX10_skip_4 rfl (lv_at hl 0 rfl) ?_
    refine getF C wd (k := 0) (Cn := RX10) (T := TX10) (N := 26) (v := .int (σ.1 22)) (by decide) mc_X10 rfl 22 (by decide) rfl inX10 tw4_48 dX10_skip_5 ?_
    refine lv_icmp_ge (tgt := 38) hx hb dX10_skip_8 (by decide) (fun c1 => ?_) (fun c1 => ?_)
    · have h := h.1 c1
      exact retV C wd h dX10_skip_38
    · have h := h.2 c1
      refine lv_aload_n hx hb dX10_skip_11 rfl (lv_at hl 0 rfl) ?_
      refine getF C wd (k := 0) (Cn := RX10) (T := TX10) (N := 26) (v := .ref (ad 15)) (by decide) mc_X10 rfl 21 (by decide) rfl inX10 tw4_47 dX10_skip_12 ?_
      refine lv_aload_n hx hb dX10_skip_15 rfl (lv_at hl 0 rfl) ?_
      refine getF C wd (k := 0) (Cn := RX10) (T := TX10) (N := 26) (v := .int (σ.1 23)) (by decide) mc_X10 rfl 23 (by decide) rfl inX10 tw4_49 dX10_skip_16 ?_
      obtain ⟨hi2, h⟩ := h
      refine ldI C wd (k := 15) (N := 120) (by decide) mc_A15 hi2 dX10_skip_19 ?_
      refine lv_bipush (v := (32 : Int32)) hx hb dX10_skip_20 (by decide) ?_
      refine lv_icmp_ne (tgt := 38) hx hb dX10_skip_22 (by decide) (fun c3 => ?_) (fun c3 => ?_)
      · have h := h.2 c3
        exact retV C wd h dX10_skip_38
      · have h := h.1 c3
        refine lv_aload_n hx hb dX10_skip_25 rfl (lv_at hl 0 rfl) ?_
        refine lv_dup hx hb dX10_skip_26 rfl ?_
        refine getF C wd (k := 0) (Cn := RX10) (T := TX10) (N := 26) (v := .int (σ.1 23)) (by decide) mc_X10 rfl 23 (by decide) rfl inX10 tw4_49 dX10_skip_27 ?_
        refine lv_iconst (v := (1 : Int32)) hx hb dX10_skip_30 (by decide) ?_
        refine lv_iadd hx hb dX10_skip_31 ?_
        refine putF C wd (k := 0) (Cn := RX10) (T := TX10) (N := 26) (σ' := setI σ 23 ((σ.1 23) + (1 : Int32))) (by decide) mc_X10 rfl tyX10_ok nmX10 23 (by decide) rfl (by decide +kernel) (Nat.le_of_ble_eq_true rfl) inX10 tw4_49 ms_X10_place dX10_skip_32 (fun H locs wd => ?_)
        obtain ⟨t4, et4⟩ : ∃ z : St, z = setI σ 23 ((σ.1 23) + (1 : Int32)) := ⟨_, rfl⟩
        rw [← et4] at wd
        have h := h t4 et4
        refine lv_goto (tgt := 0) hx hb dX10_skip_35 (by decide) ?_
        exact hk_0 _ _ _ _ h wd (lv_sub hl [0] rfl)
def wpX10_skip (σ : St) (Φ : St → Prop) : Prop :=
  (∃ N, wlX10_skip_0 Φ N σ)
set_option maxHeartbeats 4000000 in
set_option maxRecDepth 100000 in
theorem cmX10_skip {D : va_G} {cyI cyO : ClassId} {ad : Nat → Nat} {l : Launch} {σ : St} {sz : Nat} {Φ : St → Prop} (h : wpX10_skip σ Φ) : gMet D (tyL cyI cyO) (mCell ad cyI cyO) ad 16 l yX10_skip cX10_skip 1 none rmX10_skip [.ref (ad 0)] σ sz (gQv D (mCell ad cyI cyO) ad 16 sz Φ) := by
  refine gMet.of (by decide) (Nat.le_of_ble_eq_true rfl) ?_
  intro p e s m below meth c ls hsz C hl wd
  subst hsz
  have C : Cx p s m _ meth c cX10_skip 1 none RX10 := C
  obtain ⟨hx, hb, hr, hml, hown, hts, hlk⟩ := id C
  have hl : lv_has ls 1 [(0, .ref (ad 0))] := hl
  unfold wpX10_skip at h
  obtain ⟨N, h⟩ := h
  exact llX10_skip_0 C N _ _ _ _ h wd (lv_sub hl [0] rfl)
abbrev rmX10_isFigure : Room := rmOf 1 25
def wpX10_isFigure (x1 : Int32) (σ : St) (Φ : Int32 → St → Prop) : Prop :=
  (((σ.1 22) ≤ x1 → Φ (0 : Int32) σ) ∧ (¬ (σ.1 22) ≤ x1 → (vp_in x1 120 ∧ wpX10_in ((rd σ 15 x1).toInt64) (48 : Int64) (57 : Int64) σ (fun r4 t3 => ((r4 = 0 → Φ (0 : Int32) t3) ∧ (¬ r4 = 0 → Φ (1 : Int32) t3))))))
set_option maxHeartbeats 4000000 in
set_option maxRecDepth 100000 in
theorem cmX10_isFigure {D : va_G} {cyI cyO : ClassId} {ad : Nat → Nat} {l : Launch} {x1 : Int32} {σ : St} {sz : Nat} {Φ : Int32 → St → Prop} (h : wpX10_isFigure x1 σ Φ) : gMet D (tyL cyI cyO) (mCell ad cyI cyO) ad 16 l yX10_isFigure cX10_isFigure 2 (some .boolean) rmX10_isFigure [.ref (ad 0), .int x1] σ sz (gQi D (mCell ad cyI cyO) ad 16 sz Φ) := by
  refine gMet.of (by decide) (Nat.le_of_ble_eq_true rfl) ?_
  intro p e s m below meth c ls hsz C hl wd
  subst hsz
  have C : Cx p s m _ meth c cX10_isFigure 2 (some .boolean) RX10 := C
  obtain ⟨hx, hb, hr, hml, hown, hts, hlk⟩ := id C
  have hl : lv_has ls 2 [(0, .ref (ad 0)), (1, .int x1)] := hl
  unfold wpX10_isFigure at h
  refine lv_iload_n hx hb dX10_isFigure_0 rfl (lv_at hl 1 rfl) ?_
  refine lv_aload_n hx hb dX10_isFigure_1 rfl (lv_at hl 0 rfl) ?_
  refine getF C wd (k := 0) (Cn := RX10) (T := TX10) (N := 26) (v := .int (σ.1 22)) (by decide) mc_X10 rfl 22 (by decide) rfl inX10 tw4_48 dX10_isFigure_2 ?_
  refine lv_icmp_ge (tgt := 31) hx hb dX10_isFigure_5 (by decide) (fun c1 => ?_) (fun c1 => ?_)
  · have h := h.1 c1
    refine lv_iconst (v := (0 : Int32)) hx hb dX10_isFigure_31 (by decide) ?_
    exact retZ C wd rfl h dX10_isFigure_32
  · have h := h.2 c1
    refine lv_aload_n hx hb dX10_isFigure_8 rfl (lv_at hl 0 rfl) ?_
    refine getF C wd (k := 0) (Cn := RX10) (T := TX10) (N := 26) (v := .ref (ad 15)) (by decide) mc_X10 rfl 21 (by decide) rfl inX10 tw4_47 dX10_isFigure_9 ?_
    refine lv_iload_n hx hb dX10_isFigure_12 rfl (lv_at hl 1 rfl) ?_
    obtain ⟨hi2, h⟩ := h
    refine ldI C wd (k := 15) (N := 120) (by decide) mc_A15 hi2 dX10_isFigure_13 ?_
    refine lv_i2l hx hb dX10_isFigure_14 rfl ?_
    refine lv_ldc2 (v := (48 : Int64)) hx hb hown (hts _ tw5_140) dX10_isFigure_15 ?_
    refine lv_ldc2 (v := (57 : Int64)) hx hb hown (hts _ tw5_141) dX10_isFigure_18 ?_
    refine gCi wd (gRunS (y := yX10_in) (As := [.long ((rd σ 15 x1).toInt64), .long (48 : Int64), .long (57 : Int64)]) (rest := []) C wd (cmX10_in h) ⟨rfl, rfl⟩ gd_X10_59 nk_X10_in ⟨Nat.le_of_ble_eq_true rfl, Nat.le_of_ble_eq_true rfl⟩ hl.1 (Nat.le_of_ble_eq_true rfl) dX10_isFigure_21 rfl) (fun r4 t3 H locs h wd => ?_)
    try dsimp only at h
    refine lv_if_eq (tgt := 31) hx hb dX10_isFigure_24 (by decide) (fun c5 => ?_) (fun c5 => ?_)
    · have h := h.1 c5
      refine lv_iconst (v := (0 : Int32)) hx hb dX10_isFigure_31 (by decide) ?_
      exact retZ C wd rfl h dX10_isFigure_32
    · have h := h.2 c5
      refine lv_iconst (v := (1 : Int32)) hx hb dX10_isFigure_27 (by decide) ?_
      refine lv_goto (tgt := 32) hx hb dX10_isFigure_28 (by decide) ?_
      exact retZ C wd rfl h dX10_isFigure_32
abbrev rmX10_takes : Room := rmOf 2 46
def wbX10_takes_93 (Φ : Int32 → St → Prop) (x3 : Int32) (x4 : Int32) (z1 : Int32) (σ : St) : Prop :=
  (∀ t1 : St, t1 = setI σ 23 z1 → ((x4 = 0 → Φ (-1 : Int32) t1) ∧ (¬ x4 = 0 → Φ x3 t1)))
set_option maxHeartbeats 4000000 in
set_option maxRecDepth 100000 in
theorem blX10_takes_93 {p : Program} {l : Launch} {e : Env} {s : State} {m : MethodId} {args : Array Value} {below : List Frame} {meth : Method} {c : Code} (C : Cx p s m args meth c cX10_takes 5 (some .int) RX10) {Φ : Int32 → St → Prop} {x3 : Int32} {x4 : Int32} {z1 : Int32} {σ : St} {H : Heap} {locs : List Loc} {ls : Array Slot} (h : wbX10_takes_93 Φ x3 x4 z1 σ) (wd : gWd D (tyL cyI cyO) (mCell ad cyI cyO) ad 16 s H locs σ) (hl : lv_has ls 5 [(3, .int x3), (4, .int x4)]) : W p l e rmX10_takes s m args below meth c H locs 0 0 (MQ below (gQi D (mCell ad cyI cyO) ad 16 s.heap.size Φ) args s 0 0 (gA ad 16 s.heap.size)) (F0 m 93 ls [.int z1, .ref (ad 0)]) := by
  obtain ⟨hx, hb, hr, hml, hown, hts, hlk⟩ := id C
  unfold wbX10_takes_93 at h
  refine putF C wd (k := 0) (Cn := RX10) (T := TX10) (N := 26) (σ' := setI σ 23 z1) (by decide) mc_X10 rfl tyX10_ok nmX10 23 (by decide) rfl (by decide +kernel) (Nat.le_of_ble_eq_true rfl) inX10 tw4_49 ms_X10_place dX10_takes_93 (fun H locs wd => ?_)
  obtain ⟨t1, et1⟩ : ∃ z : St, z = setI σ 23 z1 := ⟨_, rfl⟩
  rw [← et1] at wd
  have h := h t1 et1
  refine lv_iload hx hb dX10_takes_96 (lv_at hl 1 rfl) ?_
  refine lv_if_eq (tgt := 105) hx hb dX10_takes_98 (by decide) (fun c2 => ?_) (fun c2 => ?_)
  · have h := h.1 c2
    refine lv_iconst (v := (-1 : Int32)) hx hb dX10_takes_105 (by decide) ?_
    exact retI C wd h dX10_takes_106
  · have h := h.2 c2
    refine lv_iload_n hx hb dX10_takes_101 rfl (lv_at hl 0 rfl) ?_
    refine lv_goto (tgt := 106) hx hb dX10_takes_102 (by decide) ?_
    exact retI C wd h dX10_takes_106
def wbX10_takes_77 (Φ : Int32 → St → Prop) (x2 : Int32) (x3 : Int32) (z0 : Int32) (σ : St) : Prop :=
  ((z0 = 0 → wbX10_takes_93 Φ x3 z0 (σ.1 23) σ) ∧ (¬ z0 = 0 → wbX10_takes_93 Φ x3 z0 x2 σ))
set_option maxHeartbeats 4000000 in
set_option maxRecDepth 100000 in
theorem blX10_takes_77 {p : Program} {l : Launch} {e : Env} {s : State} {m : MethodId} {args : Array Value} {below : List Frame} {meth : Method} {c : Code} (C : Cx p s m args meth c cX10_takes 5 (some .int) RX10) {Φ : Int32 → St → Prop} {x2 : Int32} {x3 : Int32} {z0 : Int32} {σ : St} {H : Heap} {locs : List Loc} {ls : Array Slot} (h : wbX10_takes_77 Φ x2 x3 z0 σ) (wd : gWd D (tyL cyI cyO) (mCell ad cyI cyO) ad 16 s H locs σ) (hl : lv_has ls 5 [(0, .ref (ad 0)), (2, .int x2), (3, .int x3)]) : W p l e rmX10_takes s m args below meth c H locs 0 0 (MQ below (gQi D (mCell ad cyI cyO) ad 16 s.heap.size Φ) args s 0 0 (gA ad 16 s.heap.size)) (F0 m 77 ls [.int z0]) := by
  obtain ⟨hx, hb, hr, hml, hown, hts, hlk⟩ := id C
  unfold wbX10_takes_77 at h
  refine lv_istore (lv' := [(4, .int z0), (0, .ref (ad 0)), (2, .int x2), (3, .int x3)]) hx hb dX10_takes_77 hl (by decide) rfl (fun ls hl => ?_)
  refine lv_aload_n hx hb dX10_takes_79 rfl (lv_at hl 1 rfl) ?_
  refine lv_iload hx hb dX10_takes_80 (lv_at hl 0 rfl) ?_
  refine lv_if_eq (tgt := 89) hx hb dX10_takes_82 (by decide) (fun c1 => ?_) (fun c1 => ?_)
  · have h := h.1 c1
    refine lv_aload_n hx hb dX10_takes_89 rfl (lv_at hl 1 rfl) ?_
    refine getF C wd (k := 0) (Cn := RX10) (T := TX10) (N := 26) (v := .int (σ.1 23)) (by decide) mc_X10 rfl 23 (by decide) rfl inX10 tw4_49 dX10_takes_90 ?_
    exact blX10_takes_93 C h wd (lv_sub hl [3, 0] rfl)
  · have h := h.2 c1
    refine lv_iload_n hx hb dX10_takes_85 rfl (lv_at hl 2 rfl) ?_
    refine lv_goto (tgt := 93) hx hb dX10_takes_86 (by decide) ?_
    exact blX10_takes_93 C h wd (lv_sub hl [3, 0] rfl)
def wbX10_takes_76 (Φ : Int32 → St → Prop) (x2 : Int32) (x3 : Int32) (σ : St) : Prop :=
  wbX10_takes_77 Φ x2 x3 (0 : Int32) σ
set_option maxHeartbeats 4000000 in
set_option maxRecDepth 100000 in
theorem blX10_takes_76 {p : Program} {l : Launch} {e : Env} {s : State} {m : MethodId} {args : Array Value} {below : List Frame} {meth : Method} {c : Code} (C : Cx p s m args meth c cX10_takes 5 (some .int) RX10) {Φ : Int32 → St → Prop} {x2 : Int32} {x3 : Int32} {σ : St} {H : Heap} {locs : List Loc} {ls : Array Slot} (h : wbX10_takes_76 Φ x2 x3 σ) (wd : gWd D (tyL cyI cyO) (mCell ad cyI cyO) ad 16 s H locs σ) (hl : lv_has ls 5 [(0, .ref (ad 0)), (2, .int x2), (3, .int x3)]) : W p l e rmX10_takes s m args below meth c H locs 0 0 (MQ below (gQi D (mCell ad cyI cyO) ad 16 s.heap.size Φ) args s 0 0 (gA ad 16 s.heap.size)) (F0 m 76 ls []) := by
  obtain ⟨hx, hb, hr, hml, hown, hts, hlk⟩ := id C
  unfold wbX10_takes_76 at h
  refine lv_iconst (v := (0 : Int32)) hx hb dX10_takes_76 (by decide) ?_
  exact blX10_takes_77 C h wd (lv_sub hl [0, 1, 2] rfl)
def wbX10_takes_50 (Φ : Int32 → St → Prop) (x1 : Int32) (x2 : Int32) (x3 : Int32) (σ : St) : Prop :=
  wpX10_in ((x2 - (σ.1 23)).toInt64) (1 : Int64) (3 : Int64) σ (fun r2 t1 => ((r2 = 0 → wbX10_takes_76 Φ x2 x3 t1) ∧ (¬ r2 = 0 → ((x1 < x3 → wbX10_takes_76 Φ x2 x3 t1) ∧ (¬ x1 < x3 → wbX10_takes_77 Φ x2 x3 (1 : Int32) t1)))))
set_option maxHeartbeats 4000000 in
set_option maxRecDepth 100000 in
theorem blX10_takes_50 {p : Program} {l : Launch} {e : Env} {s : State} {m : MethodId} {args : Array Value} {below : List Frame} {meth : Method} {c : Code} (C : Cx p s m args meth c cX10_takes 5 (some .int) RX10) {Φ : Int32 → St → Prop} {x1 : Int32} {x2 : Int32} {x3 : Int32} {σ : St} {H : Heap} {locs : List Loc} {ls : Array Slot} (h : wbX10_takes_50 Φ x1 x2 x3 σ) (wd : gWd D (tyL cyI cyO) (mCell ad cyI cyO) ad 16 s H locs σ) (hl : lv_has ls 5 [(0, .ref (ad 0)), (1, .int x1), (2, .int x2), (3, .int x3)]) : W p l e rmX10_takes s m args below meth c H locs 0 0 (MQ below (gQi D (mCell ad cyI cyO) ad 16 s.heap.size Φ) args s 0 0 (gA ad 16 s.heap.size)) (F0 m 50 ls []) := by
  obtain ⟨hx, hb, hr, hml, hown, hts, hlk⟩ := id C
  unfold wbX10_takes_50 at h
  refine lv_iload_n hx hb dX10_takes_50 rfl (lv_at hl 2 rfl) ?_
  refine lv_aload_n hx hb dX10_takes_51 rfl (lv_at hl 0 rfl) ?_
  refine getF C wd (k := 0) (Cn := RX10) (T := TX10) (N := 26) (v := .int (σ.1 23)) (by decide) mc_X10 rfl 23 (by decide) rfl inX10 tw4_49 dX10_takes_52 ?_
  refine lv_isub hx hb dX10_takes_55 ?_
  refine lv_i2l hx hb dX10_takes_56 rfl ?_
  refine lv_lconst (v := (1 : Int64)) hx hb dX10_takes_57 (by decide) ?_
  refine lv_ldc2 (v := (3 : Int64)) hx hb hown (hts _ tw4_141) dX10_takes_58 ?_
  refine gCi wd (gRunS (y := yX10_in) (As := [.long ((x2 - (σ.1 23)).toInt64), .long (1 : Int64), .long (3 : Int64)]) (rest := []) C wd (cmX10_in h) ⟨rfl, rfl⟩ gd_X10_59 nk_X10_in ⟨Nat.le_of_ble_eq_true rfl, Nat.le_of_ble_eq_true rfl⟩ hl.1 (Nat.le_of_ble_eq_true rfl) dX10_takes_61 rfl) (fun r2 t1 H locs h wd => ?_)
  try dsimp only at h
  refine lv_if_eq (tgt := 76) hx hb dX10_takes_64 (by decide) (fun c3 => ?_) (fun c3 => ?_)
  · have h := h.1 c3
    exact blX10_takes_76 C h wd (lv_sub hl [0, 2, 3] rfl)
  · have h := h.2 c3
    refine lv_iload_n hx hb dX10_takes_67 rfl (lv_at hl 3 rfl) ?_
    refine lv_iload_n hx hb dX10_takes_68 rfl (lv_at hl 1 rfl) ?_
    refine lv_icmp_gt (tgt := 76) hx hb dX10_takes_69 (by decide) (fun c4 => ?_) (fun c4 => ?_)
    · have h := h.1 c4
      exact blX10_takes_76 C h wd (lv_sub hl [0, 2, 3] rfl)
    · have h := h.2 c4
      refine lv_iconst (v := (1 : Int32)) hx hb dX10_takes_72 (by decide) ?_
      refine lv_goto (tgt := 77) hx hb dX10_takes_73 (by decide) ?_
      exact blX10_takes_77 C h wd (lv_sub hl [0, 2, 3] rfl)
def wlX10_takes_11_body (Φ : Int32 → St → Prop) (k_11 : Int32 → Int32 → Int32 → St → Prop) (x1 : Int32) (x2 : Int32) (x3 : Int32) (σ : St) : Prop :=
  wpX10_isFigure x2 σ (fun r2 t1 => ((r2 = 0 → wbX10_takes_50 Φ x1 x2 x3 t1) ∧ (¬ r2 = 0 → (((4 : Int32) ≤ (x2 - (t1.1 23)) → wbX10_takes_50 Φ x1 x2 x3 t1) ∧ (¬ (4 : Int32) ≤ (x2 - (t1.1 23)) → (vp_in x2 120 ∧ (∀ y6 : Int32, y6 = (((10 : Int32) * x3) + (rd t1 15 x2)) - (48 : Int32) → (∀ y7 : Int32, y7 = x2 + (1 : Int32) → k_11 x1 y7 y6 t1))))))))
def wlX10_takes_11 (Φ : Int32 → St → Prop) : Nat → Int32 → Int32 → Int32 → St → Prop
  | 0 => fun _ _ _ _ => False
  | N + 1 => fun x1 x2 x3 σ => wlX10_takes_11_body Φ (wlX10_takes_11 Φ N) x1 x2 x3 σ
set_option maxHeartbeats 4000000 in
set_option maxRecDepth 100000 in
theorem llX10_takes_11 {p : Program} {l : Launch} {e : Env} {s : State} {m : MethodId} {args : Array Value} {below : List Frame} {meth : Method} {c : Code} (C : Cx p s m args meth c cX10_takes 5 (some .int) RX10) {Φ : Int32 → St → Prop} : ∀ (N : Nat) (x1 : Int32) (x2 : Int32) (x3 : Int32) (σ : St) (H : Heap) (locs : List Loc) (ls : Array Slot), wlX10_takes_11 Φ N x1 x2 x3 σ → gWd D (tyL cyI cyO) (mCell ad cyI cyO) ad 16 s H locs σ → lv_has ls 5 [(0, .ref (ad 0)), (1, .int x1), (2, .int x2), (3, .int x3)] → W p l e rmX10_takes s m args below meth c H locs 0 0 (MQ below (gQi D (mCell ad cyI cyO) ad 16 s.heap.size Φ) args s 0 0 (gA ad 16 s.heap.size)) (F0 m 11 ls []) := by
  obtain ⟨hx, hb, hr, hml, hown, hts, hlk⟩ := id C
  intro N
  induction N with
  | zero =>
    intro x1 x2 x3 σ H locs ls h
    exact False.elim h
  | succ N ih =>
    intro x1 x2 x3 σ H locs ls h wd hl
    have h : wlX10_takes_11_body Φ (wlX10_takes_11 Φ N) x1 x2 x3 σ := h
    have hk_11 := ih
    unfold wlX10_takes_11_body at h
    refine lv_aload_n hx hb dX10_takes_11 rfl (lv_at hl 0 rfl) ?_
    refine lv_iload_n hx hb dX10_takes_12 rfl (lv_at hl 2 rfl) ?_
    refine gCi wd (gRunV (y := yX10_isFigure) (k := 0) (As := [.int x2]) (rest := []) C wd (cmX10_isFigure h) ⟨rfl, rfl⟩ gd_X10_246 nk_X10_isFigure ⟨Nat.le_of_ble_eq_true rfl, Nat.le_of_ble_eq_true rfl⟩ (by decide) mc_X10 rfl rfl hl.1 (Nat.le_of_ble_eq_true rfl) dX10_takes_13 rfl) (fun r2 t1 H locs h wd => ?_)
    try dsimp only at h
    refine lv_if_eq (tgt := 50) hx hb dX10_takes_16 (by decide) (fun c3 => ?_) (fun c3 => ?_)
    · have h := h.1 c3
      exact blX10_takes_50 C h wd (lv_sub hl [0, 1, 2, 3] rfl)
    · have h := h.2 c3
      refine lv_iload_n hx hb dX10_takes_19 rfl (lv_at hl 2 rfl) ?_
      refine lv_aload_n hx hb dX10_takes_20 rfl (lv_at hl 0 rfl) ?_
      refine getF C wd (k := 0) (Cn := RX10) (T := TX10) (N := 26) (v := .int (t1.1 23)) (by decide) mc_X10 rfl 23 (by decide) rfl inX10 tw4_49 dX10_takes_21 ?_
      refine lv_isub hx hb dX10_takes_24 ?_
      refine lv_iconst (v := (4 : Int32)) hx hb dX10_takes_25 (by decide) ?_
      refine lv_icmp_ge (tgt := 50) hx hb dX10_takes_26 (by decide) (fun c4 => ?_) (fun c4 => ?_)
      · have h := h.1 c4
        exact blX10_takes_50 C h wd (lv_sub hl [0, 1, 2, 3] rfl)
      · have h := h.2 c4
        refine lv_bipush (v := (10 : Int32)) hx hb dX10_takes_29 (by decide) ?_
        refine lv_iload_n hx hb dX10_takes_31 rfl (lv_at hl 3 rfl) ?_
        refine lv_imul hx hb dX10_takes_32 ?_
        refine lv_aload_n hx hb dX10_takes_33 rfl (lv_at hl 0 rfl) ?_
        refine getF C wd (k := 0) (Cn := RX10) (T := TX10) (N := 26) (v := .ref (ad 15)) (by decide) mc_X10 rfl 21 (by decide) rfl inX10 tw4_47 dX10_takes_34 ?_
        refine lv_iload_n hx hb dX10_takes_37 rfl (lv_at hl 2 rfl) ?_
        obtain ⟨hi5, h⟩ := h
        refine ldI C wd (k := 15) (N := 120) (by decide) mc_A15 hi5 dX10_takes_38 ?_
        refine lv_iadd hx hb dX10_takes_39 ?_
        refine lv_bipush (v := (48 : Int32)) hx hb dX10_takes_40 (by decide) ?_
        refine lv_isub hx hb dX10_takes_42 ?_
        refine lv_topi (fun y6 ey6 => ?_)
        have h := h y6 ey6
        refine lv_istore_n (lv' := [(3, .int y6), (0, .ref (ad 0)), (1, .int x1), (2, .int x2)]) hx hb dX10_takes_43 rfl hl (by decide) rfl (fun ls hl => ?_)
        obtain ⟨y7, ey7⟩ : ∃ y : Int32, y = x2 + (1 : Int32) := ⟨_, rfl⟩
        refine lv_iinc (v := y7) (lv' := [(2, .int y7), (3, .int y6), (0, .ref (ad 0)), (1, .int x1)]) hx hb dX10_takes_44 hl (k := 3) rfl (by rw [ey7]; rfl) (by decide) rfl (fun ls hl => ?_)
        have h := h y7 ey7
        refine lv_goto (tgt := 11) hx hb dX10_takes_47 (by decide) ?_
        exact hk_11 _ _ _ _ _ _ _ h wd (lv_sub hl [2, 3, 0, 1] rfl)
def wpX10_takes (x1 : Int32) (σ : St) (Φ : Int32 → St → Prop) : Prop :=
  wpX10_skip σ (fun t1 => (∀ y2 : Int32, y2 = t1.1 23 → (∃ N, wlX10_takes_11 Φ N x1 y2 (0 : Int32) t1)))
set_option maxHeartbeats 4000000 in
set_option maxRecDepth 100000 in
theorem cmX10_takes {D : va_G} {cyI cyO : ClassId} {ad : Nat → Nat} {l : Launch} {x1 : Int32} {σ : St} {sz : Nat} {Φ : Int32 → St → Prop} (h : wpX10_takes x1 σ Φ) : gMet D (tyL cyI cyO) (mCell ad cyI cyO) ad 16 l yX10_takes cX10_takes 5 (some .int) rmX10_takes [.ref (ad 0), .int x1] σ sz (gQi D (mCell ad cyI cyO) ad 16 sz Φ) := by
  refine gMet.of (by decide) (Nat.le_of_ble_eq_true rfl) ?_
  intro p e s m below meth c ls hsz C hl wd
  subst hsz
  have C : Cx p s m _ meth c cX10_takes 5 (some .int) RX10 := C
  obtain ⟨hx, hb, hr, hml, hown, hts, hlk⟩ := id C
  have hl : lv_has ls 5 [(0, .ref (ad 0)), (1, .int x1)] := hl
  unfold wpX10_takes at h
  refine lv_aload_n hx hb dX10_takes_0 rfl (lv_at hl 0 rfl) ?_
  refine gCv wd (gRunV (y := yX10_skip) (k := 0) (As := []) (rest := []) C wd (cmX10_skip h) ⟨rfl, rfl⟩ gd_X10_243 nk_X10_skip ⟨Nat.le_of_ble_eq_true rfl, Nat.le_of_ble_eq_true rfl⟩ (by decide) mc_X10 rfl rfl hl.1 (Nat.le_of_ble_eq_true rfl) dX10_takes_1 rfl) (fun t1 H locs h wd => ?_)
  try dsimp only at h
  refine lv_aload_n hx hb dX10_takes_4 rfl (lv_at hl 0 rfl) ?_
  refine getF C wd (k := 0) (Cn := RX10) (T := TX10) (N := 26) (v := .int (t1.1 23)) (by decide) mc_X10 rfl 23 (by decide) rfl inX10 tw4_49 dX10_takes_5 ?_
  refine lv_topi (fun y2 ey2 => ?_)
  have h := h y2 ey2
  refine lv_istore_n (lv' := [(2, .int y2), (0, .ref (ad 0)), (1, .int x1)]) hx hb dX10_takes_8 rfl hl (by decide) rfl (fun ls hl => ?_)
  refine lv_iconst (v := (0 : Int32)) hx hb dX10_takes_9 (by decide) ?_
  refine lv_istore_n (lv' := [(3, .int (0 : Int32)), (2, .int y2), (0, .ref (ad 0)), (1, .int x1)]) hx hb dX10_takes_10 rfl hl (by decide) rfl (fun ls hl => ?_)
  obtain ⟨N, h⟩ := h
  exact llX10_takes_11 C N _ _ _ _ _ _ _ h wd (lv_sub hl [2, 3, 1, 0] rfl)
abbrev rmX10_manyOf : Room := rmOf 0 0
def wpX10_manyOf (x0 : Int32) (σ : St) (Φ : Int32 → St → Prop) : Prop :=
  ((x0 = (119 : Int32) → Φ (2 : Int32) σ) ∧ (¬ x0 = (119 : Int32) → ((x0 = (115 : Int32) → Φ (2 : Int32) σ) ∧ (¬ x0 = (115 : Int32) → ((x0 = (103 : Int32) → Φ (2 : Int32) σ) ∧ (¬ x0 = (103 : Int32) → ((x0 = (108 : Int32) → Φ (1 : Int32) σ) ∧ (¬ x0 = (108 : Int32) → ((x0 = (120 : Int32) → Φ (1 : Int32) σ) ∧ (¬ x0 = (120 : Int32) → ((x0 = (111 : Int32) → Φ (1 : Int32) σ) ∧ (¬ x0 = (111 : Int32) → ((x0 = (114 : Int32) → Φ (0 : Int32) σ) ∧ (¬ x0 = (114 : Int32) → ((x0 = (117 : Int32) → Φ (0 : Int32) σ) ∧ (¬ x0 = (117 : Int32) → Φ (-1 : Int32) σ))))))))))))))))
set_option maxHeartbeats 4000000 in
set_option maxRecDepth 100000 in
theorem cmX10_manyOf {D : va_G} {cyI cyO : ClassId} {ad : Nat → Nat} {l : Launch} {x0 : Int32} {σ : St} {sz : Nat} {Φ : Int32 → St → Prop} (h : wpX10_manyOf x0 σ Φ) : gMet D (tyL cyI cyO) (mCell ad cyI cyO) ad 16 l yX10_manyOf cX10_manyOf 1 (some .int) rmX10_manyOf [.int x0] σ sz (gQi D (mCell ad cyI cyO) ad 16 sz Φ) := by
  refine gMet.of (by decide) (Nat.le_of_ble_eq_true rfl) ?_
  intro p e s m below meth c ls hsz C hl wd
  subst hsz
  have C : Cx p s m _ meth c cX10_manyOf 1 (some .int) RX10 := C
  obtain ⟨hx, hb, hr, hml, hown, hts, hlk⟩ := id C
  have hl : lv_has ls 1 [(0, .int x0)] := hl
  unfold wpX10_manyOf at h
  refine lv_iload_n hx hb dX10_manyOf_0 rfl (lv_at hl 0 rfl) ?_
  refine lv_bipush (v := (119 : Int32)) hx hb dX10_manyOf_1 (by decide) ?_
  refine lv_icmp_eq (tgt := 18) hx hb dX10_manyOf_3 (by decide) (fun c1 => ?_) (fun c1 => ?_)
  · have h := h.1 c1
    refine lv_iconst (v := (2 : Int32)) hx hb dX10_manyOf_18 (by decide) ?_
    refine lv_goto (tgt := 61) hx hb dX10_manyOf_19 (by decide) ?_
    exact retI C wd h dX10_manyOf_61
  · have h := h.2 c1
    refine lv_iload_n hx hb dX10_manyOf_6 rfl (lv_at hl 0 rfl) ?_
    refine lv_bipush (v := (115 : Int32)) hx hb dX10_manyOf_7 (by decide) ?_
    refine lv_icmp_eq (tgt := 18) hx hb dX10_manyOf_9 (by decide) (fun c2 => ?_) (fun c2 => ?_)
    · have h := h.1 c2
      refine lv_iconst (v := (2 : Int32)) hx hb dX10_manyOf_18 (by decide) ?_
      refine lv_goto (tgt := 61) hx hb dX10_manyOf_19 (by decide) ?_
      exact retI C wd h dX10_manyOf_61
    · have h := h.2 c2
      refine lv_iload_n hx hb dX10_manyOf_12 rfl (lv_at hl 0 rfl) ?_
      refine lv_bipush (v := (103 : Int32)) hx hb dX10_manyOf_13 (by decide) ?_
      refine lv_icmp_ne (tgt := 22) hx hb dX10_manyOf_15 (by decide) (fun c3 => ?_) (fun c3 => ?_)
      · have h := h.2 c3
        refine lv_iload_n hx hb dX10_manyOf_22 rfl (lv_at hl 0 rfl) ?_
        refine lv_bipush (v := (108 : Int32)) hx hb dX10_manyOf_23 (by decide) ?_
        refine lv_icmp_eq (tgt := 40) hx hb dX10_manyOf_25 (by decide) (fun c4 => ?_) (fun c4 => ?_)
        · have h := h.1 c4
          refine lv_iconst (v := (1 : Int32)) hx hb dX10_manyOf_40 (by decide) ?_
          refine lv_goto (tgt := 61) hx hb dX10_manyOf_41 (by decide) ?_
          exact retI C wd h dX10_manyOf_61
        · have h := h.2 c4
          refine lv_iload_n hx hb dX10_manyOf_28 rfl (lv_at hl 0 rfl) ?_
          refine lv_bipush (v := (120 : Int32)) hx hb dX10_manyOf_29 (by decide) ?_
          refine lv_icmp_eq (tgt := 40) hx hb dX10_manyOf_31 (by decide) (fun c5 => ?_) (fun c5 => ?_)
          · have h := h.1 c5
            refine lv_iconst (v := (1 : Int32)) hx hb dX10_manyOf_40 (by decide) ?_
            refine lv_goto (tgt := 61) hx hb dX10_manyOf_41 (by decide) ?_
            exact retI C wd h dX10_manyOf_61
          · have h := h.2 c5
            refine lv_iload_n hx hb dX10_manyOf_34 rfl (lv_at hl 0 rfl) ?_
            refine lv_bipush (v := (111 : Int32)) hx hb dX10_manyOf_35 (by decide) ?_
            refine lv_icmp_ne (tgt := 44) hx hb dX10_manyOf_37 (by decide) (fun c6 => ?_) (fun c6 => ?_)
            · have h := h.2 c6
              refine lv_iload_n hx hb dX10_manyOf_44 rfl (lv_at hl 0 rfl) ?_
              refine lv_bipush (v := (114 : Int32)) hx hb dX10_manyOf_45 (by decide) ?_
              refine lv_icmp_eq (tgt := 56) hx hb dX10_manyOf_47 (by decide) (fun c7 => ?_) (fun c7 => ?_)
              · have h := h.1 c7
                refine lv_iconst (v := (0 : Int32)) hx hb dX10_manyOf_56 (by decide) ?_
                refine lv_goto (tgt := 61) hx hb dX10_manyOf_57 (by decide) ?_
                exact retI C wd h dX10_manyOf_61
              · have h := h.2 c7
                refine lv_iload_n hx hb dX10_manyOf_50 rfl (lv_at hl 0 rfl) ?_
                refine lv_bipush (v := (117 : Int32)) hx hb dX10_manyOf_51 (by decide) ?_
                refine lv_icmp_ne (tgt := 60) hx hb dX10_manyOf_53 (by decide) (fun c8 => ?_) (fun c8 => ?_)
                · have h := h.2 c8
                  refine lv_iconst (v := (-1 : Int32)) hx hb dX10_manyOf_60 (by decide) ?_
                  exact retI C wd h dX10_manyOf_61
                · have h := h.1 c8
                  refine lv_iconst (v := (0 : Int32)) hx hb dX10_manyOf_56 (by decide) ?_
                  refine lv_goto (tgt := 61) hx hb dX10_manyOf_57 (by decide) ?_
                  exact retI C wd h dX10_manyOf_61
            · have h := h.1 c6
              refine lv_iconst (v := (1 : Int32)) hx hb dX10_manyOf_40 (by decide) ?_
              refine lv_goto (tgt := 61) hx hb dX10_manyOf_41 (by decide) ?_
              exact retI C wd h dX10_manyOf_61
      · have h := h.1 c3
        refine lv_iconst (v := (2 : Int32)) hx hb dX10_manyOf_18 (by decide) ?_
        refine lv_goto (tgt := 61) hx hb dX10_manyOf_19 (by decide) ?_
        exact retI C wd h dX10_manyOf_61
abbrev rmX10_reads : Room := rmOf 3 70
def wbX10_reads_171 (Φ : Int32 → St → Prop) (x1 : Int32) (σ : St) : Prop :=
  wpX10_skip σ (fun t1 => (((t1.1 23) = (t1.1 22) → Φ (-1 : Int32) t1) ∧ (¬ (t1.1 23) = (t1.1 22) → (vp_in (t1.1 23) 120 ∧ (((rd t1 15 (t1.1 23)) = (59 : Int32) → (∀ t5 : St, t5 = setI t1 23 ((t1.1 23) + (1 : Int32)) → Φ x1 t5)) ∧ (¬ (rd t1 15 (t1.1 23)) = (59 : Int32) → Φ (-1 : Int32) t1))))))
set_option maxHeartbeats 4000000 in
set_option maxRecDepth 100000 in
theorem blX10_reads_171 {p : Program} {l : Launch} {e : Env} {s : State} {m : MethodId} {args : Array Value} {below : List Frame} {meth : Method} {c : Code} (C : Cx p s m args meth c cX10_reads 4 (some .int) RX10) {Φ : Int32 → St → Prop} {x1 : Int32} {σ : St} {H : Heap} {locs : List Loc} {ls : Array Slot} (h : wbX10_reads_171 Φ x1 σ) (wd : gWd D (tyL cyI cyO) (mCell ad cyI cyO) ad 16 s H locs σ) (hl : lv_has ls 4 [(0, .ref (ad 0)), (1, .int x1)]) : W p l e rmX10_reads s m args below meth c H locs 0 0 (MQ below (gQi D (mCell ad cyI cyO) ad 16 s.heap.size Φ) args s 0 0 (gA ad 16 s.heap.size)) (F0 m 171 ls []) := by
  obtain ⟨hx, hb, hr, hml, hown, hts, hlk⟩ := id C
  unfold wbX10_reads_171 at h
  refine lv_aload_n hx hb dX10_reads_171 rfl (lv_at hl 0 rfl) ?_
  refine gCv wd (gRunV (y := yX10_skip) (k := 0) (As := []) (rest := []) C wd (cmX10_skip h) ⟨rfl, rfl⟩ gd_X10_243 nk_X10_skip ⟨Nat.le_of_ble_eq_true rfl, Nat.le_of_ble_eq_true rfl⟩ (by decide) mc_X10 rfl rfl hl.1 (Nat.le_of_ble_eq_true rfl) dX10_reads_172 rfl) (fun t1 H locs h wd => ?_)
  try dsimp only at h
  refine lv_aload_n hx hb dX10_reads_175 rfl (lv_at hl 0 rfl) ?_
  refine getF C wd (k := 0) (Cn := RX10) (T := TX10) (N := 26) (v := .int (t1.1 23)) (by decide) mc_X10 rfl 23 (by decide) rfl inX10 tw4_49 dX10_reads_176 ?_
  refine lv_aload_n hx hb dX10_reads_179 rfl (lv_at hl 0 rfl) ?_
  refine getF C wd (k := 0) (Cn := RX10) (T := TX10) (N := 26) (v := .int (t1.1 22)) (by decide) mc_X10 rfl 22 (by decide) rfl inX10 tw4_48 dX10_reads_180 ?_
  refine lv_icmp_eq (tgt := 200) hx hb dX10_reads_183 (by decide) (fun c2 => ?_) (fun c2 => ?_)
  · have h := h.1 c2
    refine lv_iconst (v := (-1 : Int32)) hx hb dX10_reads_200 (by decide) ?_
    exact retI C wd h dX10_reads_201
  · have h := h.2 c2
    refine lv_aload_n hx hb dX10_reads_186 rfl (lv_at hl 0 rfl) ?_
    refine getF C wd (k := 0) (Cn := RX10) (T := TX10) (N := 26) (v := .ref (ad 15)) (by decide) mc_X10 rfl 21 (by decide) rfl inX10 tw4_47 dX10_reads_187 ?_
    refine lv_aload_n hx hb dX10_reads_190 rfl (lv_at hl 0 rfl) ?_
    refine getF C wd (k := 0) (Cn := RX10) (T := TX10) (N := 26) (v := .int (t1.1 23)) (by decide) mc_X10 rfl 23 (by decide) rfl inX10 tw4_49 dX10_reads_191 ?_
    obtain ⟨hi3, h⟩ := h
    refine ldI C wd (k := 15) (N := 120) (by decide) mc_A15 hi3 dX10_reads_194 ?_
    refine lv_bipush (v := (59 : Int32)) hx hb dX10_reads_195 (by decide) ?_
    refine lv_icmp_eq (tgt := 202) hx hb dX10_reads_197 (by decide) (fun c4 => ?_) (fun c4 => ?_)
    · have h := h.1 c4
      refine lv_aload_n hx hb dX10_reads_202 rfl (lv_at hl 0 rfl) ?_
      refine lv_dup hx hb dX10_reads_203 rfl ?_
      refine getF C wd (k := 0) (Cn := RX10) (T := TX10) (N := 26) (v := .int (t1.1 23)) (by decide) mc_X10 rfl 23 (by decide) rfl inX10 tw4_49 dX10_reads_204 ?_
      refine lv_iconst (v := (1 : Int32)) hx hb dX10_reads_207 (by decide) ?_
      refine lv_iadd hx hb dX10_reads_208 ?_
      refine putF C wd (k := 0) (Cn := RX10) (T := TX10) (N := 26) (σ' := setI t1 23 ((t1.1 23) + (1 : Int32))) (by decide) mc_X10 rfl tyX10_ok nmX10 23 (by decide) rfl (by decide +kernel) (Nat.le_of_ble_eq_true rfl) inX10 tw4_49 ms_X10_place dX10_reads_209 (fun H locs wd => ?_)
      obtain ⟨t5, et5⟩ : ∃ z : St, z = setI t1 23 ((t1.1 23) + (1 : Int32)) := ⟨_, rfl⟩
      rw [← et5] at wd
      have h := h t5 et5
      refine lv_iload_n hx hb dX10_reads_212 rfl (lv_at hl 1 rfl) ?_
      exact retI C wd h dX10_reads_213
    · have h := h.2 c4
      refine lv_iconst (v := (-1 : Int32)) hx hb dX10_reads_200 (by decide) ?_
      exact retI C wd h dX10_reads_201
def wbX10_reads_161 (Φ : Int32 → St → Prop) (x1 : Int32) (σ : St) : Prop :=
  (((σ.1 25) = (-1 : Int32) → Φ (-1 : Int32) σ) ∧ (¬ (σ.1 25) = (-1 : Int32) → wbX10_reads_171 Φ x1 σ))
set_option maxHeartbeats 4000000 in
set_option maxRecDepth 100000 in
theorem blX10_reads_161 {p : Program} {l : Launch} {e : Env} {s : State} {m : MethodId} {args : Array Value} {below : List Frame} {meth : Method} {c : Code} (C : Cx p s m args meth c cX10_reads 4 (some .int) RX10) {Φ : Int32 → St → Prop} {x1 : Int32} {σ : St} {H : Heap} {locs : List Loc} {ls : Array Slot} (h : wbX10_reads_161 Φ x1 σ) (wd : gWd D (tyL cyI cyO) (mCell ad cyI cyO) ad 16 s H locs σ) (hl : lv_has ls 4 [(0, .ref (ad 0)), (1, .int x1)]) : W p l e rmX10_reads s m args below meth c H locs 0 0 (MQ below (gQi D (mCell ad cyI cyO) ad 16 s.heap.size Φ) args s 0 0 (gA ad 16 s.heap.size)) (F0 m 161 ls []) := by
  obtain ⟨hx, hb, hr, hml, hown, hts, hlk⟩ := id C
  unfold wbX10_reads_161 at h
  refine lv_aload_n hx hb dX10_reads_161 rfl (lv_at hl 0 rfl) ?_
  refine getF C wd (k := 0) (Cn := RX10) (T := TX10) (N := 26) (v := .int (σ.1 25)) (by decide) mc_X10 rfl 25 (by decide) rfl inX10 tw4_51 dX10_reads_162 ?_
  refine lv_iconst (v := (-1 : Int32)) hx hb dX10_reads_165 (by decide) ?_
  refine lv_icmp_ne (tgt := 171) hx hb dX10_reads_166 (by decide) (fun c1 => ?_) (fun c1 => ?_)
  · have h := h.2 c1
    exact blX10_reads_171 C h wd (lv_sub hl [0, 1] rfl)
  · have h := h.1 c1
    refine lv_iconst (v := (-1 : Int32)) hx hb dX10_reads_169 (by decide) ?_
    exact retI C wd h dX10_reads_170
def wbX10_reads_128 (Φ : Int32 → St → Prop) (x1 : Int32) (x3 : Int32) (z2 : Int32) (σ : St) : Prop :=
  wpX10_takes z2 σ (fun r2 t1 => (∀ t3 : St, t3 = setI t1 25 r2 → ((x1 = (115 : Int32) → (((t3.1 25) = (t3.1 24) → (∀ t6 : St, t6 = setI t3 23 x3 → (∀ t7 : St, t7 = setI t6 25 (-1 : Int32) → wbX10_reads_161 Φ x1 t7))) ∧ (¬ (t3.1 25) = (t3.1 24) → wbX10_reads_161 Φ x1 t3))) ∧ (¬ x1 = (115 : Int32) → wbX10_reads_161 Φ x1 t3))))
set_option maxHeartbeats 4000000 in
set_option maxRecDepth 100000 in
theorem blX10_reads_128 {p : Program} {l : Launch} {e : Env} {s : State} {m : MethodId} {args : Array Value} {below : List Frame} {meth : Method} {c : Code} (C : Cx p s m args meth c cX10_reads 4 (some .int) RX10) {Φ : Int32 → St → Prop} {x1 : Int32} {x3 : Int32} {z2 : Int32} {σ : St} {H : Heap} {locs : List Loc} {ls : Array Slot} (h : wbX10_reads_128 Φ x1 x3 z2 σ) (wd : gWd D (tyL cyI cyO) (mCell ad cyI cyO) ad 16 s H locs σ) (hl : lv_has ls 4 [(0, .ref (ad 0)), (1, .int x1), (3, .int x3)]) : W p l e rmX10_reads s m args below meth c H locs 0 0 (MQ below (gQi D (mCell ad cyI cyO) ad 16 s.heap.size Φ) args s 0 0 (gA ad 16 s.heap.size)) (F0 m 128 ls [.int z2, .ref (ad 0), .ref (ad 0)]) := by
  obtain ⟨hx, hb, hr, hml, hown, hts, hlk⟩ := id C
  unfold wbX10_reads_128 at h
  refine gCi wd (gRunV (y := yX10_takes) (k := 0) (As := [.int z2]) (rest := [.ref (ad 0)]) C wd (cmX10_takes h) ⟨rfl, rfl⟩ gd_X10_252 nk_X10_takes ⟨Nat.le_of_ble_eq_true rfl, Nat.le_of_ble_eq_true rfl⟩ (by decide) mc_X10 rfl rfl hl.1 (Nat.le_of_ble_eq_true rfl) dX10_reads_128 rfl) (fun r2 t1 H locs h wd => ?_)
  try dsimp only at h
  refine putF C wd (k := 0) (Cn := RX10) (T := TX10) (N := 26) (σ' := setI t1 25 r2) (by decide) mc_X10 rfl tyX10_ok nmX10 25 (by decide) rfl (by decide +kernel) (Nat.le_of_ble_eq_true rfl) inX10 tw4_51 ms_X10_second dX10_reads_131 (fun H locs wd => ?_)
  obtain ⟨t3, et3⟩ : ∃ z : St, z = setI t1 25 r2 := ⟨_, rfl⟩
  rw [← et3] at wd
  have h := h t3 et3
  refine lv_iload_n hx hb dX10_reads_134 rfl (lv_at hl 1 rfl) ?_
  refine lv_bipush (v := (115 : Int32)) hx hb dX10_reads_135 (by decide) ?_
  refine lv_icmp_ne (tgt := 161) hx hb dX10_reads_137 (by decide) (fun c4 => ?_) (fun c4 => ?_)
  · have h := h.2 c4
    exact blX10_reads_161 C h wd (lv_sub hl [0, 1] rfl)
  · have h := h.1 c4
    refine lv_aload_n hx hb dX10_reads_140 rfl (lv_at hl 0 rfl) ?_
    refine getF C wd (k := 0) (Cn := RX10) (T := TX10) (N := 26) (v := .int (t3.1 25)) (by decide) mc_X10 rfl 25 (by decide) rfl inX10 tw4_51 dX10_reads_141 ?_
    refine lv_aload_n hx hb dX10_reads_144 rfl (lv_at hl 0 rfl) ?_
    refine getF C wd (k := 0) (Cn := RX10) (T := TX10) (N := 26) (v := .int (t3.1 24)) (by decide) mc_X10 rfl 24 (by decide) rfl inX10 tw4_50 dX10_reads_145 ?_
    refine lv_icmp_ne (tgt := 161) hx hb dX10_reads_148 (by decide) (fun c5 => ?_) (fun c5 => ?_)
    · have h := h.2 c5
      exact blX10_reads_161 C h wd (lv_sub hl [0, 1] rfl)
    · have h := h.1 c5
      refine lv_aload_n hx hb dX10_reads_151 rfl (lv_at hl 0 rfl) ?_
      refine lv_iload_n hx hb dX10_reads_152 rfl (lv_at hl 2 rfl) ?_
      refine putF C wd (k := 0) (Cn := RX10) (T := TX10) (N := 26) (σ' := setI t3 23 x3) (by decide) mc_X10 rfl tyX10_ok nmX10 23 (by decide) rfl (by decide +kernel) (Nat.le_of_ble_eq_true rfl) inX10 tw4_49 ms_X10_place dX10_reads_153 (fun H locs wd => ?_)
      obtain ⟨t6, et6⟩ : ∃ z : St, z = setI t3 23 x3 := ⟨_, rfl⟩
      rw [← et6] at wd
      have h := h t6 et6
      refine lv_aload_n hx hb dX10_reads_156 rfl (lv_at hl 0 rfl) ?_
      refine lv_iconst (v := (-1 : Int32)) hx hb dX10_reads_157 (by decide) ?_
      refine putF C wd (k := 0) (Cn := RX10) (T := TX10) (N := 26) (σ' := setI t6 25 (-1 : Int32)) (by decide) mc_X10 rfl tyX10_ok nmX10 25 (by decide) rfl (by decide +kernel) (Nat.le_of_ble_eq_true rfl) inX10 tw4_51 ms_X10_second dX10_reads_158 (fun H locs wd => ?_)
      obtain ⟨t7, et7⟩ : ∃ z : St, z = setI t6 25 (-1 : Int32) := ⟨_, rfl⟩
      rw [← et7] at wd
      have h := h t7 et7
      exact blX10_reads_161 C h wd (lv_sub hl [0, 1] rfl)
def wbX10_reads_70 (Φ : Int32 → St → Prop) (x1 : Int32) (x2 : Int32) (z1 : Int32) (σ : St) : Prop :=
  (∀ t1 : St, t1 = setI σ 24 z1 → (((t1.1 24) = (-1 : Int32) → Φ (-1 : Int32) t1) ∧ (¬ (t1.1 24) = (-1 : Int32) → ((x2 = (2 : Int32) → wpX10_skip t1 (fun t4 => (∀ y5 : Int32, y5 = t4.1 23 → ((x1 = (119 : Int32) → wbX10_reads_128 Φ x1 y5 (999 : Int32) t4) ∧ (¬ x1 = (119 : Int32) → ((x1 = (103 : Int32) → wbX10_reads_128 Φ x1 y5 (99 : Int32) t4) ∧ (¬ x1 = (103 : Int32) → wbX10_reads_128 Φ x1 y5 ((t4.1 0) - (1 : Int32)) t4))))))) ∧ (¬ x2 = (2 : Int32) → wbX10_reads_171 Φ x1 t1)))))
set_option maxHeartbeats 4000000 in
set_option maxRecDepth 100000 in
theorem blX10_reads_70 {p : Program} {l : Launch} {e : Env} {s : State} {m : MethodId} {args : Array Value} {below : List Frame} {meth : Method} {c : Code} (C : Cx p s m args meth c cX10_reads 4 (some .int) RX10) {Φ : Int32 → St → Prop} {x1 : Int32} {x2 : Int32} {z1 : Int32} {σ : St} {H : Heap} {locs : List Loc} {ls : Array Slot} (h : wbX10_reads_70 Φ x1 x2 z1 σ) (wd : gWd D (tyL cyI cyO) (mCell ad cyI cyO) ad 16 s H locs σ) (hl : lv_has ls 4 [(0, .ref (ad 0)), (1, .int x1), (2, .int x2)]) : W p l e rmX10_reads s m args below meth c H locs 0 0 (MQ below (gQi D (mCell ad cyI cyO) ad 16 s.heap.size Φ) args s 0 0 (gA ad 16 s.heap.size)) (F0 m 70 ls [.int z1, .ref (ad 0)]) := by
  obtain ⟨hx, hb, hr, hml, hown, hts, hlk⟩ := id C
  unfold wbX10_reads_70 at h
  refine putF C wd (k := 0) (Cn := RX10) (T := TX10) (N := 26) (σ' := setI σ 24 z1) (by decide) mc_X10 rfl tyX10_ok nmX10 24 (by decide) rfl (by decide +kernel) (Nat.le_of_ble_eq_true rfl) inX10 tw4_50 ms_X10_first dX10_reads_70 (fun H locs wd => ?_)
  obtain ⟨t1, et1⟩ : ∃ z : St, z = setI σ 24 z1 := ⟨_, rfl⟩
  rw [← et1] at wd
  have h := h t1 et1
  refine lv_aload_n hx hb dX10_reads_73 rfl (lv_at hl 0 rfl) ?_
  refine getF C wd (k := 0) (Cn := RX10) (T := TX10) (N := 26) (v := .int (t1.1 24)) (by decide) mc_X10 rfl 24 (by decide) rfl inX10 tw4_50 dX10_reads_74 ?_
  refine lv_iconst (v := (-1 : Int32)) hx hb dX10_reads_77 (by decide) ?_
  refine lv_icmp_ne (tgt := 83) hx hb dX10_reads_78 (by decide) (fun c2 => ?_) (fun c2 => ?_)
  · have h := h.2 c2
    refine lv_iload_n hx hb dX10_reads_83 rfl (lv_at hl 2 rfl) ?_
    refine lv_iconst (v := (2 : Int32)) hx hb dX10_reads_84 (by decide) ?_
    refine lv_icmp_ne (tgt := 171) hx hb dX10_reads_85 (by decide) (fun c3 => ?_) (fun c3 => ?_)
    · have h := h.2 c3
      exact blX10_reads_171 C h wd (lv_sub hl [0, 1] rfl)
    · have h := h.1 c3
      refine lv_aload_n hx hb dX10_reads_88 rfl (lv_at hl 0 rfl) ?_
      refine gCv wd (gRunV (y := yX10_skip) (k := 0) (As := []) (rest := []) C wd (cmX10_skip h) ⟨rfl, rfl⟩ gd_X10_243 nk_X10_skip ⟨Nat.le_of_ble_eq_true rfl, Nat.le_of_ble_eq_true rfl⟩ (by decide) mc_X10 rfl rfl hl.1 (Nat.le_of_ble_eq_true rfl) dX10_reads_89 rfl) (fun t4 H locs h wd => ?_)
      try dsimp only at h
      refine lv_aload_n hx hb dX10_reads_92 rfl (lv_at hl 0 rfl) ?_
      refine getF C wd (k := 0) (Cn := RX10) (T := TX10) (N := 26) (v := .int (t4.1 23)) (by decide) mc_X10 rfl 23 (by decide) rfl inX10 tw4_49 dX10_reads_93 ?_
      refine lv_topi (fun y5 ey5 => ?_)
      have h := h y5 ey5
      refine lv_istore_n (lv' := [(3, .int y5), (0, .ref (ad 0)), (1, .int x1), (2, .int x2)]) hx hb dX10_reads_96 rfl hl (by decide) rfl (fun ls hl => ?_)
      refine lv_aload_n hx hb dX10_reads_97 rfl (lv_at hl 1 rfl) ?_
      refine lv_aload_n hx hb dX10_reads_98 rfl (lv_at hl 1 rfl) ?_
      refine lv_iload_n hx hb dX10_reads_99 rfl (lv_at hl 2 rfl) ?_
      refine lv_bipush (v := (119 : Int32)) hx hb dX10_reads_100 (by decide) ?_
      refine lv_icmp_ne (tgt := 111) hx hb dX10_reads_102 (by decide) (fun c6 => ?_) (fun c6 => ?_)
      · have h := h.2 c6
        refine lv_iload_n hx hb dX10_reads_111 rfl (lv_at hl 2 rfl) ?_
        refine lv_bipush (v := (103 : Int32)) hx hb dX10_reads_112 (by decide) ?_
        refine lv_icmp_ne (tgt := 122) hx hb dX10_reads_114 (by decide) (fun c7 => ?_) (fun c7 => ?_)
        · have h := h.2 c7
          refine lv_aload_n hx hb dX10_reads_122 rfl (lv_at hl 1 rfl) ?_
          refine getF C wd (k := 0) (Cn := RX10) (T := TX10) (N := 26) (v := .int (t4.1 0)) (by decide) mc_X10 rfl 0 (by decide) rfl inX10 tw4_26 dX10_reads_123 ?_
          refine lv_iconst (v := (1 : Int32)) hx hb dX10_reads_126 (by decide) ?_
          refine lv_isub hx hb dX10_reads_127 ?_
          exact blX10_reads_128 C h wd (lv_sub hl [1, 2, 0] rfl)
        · have h := h.1 c7
          refine lv_bipush (v := (99 : Int32)) hx hb dX10_reads_117 (by decide) ?_
          refine lv_goto (tgt := 128) hx hb dX10_reads_119 (by decide) ?_
          exact blX10_reads_128 C h wd (lv_sub hl [1, 2, 0] rfl)
      · have h := h.1 c6
        refine lv_sipush (v := (999 : Int32)) hx hb dX10_reads_105 (by decide) ?_
        refine lv_goto (tgt := 128) hx hb dX10_reads_108 (by decide) ?_
        exact blX10_reads_128 C h wd (lv_sub hl [1, 2, 0] rfl)
  · have h := h.1 c2
    refine lv_iconst (v := (-1 : Int32)) hx hb dX10_reads_81 (by decide) ?_
    exact retI C wd h dX10_reads_82
def wbX10_reads_28 (Φ : Int32 → St → Prop) (z0 : Int32) (σ : St) : Prop :=
  wpX10_manyOf z0 σ (fun r2 t1 => ((r2 = (-1 : Int32) → Φ (-1 : Int32) t1) ∧ (¬ r2 = (-1 : Int32) → (∀ t4 : St, t4 = setI t1 23 ((t1.1 23) + (1 : Int32)) → ((r2 ≤ 0 → wbX10_reads_70 Φ z0 r2 (0 : Int32) t4) ∧ (¬ r2 ≤ 0 → wpX10_takes ((t4.1 0) - (1 : Int32)) t4 (fun r7 t6 => wbX10_reads_70 Φ z0 r2 r7 t6)))))))
set_option maxHeartbeats 4000000 in
set_option maxRecDepth 100000 in
theorem blX10_reads_28 {p : Program} {l : Launch} {e : Env} {s : State} {m : MethodId} {args : Array Value} {below : List Frame} {meth : Method} {c : Code} (C : Cx p s m args meth c cX10_reads 4 (some .int) RX10) {Φ : Int32 → St → Prop} {z0 : Int32} {σ : St} {H : Heap} {locs : List Loc} {ls : Array Slot} (h : wbX10_reads_28 Φ z0 σ) (wd : gWd D (tyL cyI cyO) (mCell ad cyI cyO) ad 16 s H locs σ) (hl : lv_has ls 4 [(0, .ref (ad 0))]) : W p l e rmX10_reads s m args below meth c H locs 0 0 (MQ below (gQi D (mCell ad cyI cyO) ad 16 s.heap.size Φ) args s 0 0 (gA ad 16 s.heap.size)) (F0 m 28 ls [.int z0]) := by
  obtain ⟨hx, hb, hr, hml, hown, hts, hlk⟩ := id C
  unfold wbX10_reads_28 at h
  refine lv_istore_n (lv' := [(1, .int z0), (0, .ref (ad 0))]) hx hb dX10_reads_28 rfl hl (by decide) rfl (fun ls hl => ?_)
  refine lv_iload_n hx hb dX10_reads_29 rfl (lv_at hl 0 rfl) ?_
  refine gCi wd (gRunS (y := yX10_manyOf) (As := [.int z0]) (rest := []) C wd (cmX10_manyOf h) ⟨rfl, rfl⟩ gd_X10_249 nk_X10_manyOf ⟨Nat.le_of_ble_eq_true rfl, Nat.le_of_ble_eq_true rfl⟩ hl.1 (Nat.le_of_ble_eq_true rfl) dX10_reads_30 rfl) (fun r2 t1 H locs h wd => ?_)
  try dsimp only at h
  refine lv_istore_n (lv' := [(2, .int r2), (1, .int z0), (0, .ref (ad 0))]) hx hb dX10_reads_33 rfl hl (by decide) rfl (fun ls hl => ?_)
  refine lv_iload_n hx hb dX10_reads_34 rfl (lv_at hl 0 rfl) ?_
  refine lv_iconst (v := (-1 : Int32)) hx hb dX10_reads_35 (by decide) ?_
  refine lv_icmp_ne (tgt := 41) hx hb dX10_reads_36 (by decide) (fun c3 => ?_) (fun c3 => ?_)
  · have h := h.2 c3
    refine lv_aload_n hx hb dX10_reads_41 rfl (lv_at hl 2 rfl) ?_
    refine lv_dup hx hb dX10_reads_42 rfl ?_
    refine getF C wd (k := 0) (Cn := RX10) (T := TX10) (N := 26) (v := .int (t1.1 23)) (by decide) mc_X10 rfl 23 (by decide) rfl inX10 tw4_49 dX10_reads_43 ?_
    refine lv_iconst (v := (1 : Int32)) hx hb dX10_reads_46 (by decide) ?_
    refine lv_iadd hx hb dX10_reads_47 ?_
    refine putF C wd (k := 0) (Cn := RX10) (T := TX10) (N := 26) (σ' := setI t1 23 ((t1.1 23) + (1 : Int32))) (by decide) mc_X10 rfl tyX10_ok nmX10 23 (by decide) rfl (by decide +kernel) (Nat.le_of_ble_eq_true rfl) inX10 tw4_49 ms_X10_place dX10_reads_48 (fun H locs wd => ?_)
    obtain ⟨t4, et4⟩ : ∃ z : St, z = setI t1 23 ((t1.1 23) + (1 : Int32)) := ⟨_, rfl⟩
    rw [← et4] at wd
    have h := h t4 et4
    refine lv_aload_n hx hb dX10_reads_51 rfl (lv_at hl 2 rfl) ?_
    refine lv_iload_n hx hb dX10_reads_52 rfl (lv_at hl 0 rfl) ?_
    refine lv_if_le (tgt := 69) hx hb dX10_reads_53 (by decide) (fun c5 => ?_) (fun c5 => ?_)
    · have h := h.1 c5
      refine lv_iconst (v := (0 : Int32)) hx hb dX10_reads_69 (by decide) ?_
      exact blX10_reads_70 C h wd (lv_sub hl [2, 1, 0] rfl)
    · have h := h.2 c5
      refine lv_aload_n hx hb dX10_reads_56 rfl (lv_at hl 2 rfl) ?_
      refine lv_aload_n hx hb dX10_reads_57 rfl (lv_at hl 2 rfl) ?_
      refine getF C wd (k := 0) (Cn := RX10) (T := TX10) (N := 26) (v := .int (t4.1 0)) (by decide) mc_X10 rfl 0 (by decide) rfl inX10 tw4_26 dX10_reads_58 ?_
      refine lv_iconst (v := (1 : Int32)) hx hb dX10_reads_61 (by decide) ?_
      refine lv_isub hx hb dX10_reads_62 ?_
      refine gCi wd (gRunV (y := yX10_takes) (k := 0) (As := [.int ((t4.1 0) - (1 : Int32))]) (rest := [.ref (ad 0)]) C wd (cmX10_takes h) ⟨rfl, rfl⟩ gd_X10_252 nk_X10_takes ⟨Nat.le_of_ble_eq_true rfl, Nat.le_of_ble_eq_true rfl⟩ (by decide) mc_X10 rfl rfl hl.1 (Nat.le_of_ble_eq_true rfl) dX10_reads_63 rfl) (fun r7 t6 H locs h wd => ?_)
      try dsimp only at h
      refine lv_goto (tgt := 70) hx hb dX10_reads_66 (by decide) ?_
      exact blX10_reads_70 C h wd (lv_sub hl [2, 1, 0] rfl)
  · have h := h.1 c3
    refine lv_iconst (v := (-1 : Int32)) hx hb dX10_reads_39 (by decide) ?_
    exact retI C wd h dX10_reads_40
def wpX10_reads (σ : St) (Φ : Int32 → St → Prop) : Prop :=
  wpX10_skip σ (fun t1 => (((t1.1 22) ≤ (t1.1 23) → wbX10_reads_28 Φ (-1 : Int32) t1) ∧ (¬ (t1.1 22) ≤ (t1.1 23) → (vp_in (t1.1 23) 120 ∧ wbX10_reads_28 Φ (rd t1 15 (t1.1 23)) t1))))
set_option maxHeartbeats 4000000 in
set_option maxRecDepth 100000 in
theorem cmX10_reads {D : va_G} {cyI cyO : ClassId} {ad : Nat → Nat} {l : Launch} {σ : St} {sz : Nat} {Φ : Int32 → St → Prop} (h : wpX10_reads σ Φ) : gMet D (tyL cyI cyO) (mCell ad cyI cyO) ad 16 l yX10_reads cX10_reads 4 (some .int) rmX10_reads [.ref (ad 0)] σ sz (gQi D (mCell ad cyI cyO) ad 16 sz Φ) := by
  refine gMet.of (by decide) (Nat.le_of_ble_eq_true rfl) ?_
  intro p e s m below meth c ls hsz C hl wd
  subst hsz
  have C : Cx p s m _ meth c cX10_reads 4 (some .int) RX10 := C
  obtain ⟨hx, hb, hr, hml, hown, hts, hlk⟩ := id C
  have hl : lv_has ls 4 [(0, .ref (ad 0))] := hl
  unfold wpX10_reads at h
  refine lv_aload_n hx hb dX10_reads_0 rfl (lv_at hl 0 rfl) ?_
  refine gCv wd (gRunV (y := yX10_skip) (k := 0) (As := []) (rest := []) C wd (cmX10_skip h) ⟨rfl, rfl⟩ gd_X10_243 nk_X10_skip ⟨Nat.le_of_ble_eq_true rfl, Nat.le_of_ble_eq_true rfl⟩ (by decide) mc_X10 rfl rfl hl.1 (Nat.le_of_ble_eq_true rfl) dX10_reads_1 rfl) (fun t1 H locs h wd => ?_)
  try dsimp only at h
  refine lv_aload_n hx hb dX10_reads_4 rfl (lv_at hl 0 rfl) ?_
  refine getF C wd (k := 0) (Cn := RX10) (T := TX10) (N := 26) (v := .int (t1.1 23)) (by decide) mc_X10 rfl 23 (by decide) rfl inX10 tw4_49 dX10_reads_5 ?_
  refine lv_aload_n hx hb dX10_reads_8 rfl (lv_at hl 0 rfl) ?_
  refine getF C wd (k := 0) (Cn := RX10) (T := TX10) (N := 26) (v := .int (t1.1 22)) (by decide) mc_X10 rfl 22 (by decide) rfl inX10 tw4_48 dX10_reads_9 ?_
  refine lv_icmp_ge (tgt := 27) hx hb dX10_reads_12 (by decide) (fun c2 => ?_) (fun c2 => ?_)
  · have h := h.1 c2
    refine lv_iconst (v := (-1 : Int32)) hx hb dX10_reads_27 (by decide) ?_
    exact blX10_reads_28 C h wd (lv_sub hl [0] rfl)
  · have h := h.2 c2
    refine lv_aload_n hx hb dX10_reads_15 rfl (lv_at hl 0 rfl) ?_
    refine getF C wd (k := 0) (Cn := RX10) (T := TX10) (N := 26) (v := .ref (ad 15)) (by decide) mc_X10 rfl 21 (by decide) rfl inX10 tw4_47 dX10_reads_16 ?_
    refine lv_aload_n hx hb dX10_reads_19 rfl (lv_at hl 0 rfl) ?_
    refine getF C wd (k := 0) (Cn := RX10) (T := TX10) (N := 26) (v := .int (t1.1 23)) (by decide) mc_X10 rfl 23 (by decide) rfl inX10 tw4_49 dX10_reads_20 ?_
    obtain ⟨hi3, h⟩ := h
    refine ldI C wd (k := 15) (N := 120) (by decide) mc_A15 hi3 dX10_reads_23 ?_
    refine lv_goto (tgt := 28) hx hb dX10_reads_24 (by decide) ?_
    exact blX10_reads_28 C h wd (lv_sub hl [0] rfl)
end
