section
variable {D : va_G} {cyI cyO : ClassId} {ad : Nat → Nat} {n : Nat}
abbrev rmX10_in : Room := rmOf 0 0
def wpX10_in (x0 : Int64) (x2 : Int64) (x4 : Int64) (σ : St) (Φ : Int32 → St → Prop) : Prop :=
  (((lg_cmp x0 x2) < 0 → Φ (0 : Int32) σ) ∧ (¬ (lg_cmp x0 x2) < 0 → ((0 < (lg_cmp x0 x4) → Φ (0 : Int32) σ) ∧ (¬ 0 < (lg_cmp x0 x4) → Φ (1 : Int32) σ))))
set_option maxHeartbeats 4000000 in
set_option maxRecDepth 100000 in
theorem cmX10_in {D : va_G} {cyI cyO : ClassId} {ad : Nat → Nat} {l : Launch} {x0 : Int64} {x2 : Int64} {x4 : Int64} {σ : St} {sz : Nat} {Φ : Int32 → St → Prop} (h : wpX10_in x0 x2 x4 σ Φ) : gMet D (tyL cyI cyO) (mCell ad cyI cyO) ad 16 l yX10_in cX10_in 6 (some .boolean) rmX10_in [.long x0, .long x2, .long x4] σ sz (gQi D (mCell ad cyI cyO) ad 16 sz Φ) := by
  refine gMet.of (by decide) (Nat.le_of_ble_eq_true rfl) ?_
  intro p e s m below meth c ls hsz C hl wd
  subst hsz
  have C : Cx p s m _ meth c cX10_in 6 (some .boolean) RX10 := C
  obtain ⟨hx, hb, hr, hml, hown, hts, hlk⟩ := id C
  have hl : lv_has ls 6 [(0, .long x0), (2, .long x2), (4, .long x4)] := hl
  unfold wpX10_in at h
  refine lv_lload_n hx hb dX10_in_0 rfl (lv_at hl 0 rfl) ?_
  refine lv_lload_n hx hb dX10_in_1 rfl (lv_at hl 1 rfl) ?_
  refine W.lcmp hx hb dX10_in_2 ?_
  refine lv_if_lt (tgt := 17) hx hb dX10_in_3 (by decide) (fun c1 => ?_) (fun c1 => ?_)
  · have h := h.1 c1
    refine lv_iconst (v := (0 : Int32)) hx hb dX10_in_17 (by decide) ?_
    exact retZ C wd rfl h dX10_in_18
  · have h := h.2 c1
    refine lv_lload_n hx hb dX10_in_6 rfl (lv_at hl 0 rfl) ?_
    refine lv_lload hx hb dX10_in_7 (lv_at hl 2 rfl) ?_
    refine W.lcmp hx hb dX10_in_9 ?_
    refine lv_if_gt (tgt := 17) hx hb dX10_in_10 (by decide) (fun c2 => ?_) (fun c2 => ?_)
    · have h := h.1 c2
      refine lv_iconst (v := (0 : Int32)) hx hb dX10_in_17 (by decide) ?_
      exact retZ C wd rfl h dX10_in_18
    · have h := h.2 c2
      refine lv_iconst (v := (1 : Int32)) hx hb dX10_in_13 (by decide) ?_
      refine lv_goto (tgt := 18) hx hb dX10_in_14 (by decide) ?_
      exact retZ C wd rfl h dX10_in_18
abbrev rmX10_bad : Room := rmOf 0 0
def wpX10_bad (σ : St) (Φ : Int32 → St → Prop) : Prop :=
  (vp_in (0 : Int32) 3 ∧ (vp_in (0 : Int32) 3 ∧ ∀ t3 : St, t3 = wr σ 13 (0 : Int32) ((rd σ 13 (0 : Int32)) + (1 : Int32)) → Φ (-2 : Int32) t3))
set_option maxHeartbeats 4000000 in
set_option maxRecDepth 100000 in
theorem cmX10_bad {D : va_G} {cyI cyO : ClassId} {ad : Nat → Nat} {l : Launch} {σ : St} {sz : Nat} {Φ : Int32 → St → Prop} (h : wpX10_bad σ Φ) : gMet D (tyL cyI cyO) (mCell ad cyI cyO) ad 16 l yX10_bad cX10_bad 1 (some .int) rmX10_bad [.ref (ad 0)] σ sz (gQi D (mCell ad cyI cyO) ad 16 sz Φ) := by
  refine gMet.of (by decide) (Nat.le_of_ble_eq_true rfl) ?_
  intro p e s m below meth c ls hsz C hl wd
  subst hsz
  have C : Cx p s m _ meth c cX10_bad 1 (some .int) RX10 := C
  obtain ⟨hx, hb, hr, hml, hown, hts, hlk⟩ := id C
  have hl : lv_has ls 1 [(0, .ref (ad 0))] := hl
  unfold wpX10_bad at h
  refine lv_aload_n hx hb dX10_bad_0 rfl (lv_at hl 0 rfl) ?_
  refine getF C wd (k := 0) (Cn := RX10) (T := TX10) (N := 26) (v := .ref (ad 13)) (by decide) mc_X10 rfl 17 (by decide) rfl inX10 tw4_43 dX10_bad_1 ?_
  refine lv_iconst (v := (0 : Int32)) hx hb dX10_bad_4 (by decide) ?_
  refine lv_dup2_11 hx hb dX10_bad_5 rfl rfl ?_
  obtain ⟨hi1, h⟩ := h
  refine ldI C wd (k := 13) (N := 3) (by decide) mc_A13 hi1 dX10_bad_6 ?_
  refine lv_iconst (v := (1 : Int32)) hx hb dX10_bad_7 (by decide) ?_
  refine lv_iadd hx hb dX10_bad_8 ?_
  obtain ⟨hi2, h⟩ := h
  refine stI C wd (k := 13) (N := 3) (by decide) mc_A13 ms_A13 hi2 dX10_bad_9 (fun H locs wd => ?_)
  obtain ⟨t3, et3⟩ : ∃ z : St, z = wr σ 13 (0 : Int32) ((rd σ 13 (0 : Int32)) + (1 : Int32)) := ⟨_, rfl⟩
  rw [← et3] at wd
  have h := h t3 et3
  refine lv_bipush (v := (-2 : Int32)) hx hb dX10_bad_10 (by decide) ?_
  exact retI C wd h dX10_bad_12
abbrev rmX10_no : Room := rmOf 0 0
def wpX10_no (σ : St) (Φ : Int32 → St → Prop) : Prop :=
  (vp_in (1 : Int32) 3 ∧ (vp_in (1 : Int32) 3 ∧ ∀ t3 : St, t3 = wr σ 13 (1 : Int32) ((rd σ 13 (1 : Int32)) + (1 : Int32)) → Φ (-3 : Int32) t3))
set_option maxHeartbeats 4000000 in
set_option maxRecDepth 100000 in
theorem cmX10_no {D : va_G} {cyI cyO : ClassId} {ad : Nat → Nat} {l : Launch} {σ : St} {sz : Nat} {Φ : Int32 → St → Prop} (h : wpX10_no σ Φ) : gMet D (tyL cyI cyO) (mCell ad cyI cyO) ad 16 l yX10_no cX10_no 1 (some .int) rmX10_no [.ref (ad 0)] σ sz (gQi D (mCell ad cyI cyO) ad 16 sz Φ) := by
  refine gMet.of (by decide) (Nat.le_of_ble_eq_true rfl) ?_
  intro p e s m below meth c ls hsz C hl wd
  subst hsz
  have C : Cx p s m _ meth c cX10_no 1 (some .int) RX10 := C
  obtain ⟨hx, hb, hr, hml, hown, hts, hlk⟩ := id C
  have hl : lv_has ls 1 [(0, .ref (ad 0))] := hl
  unfold wpX10_no at h
  refine lv_aload_n hx hb dX10_no_0 rfl (lv_at hl 0 rfl) ?_
  refine getF C wd (k := 0) (Cn := RX10) (T := TX10) (N := 26) (v := .ref (ad 13)) (by decide) mc_X10 rfl 17 (by decide) rfl inX10 tw4_43 dX10_no_1 ?_
  refine lv_iconst (v := (1 : Int32)) hx hb dX10_no_4 (by decide) ?_
  refine lv_dup2_11 hx hb dX10_no_5 rfl rfl ?_
  obtain ⟨hi1, h⟩ := h
  refine ldI C wd (k := 13) (N := 3) (by decide) mc_A13 hi1 dX10_no_6 ?_
  refine lv_iconst (v := (1 : Int32)) hx hb dX10_no_7 (by decide) ?_
  refine lv_iadd hx hb dX10_no_8 ?_
  obtain ⟨hi2, h⟩ := h
  refine stI C wd (k := 13) (N := 3) (by decide) mc_A13 ms_A13 hi2 dX10_no_9 (fun H locs wd => ?_)
  obtain ⟨t3, et3⟩ : ∃ z : St, z = wr σ 13 (1 : Int32) ((rd σ 13 (1 : Int32)) + (1 : Int32)) := ⟨_, rfl⟩
  rw [← et3] at wd
  have h := h t3 et3
  refine lv_bipush (v := (-3 : Int32)) hx hb dX10_no_10 (by decide) ?_
  exact retI C wd h dX10_no_12
abbrev rmX10_full : Room := rmOf 0 0
def wpX10_full (σ : St) (Φ : Int32 → St → Prop) : Prop :=
  (vp_in (2 : Int32) 3 ∧ (vp_in (2 : Int32) 3 ∧ ∀ t3 : St, t3 = wr σ 13 (2 : Int32) ((rd σ 13 (2 : Int32)) + (1 : Int32)) → Φ (-4 : Int32) t3))
set_option maxHeartbeats 4000000 in
set_option maxRecDepth 100000 in
theorem cmX10_full {D : va_G} {cyI cyO : ClassId} {ad : Nat → Nat} {l : Launch} {σ : St} {sz : Nat} {Φ : Int32 → St → Prop} (h : wpX10_full σ Φ) : gMet D (tyL cyI cyO) (mCell ad cyI cyO) ad 16 l yX10_full cX10_full 1 (some .int) rmX10_full [.ref (ad 0)] σ sz (gQi D (mCell ad cyI cyO) ad 16 sz Φ) := by
  refine gMet.of (by decide) (Nat.le_of_ble_eq_true rfl) ?_
  intro p e s m below meth c ls hsz C hl wd
  subst hsz
  have C : Cx p s m _ meth c cX10_full 1 (some .int) RX10 := C
  obtain ⟨hx, hb, hr, hml, hown, hts, hlk⟩ := id C
  have hl : lv_has ls 1 [(0, .ref (ad 0))] := hl
  unfold wpX10_full at h
  refine lv_aload_n hx hb dX10_full_0 rfl (lv_at hl 0 rfl) ?_
  refine getF C wd (k := 0) (Cn := RX10) (T := TX10) (N := 26) (v := .ref (ad 13)) (by decide) mc_X10 rfl 17 (by decide) rfl inX10 tw4_43 dX10_full_1 ?_
  refine lv_iconst (v := (2 : Int32)) hx hb dX10_full_4 (by decide) ?_
  refine lv_dup2_11 hx hb dX10_full_5 rfl rfl ?_
  obtain ⟨hi1, h⟩ := h
  refine ldI C wd (k := 13) (N := 3) (by decide) mc_A13 hi1 dX10_full_6 ?_
  refine lv_iconst (v := (1 : Int32)) hx hb dX10_full_7 (by decide) ?_
  refine lv_iadd hx hb dX10_full_8 ?_
  obtain ⟨hi2, h⟩ := h
  refine stI C wd (k := 13) (N := 3) (by decide) mc_A13 ms_A13 hi2 dX10_full_9 (fun H locs wd => ?_)
  obtain ⟨t3, et3⟩ : ∃ z : St, z = wr σ 13 (2 : Int32) ((rd σ 13 (2 : Int32)) + (1 : Int32)) := ⟨_, rfl⟩
  rw [← et3] at wd
  have h := h t3 et3
  refine lv_bipush (v := (-4 : Int32)) hx hb dX10_full_10 (by decide) ?_
  exact retI C wd h dX10_full_12
abbrev rmX10_tells : Room := rmOf 0 0
def wbX10_tells_18 (Φ : Int32 → St → Prop) (x1 : Int32) (z1 : Int32) (z2 : Int32) (z3 : Int32) (σ : St) : Prop :=
  (vp_in z1 3 ∧ ∀ t2 : St, t2 = wr σ 13 z1 (z2 + z3) → Φ x1 t2)
set_option maxHeartbeats 4000000 in
set_option maxRecDepth 100000 in
theorem blX10_tells_18 {p : Program} {l : Launch} {e : Env} {s : State} {m : MethodId} {args : Array Value} {below : List Frame} {meth : Method} {c : Code} (C : Cx p s m args meth c cX10_tells 2 (some .int) RX10) {Φ : Int32 → St → Prop} {x1 : Int32} {z1 : Int32} {z2 : Int32} {z3 : Int32} {σ : St} {H : Heap} {locs : List Loc} {ls : Array Slot} (h : wbX10_tells_18 Φ x1 z1 z2 z3 σ) (wd : gWd D (tyL cyI cyO) (mCell ad cyI cyO) ad 16 s H locs σ) (hl : lv_has ls 2 [(1, .int x1)]) : W p l e rmX10_tells s m args below meth c H locs 0 0 (MQ below (gQi D (mCell ad cyI cyO) ad 16 s.heap.size Φ) args s 0 0 (gA ad 16 s.heap.size)) (F0 m 18 ls [.int z3, .int z2, .int z1, .ref (ad 13)]) := by
  obtain ⟨hx, hb, hr, hml, hown, hts, hlk⟩ := id C
  unfold wbX10_tells_18 at h
  refine lv_iadd hx hb dX10_tells_18 ?_
  obtain ⟨hi1, h⟩ := h
  refine stI C wd (k := 13) (N := 3) (by decide) mc_A13 ms_A13 hi1 dX10_tells_19 (fun H locs wd => ?_)
  obtain ⟨t2, et2⟩ : ∃ z : St, z = wr σ 13 z1 (z2 + z3) := ⟨_, rfl⟩
  rw [← et2] at wd
  have h := h t2 et2
  refine lv_iload_n hx hb dX10_tells_20 rfl (lv_at hl 0 rfl) ?_
  exact retI C wd h dX10_tells_21
def wpX10_tells (x1 : Int32) (σ : St) (Φ : Int32 → St → Prop) : Prop :=
  (vp_in (2 : Int32) 3 ∧ ((x1 = (-4 : Int32) → wbX10_tells_18 Φ x1 (2 : Int32) (rd σ 13 (2 : Int32)) (1 : Int32) σ) ∧ (¬ x1 = (-4 : Int32) → wbX10_tells_18 Φ x1 (2 : Int32) (rd σ 13 (2 : Int32)) (0 : Int32) σ)))
set_option maxHeartbeats 4000000 in
set_option maxRecDepth 100000 in
theorem cmX10_tells {D : va_G} {cyI cyO : ClassId} {ad : Nat → Nat} {l : Launch} {x1 : Int32} {σ : St} {sz : Nat} {Φ : Int32 → St → Prop} (h : wpX10_tells x1 σ Φ) : gMet D (tyL cyI cyO) (mCell ad cyI cyO) ad 16 l yX10_tells cX10_tells 2 (some .int) rmX10_tells [.ref (ad 0), .int x1] σ sz (gQi D (mCell ad cyI cyO) ad 16 sz Φ) := by
  refine gMet.of (by decide) (Nat.le_of_ble_eq_true rfl) ?_
  intro p e s m below meth c ls hsz C hl wd
  subst hsz
  have C : Cx p s m _ meth c cX10_tells 2 (some .int) RX10 := C
  obtain ⟨hx, hb, hr, hml, hown, hts, hlk⟩ := id C
  have hl : lv_has ls 2 [(0, .ref (ad 0)), (1, .int x1)] := hl
  unfold wpX10_tells at h
  refine lv_aload_n hx hb dX10_tells_0 rfl (lv_at hl 0 rfl) ?_
  refine getF C wd (k := 0) (Cn := RX10) (T := TX10) (N := 26) (v := .ref (ad 13)) (by decide) mc_X10 rfl 17 (by decide) rfl inX10 tw4_43 dX10_tells_1 ?_
  refine lv_iconst (v := (2 : Int32)) hx hb dX10_tells_4 (by decide) ?_
  refine lv_dup2_11 hx hb dX10_tells_5 rfl rfl ?_
  obtain ⟨hi1, h⟩ := h
  refine ldI C wd (k := 13) (N := 3) (by decide) mc_A13 hi1 dX10_tells_6 ?_
  refine lv_iload_n hx hb dX10_tells_7 rfl (lv_at hl 1 rfl) ?_
  refine lv_bipush (v := (-4 : Int32)) hx hb dX10_tells_8 (by decide) ?_
  refine lv_icmp_ne (tgt := 17) hx hb dX10_tells_10 (by decide) (fun c2 => ?_) (fun c2 => ?_)
  · have h := h.2 c2
    refine lv_iconst (v := (0 : Int32)) hx hb dX10_tells_17 (by decide) ?_
    exact blX10_tells_18 C h wd (lv_sub hl [1] rfl)
  · have h := h.1 c2
    refine lv_iconst (v := (1 : Int32)) hx hb dX10_tells_13 (by decide) ?_
    refine lv_goto (tgt := 18) hx hb dX10_tells_14 (by decide) ?_
    exact blX10_tells_18 C h wd (lv_sub hl [1] rfl)
abbrev rmX10_isClerk : Room := rmOf 1 25
def wpX10_isClerk (x1 : Int32) (σ : St) (Φ : Int32 → St → Prop) : Prop :=
  wpX10_in x1.toInt64 (0 : Int64) (((σ.1 0) - (1 : Int32)).toInt64) σ (fun r2 t1 => (narrow .boolean (.int r2) = .int r2 ∧ Φ r2 t1))
set_option maxHeartbeats 4000000 in
set_option maxRecDepth 100000 in
theorem cmX10_isClerk {D : va_G} {cyI cyO : ClassId} {ad : Nat → Nat} {l : Launch} {x1 : Int32} {σ : St} {sz : Nat} {Φ : Int32 → St → Prop} (h : wpX10_isClerk x1 σ Φ) : gMet D (tyL cyI cyO) (mCell ad cyI cyO) ad 16 l yX10_isClerk cX10_isClerk 2 (some .boolean) rmX10_isClerk [.ref (ad 0), .int x1] σ sz (gQi D (mCell ad cyI cyO) ad 16 sz Φ) := by
  refine gMet.of (by decide) (Nat.le_of_ble_eq_true rfl) ?_
  intro p e s m below meth c ls hsz C hl wd
  subst hsz
  have C : Cx p s m _ meth c cX10_isClerk 2 (some .boolean) RX10 := C
  obtain ⟨hx, hb, hr, hml, hown, hts, hlk⟩ := id C
  have hl : lv_has ls 2 [(0, .ref (ad 0)), (1, .int x1)] := hl
  unfold wpX10_isClerk at h
  refine lv_iload_n hx hb dX10_isClerk_0 rfl (lv_at hl 1 rfl) ?_
  refine lv_i2l hx hb dX10_isClerk_1 rfl ?_
  refine lv_lconst (v := (0 : Int64)) hx hb dX10_isClerk_2 (by decide) ?_
  refine lv_aload_n hx hb dX10_isClerk_3 rfl (lv_at hl 0 rfl) ?_
  refine getF C wd (k := 0) (Cn := RX10) (T := TX10) (N := 26) (v := .int (σ.1 0)) (by decide) mc_X10 rfl 0 (by decide) rfl inX10 tw4_26 dX10_isClerk_4 ?_
  refine lv_iconst (v := (1 : Int32)) hx hb dX10_isClerk_7 (by decide) ?_
  refine lv_isub hx hb dX10_isClerk_8 ?_
  refine lv_i2l hx hb dX10_isClerk_9 rfl ?_
  refine gCi wd (gRunS (y := yX10_in) (As := [.long x1.toInt64, .long (0 : Int64), .long (((σ.1 0) - (1 : Int32)).toInt64)]) (rest := []) C wd (cmX10_in h) ⟨rfl, rfl⟩ gd_X10_59 nk_X10_in ⟨Nat.le_of_ble_eq_true rfl, Nat.le_of_ble_eq_true rfl⟩ hl.1 (Nat.le_of_ble_eq_true rfl) dX10_isClerk_10 rfl) (fun r2 t1 H locs h wd => ?_)
  try dsimp only at h
  exact retZ C wd h.1 h.2 dX10_isClerk_13
abbrev rmX10_pageOf : Room := rmOf 0 0
def wpX10_pageOf (x0 : Int32) (x1 : Int32) (σ : St) (Φ : Int32 → St → Prop) : Prop :=
  Φ (((24 : Int32) * x0) + x1) σ
set_option maxHeartbeats 4000000 in
set_option maxRecDepth 100000 in
theorem cmX10_pageOf {D : va_G} {cyI cyO : ClassId} {ad : Nat → Nat} {l : Launch} {x0 : Int32} {x1 : Int32} {σ : St} {sz : Nat} {Φ : Int32 → St → Prop} (h : wpX10_pageOf x0 x1 σ Φ) : gMet D (tyL cyI cyO) (mCell ad cyI cyO) ad 16 l yX10_pageOf cX10_pageOf 2 (some .int) rmX10_pageOf [.int x0, .int x1] σ sz (gQi D (mCell ad cyI cyO) ad 16 sz Φ) := by
  refine gMet.of (by decide) (Nat.le_of_ble_eq_true rfl) ?_
  intro p e s m below meth c ls hsz C hl wd
  subst hsz
  have C : Cx p s m _ meth c cX10_pageOf 2 (some .int) RX10 := C
  obtain ⟨hx, hb, hr, hml, hown, hts, hlk⟩ := id C
  have hl : lv_has ls 2 [(0, .int x0), (1, .int x1)] := hl
  unfold wpX10_pageOf at h
  refine lv_bipush (v := (24 : Int32)) hx hb dX10_pageOf_0 (by decide) ?_
  refine lv_iload_n hx hb dX10_pageOf_2 rfl (lv_at hl 0 rfl) ?_
  refine lv_imul hx hb dX10_pageOf_3 ?_
  refine lv_iload_n hx hb dX10_pageOf_4 rfl (lv_at hl 1 rfl) ?_
  refine lv_iadd hx hb dX10_pageOf_5 ?_
  exact retI C wd h dX10_pageOf_6
abbrev rmX10_restOf : Room := rmOf 1 21
def wpX10_restOf (x0 : Int32) (x1 : Int32) (x2 : Int32) (σ : St) (Φ : Int32 → St → Prop) : Prop :=
  wpX10_pageOf x0 x1 σ (fun r2 t1 => Φ (((5 : Int32) * r2) + x2) t1)
set_option maxHeartbeats 4000000 in
set_option maxRecDepth 100000 in
theorem cmX10_restOf {D : va_G} {cyI cyO : ClassId} {ad : Nat → Nat} {l : Launch} {x0 : Int32} {x1 : Int32} {x2 : Int32} {σ : St} {sz : Nat} {Φ : Int32 → St → Prop} (h : wpX10_restOf x0 x1 x2 σ Φ) : gMet D (tyL cyI cyO) (mCell ad cyI cyO) ad 16 l yX10_restOf cX10_restOf 3 (some .int) rmX10_restOf [.int x0, .int x1, .int x2] σ sz (gQi D (mCell ad cyI cyO) ad 16 sz Φ) := by
  refine gMet.of (by decide) (Nat.le_of_ble_eq_true rfl) ?_
  intro p e s m below meth c ls hsz C hl wd
  subst hsz
  have C : Cx p s m _ meth c cX10_restOf 3 (some .int) RX10 := C
  obtain ⟨hx, hb, hr, hml, hown, hts, hlk⟩ := id C
  have hl : lv_has ls 3 [(0, .int x0), (1, .int x1), (2, .int x2)] := hl
  unfold wpX10_restOf at h
  refine lv_iconst (v := (5 : Int32)) hx hb dX10_restOf_0 (by decide) ?_
  refine lv_iload_n hx hb dX10_restOf_1 rfl (lv_at hl 0 rfl) ?_
  refine lv_iload_n hx hb dX10_restOf_2 rfl (lv_at hl 1 rfl) ?_
  refine gCi wd (gRunS (y := yX10_pageOf) (As := [.int x0, .int x1]) (rest := [.int (5 : Int32)]) C wd (cmX10_pageOf h) ⟨rfl, rfl⟩ gd_X10_63 nk_X10_pageOf ⟨Nat.le_of_ble_eq_true rfl, Nat.le_of_ble_eq_true rfl⟩ hl.1 (Nat.le_of_ble_eq_true rfl) dX10_restOf_3 rfl) (fun r2 t1 H locs h wd => ?_)
  try dsimp only at h
  refine lv_imul hx hb dX10_restOf_6 ?_
  refine lv_iload_n hx hb dX10_restOf_7 rfl (lv_at hl 2 rfl) ?_
  refine lv_iadd hx hb dX10_restOf_8 ?_
  exact retI C wd h dX10_restOf_9
abbrev rmX10_begins : Room := rmOf 2 43
def wlX10_begins_59_body (Φ : St → Prop) (k_2 : Int32 → St → Prop) (k_59 : Int32 → Int32 → St → Prop) (x1 : Int32) (x2 : Int32) (σ : St) : Prop :=
  (((5 : Int32) ≤ x2 → (∀ y2 : Int32, y2 = x1 + (1 : Int32) → k_2 y2 σ)) ∧ (¬ (5 : Int32) ≤ x2 → wpX10_restOf x1 (0 : Int32) x2 σ (fun r4 t3 => (vp_in r4 600 ∧ ∀ t6 : St, t6 = wr t3 8 r4 (0 : Int32) → wpX10_restOf x1 (0 : Int32) x2 t6 (fun r8 t7 => (vp_in r8 600 ∧ ∀ t10 : St, t10 = wr t7 9 r8 (0 : Int32) → (∀ y11 : Int32, y11 = x2 + (1 : Int32) → k_59 x1 y11 t10)))))))
def wlX10_begins_59 (Φ : St → Prop) (k_2 : Int32 → St → Prop) : Nat → Int32 → Int32 → St → Prop
  | 0 => fun _ _ _ => False
  | N + 1 => fun x1 x2 σ => wlX10_begins_59_body Φ k_2 (wlX10_begins_59 Φ k_2 N) x1 x2 σ
set_option maxHeartbeats 4000000 in
set_option maxRecDepth 100000 in
theorem llX10_begins_59 {p : Program} {l : Launch} {e : Env} {s : State} {m : MethodId} {args : Array Value} {below : List Frame} {meth : Method} {c : Code} (C : Cx p s m args meth c cX10_begins 3 none RX10) {Φ : St → Prop} {k_2 : Int32 → St → Prop} (hk_2 : ∀ (x1 : Int32) (σ : St) (H : Heap) (locs : List Loc) (ls : Array Slot), k_2 x1 σ → gWd D (tyL cyI cyO) (mCell ad cyI cyO) ad 16 s H locs σ → lv_has ls 3 [(0, .ref (ad 0)), (1, .int x1)] → W p l e rmX10_begins s m args below meth c H locs 0 0 (MQ below (gQv D (mCell ad cyI cyO) ad 16 s.heap.size Φ) args s 0 0 (gA ad 16 s.heap.size)) (F0 m 2 ls [])) : ∀ (N : Nat) (x1 : Int32) (x2 : Int32) (σ : St) (H : Heap) (locs : List Loc) (ls : Array Slot), wlX10_begins_59 Φ k_2 N x1 x2 σ → gWd D (tyL cyI cyO) (mCell ad cyI cyO) ad 16 s H locs σ → lv_has ls 3 [(0, .ref (ad 0)), (1, .int x1), (2, .int x2)] → W p l e rmX10_begins s m args below meth c H locs 0 0 (MQ below (gQv D (mCell ad cyI cyO) ad 16 s.heap.size Φ) args s 0 0 (gA ad 16 s.heap.size)) (F0 m 59 ls []) := by
  obtain ⟨hx, hb, hr, hml, hown, hts, hlk⟩ := id C
  intro N
  induction N with
  | zero =>
    intro x1 x2 σ H locs ls h
    exact False.elim h
  | succ N ih =>
    intro x1 x2 σ H locs ls h wd hl
    have h : wlX10_begins_59_body Φ k_2 (wlX10_begins_59 Φ k_2 N) x1 x2 σ := h
    have hk_59 := ih
    unfold wlX10_begins_59_body at h
    refine lv_iload_n hx hb dX10_begins_59 rfl (lv_at hl 2 rfl) ?_
    refine lv_iconst (v := (5 : Int32)) hx hb dX10_begins_60 (by decide) ?_
    refine lv_icmp_ge (tgt := 94) hx hb dX10_begins_61 (by decide) (fun c1 => ?_) (fun c1 => ?_)
    · have h := h.1 c1
      obtain ⟨y2, ey2⟩ : ∃ y : Int32, y = x1 + (1 : Int32) := ⟨_, rfl⟩
      refine lv_iinc (v := y2) (lv' := [(1, .int y2), (0, .ref (ad 0)), (2, .int x2)]) hx hb dX10_begins_94 hl (k := 1) rfl (by rw [ey2]; rfl) (by decide) rfl (fun ls hl => ?_)
      have h := h y2 ey2
      refine lv_goto (tgt := 2) hx hb dX10_begins_97 (by decide) ?_
      exact hk_2 _ _ _ _ _ h wd (lv_sub hl [1, 0] rfl)
    · have h := h.2 c1
      refine lv_aload_n hx hb dX10_begins_64 rfl (lv_at hl 0 rfl) ?_
      refine getF C wd (k := 0) (Cn := RX10) (T := TX10) (N := 26) (v := .ref (ad 8)) (by decide) mc_X10 rfl 8 (by decide) rfl inX10 tw4_34 dX10_begins_65 ?_
      refine lv_iload_n hx hb dX10_begins_68 rfl (lv_at hl 1 rfl) ?_
      refine lv_iconst (v := (0 : Int32)) hx hb dX10_begins_69 (by decide) ?_
      refine lv_iload_n hx hb dX10_begins_70 rfl (lv_at hl 2 rfl) ?_
      refine gCi wd (gRunS (y := yX10_restOf) (As := [.int x1, .int (0 : Int32), .int x2]) (rest := [.ref (ad 8)]) C wd (cmX10_restOf h) ⟨rfl, rfl⟩ gd_X10_67 nk_X10_restOf ⟨Nat.le_of_ble_eq_true rfl, Nat.le_of_ble_eq_true rfl⟩ hl.1 (Nat.le_of_ble_eq_true rfl) dX10_begins_71 rfl) (fun r4 t3 H locs h wd => ?_)
      try dsimp only at h
      refine lv_iconst (v := (0 : Int32)) hx hb dX10_begins_74 (by decide) ?_
      obtain ⟨hi5, h⟩ := h
      refine stI C wd (k := 8) (N := 600) (by decide) mc_A8 ms_A8 hi5 dX10_begins_75 (fun H locs wd => ?_)
      obtain ⟨t6, et6⟩ : ∃ z : St, z = wr t3 8 r4 (0 : Int32) := ⟨_, rfl⟩
      rw [← et6] at wd
      have h := h t6 et6
      refine lv_aload_n hx hb dX10_begins_76 rfl (lv_at hl 0 rfl) ?_
      refine getF C wd (k := 0) (Cn := RX10) (T := TX10) (N := 26) (v := .ref (ad 9)) (by decide) mc_X10 rfl 9 (by decide) rfl inX10 tw4_35 dX10_begins_77 ?_
      refine lv_iload_n hx hb dX10_begins_80 rfl (lv_at hl 1 rfl) ?_
      refine lv_iconst (v := (0 : Int32)) hx hb dX10_begins_81 (by decide) ?_
      refine lv_iload_n hx hb dX10_begins_82 rfl (lv_at hl 2 rfl) ?_
      refine gCi wd (gRunS (y := yX10_restOf) (As := [.int x1, .int (0 : Int32), .int x2]) (rest := [.ref (ad 9)]) C wd (cmX10_restOf h) ⟨rfl, rfl⟩ gd_X10_67 nk_X10_restOf ⟨Nat.le_of_ble_eq_true rfl, Nat.le_of_ble_eq_true rfl⟩ hl.1 (Nat.le_of_ble_eq_true rfl) dX10_begins_83 rfl) (fun r8 t7 H locs h wd => ?_)
      try dsimp only at h
      refine lv_iconst (v := (0 : Int32)) hx hb dX10_begins_86 (by decide) ?_
      obtain ⟨hi9, h⟩ := h
      refine stI C wd (k := 9) (N := 600) (by decide) mc_A9 ms_A9 hi9 dX10_begins_87 (fun H locs wd => ?_)
      obtain ⟨t10, et10⟩ : ∃ z : St, z = wr t7 9 r8 (0 : Int32) := ⟨_, rfl⟩
      rw [← et10] at wd
      have h := h t10 et10
      obtain ⟨y11, ey11⟩ : ∃ y : Int32, y = x2 + (1 : Int32) := ⟨_, rfl⟩
      refine lv_iinc (v := y11) (lv' := [(2, .int y11), (0, .ref (ad 0)), (1, .int x1)]) hx hb dX10_begins_88 hl (k := 2) rfl (by rw [ey11]; rfl) (by decide) rfl (fun ls hl => ?_)
      have h := h y11 ey11
      refine lv_goto (tgt := 59) hx hb dX10_begins_91 (by decide) ?_
      exact hk_59 _ _ _ _ _ _ h wd (lv_sub hl [1, 2, 0] rfl)
def wlX10_begins_2_body (Φ : St → Prop) (k_2 : Int32 → St → Prop) (x1 : Int32) (σ : St) : Prop :=
  (((5 : Int32) ≤ x1 → (∀ t2 : St, t2 = setI σ 11 (0 : Int32) → (∀ t3 : St, t3 = setI t2 13 (0 : Int32) → (∀ t4 : St, t4 = setI t3 15 (0 : Int32) → (∀ t5 : St, t5 = setI t4 16 (0 : Int32) → Φ t5))))) ∧ (¬ (5 : Int32) ≤ x1 → (vp_in x1 5 ∧ ∀ t7 : St, t7 = wr σ 1 x1 (0 : Int32) → (vp_in x1 5 ∧ ∀ t9 : St, t9 = wr t7 2 x1 (0 : Int32) → (vp_in x1 5 ∧ ∀ t11 : St, t11 = wr t9 3 x1 (0 : Int32) → (vp_in x1 5 ∧ ∀ t13 : St, t13 = wr t11 4 x1 (0 : Int32) → wpX10_pageOf x1 (0 : Int32) t13 (fun r15 t14 => (vp_in r15 120 ∧ ∀ t17 : St, t17 = wr t14 6 r15 (0 : Int32) → wpX10_pageOf x1 (0 : Int32) t17 (fun r19 t18 => (vp_in r19 120 ∧ ∀ t21 : St, t21 = wr t18 7 r19 (0 : Int32) → (∃ N, wlX10_begins_59 Φ k_2 N x1 (0 : Int32) t21)))))))))))
def wlX10_begins_2 (Φ : St → Prop) : Nat → Int32 → St → Prop
  | 0 => fun _ _ => False
  | N + 1 => fun x1 σ => wlX10_begins_2_body Φ (wlX10_begins_2 Φ N) x1 σ
set_option maxHeartbeats 4000000 in
set_option maxRecDepth 100000 in
theorem llX10_begins_2 {p : Program} {l : Launch} {e : Env} {s : State} {m : MethodId} {args : Array Value} {below : List Frame} {meth : Method} {c : Code} (C : Cx p s m args meth c cX10_begins 3 none RX10) {Φ : St → Prop} : ∀ (N : Nat) (x1 : Int32) (σ : St) (H : Heap) (locs : List Loc) (ls : Array Slot), wlX10_begins_2 Φ N x1 σ → gWd D (tyL cyI cyO) (mCell ad cyI cyO) ad 16 s H locs σ → lv_has ls 3 [(0, .ref (ad 0)), (1, .int x1)] → W p l e rmX10_begins s m args below meth c H locs 0 0 (MQ below (gQv D (mCell ad cyI cyO) ad 16 s.heap.size Φ) args s 0 0 (gA ad 16 s.heap.size)) (F0 m 2 ls []) := by
  obtain ⟨hx, hb, hr, hml, hown, hts, hlk⟩ := id C
  intro N
  induction N with
  | zero =>
    intro x1 σ H locs ls h
    exact False.elim h
  | succ N ih =>
    intro x1 σ H locs ls h wd hl
    have h : wlX10_begins_2_body Φ (wlX10_begins_2 Φ N) x1 σ := h
    have hk_2 := ih
    unfold wlX10_begins_2_body at h
    refine lv_iload_n hx hb dX10_begins_2 rfl (lv_at hl 1 rfl) ?_
    refine lv_iconst (v := (5 : Int32)) hx hb dX10_begins_3 (by decide) ?_
    refine lv_icmp_ge (tgt := 100) hx hb dX10_begins_4 (by decide) (fun c1 => ?_) (fun c1 => ?_)
    · have h := h.1 c1
      refine lv_aload_n hx hb dX10_begins_100 rfl (lv_at hl 0 rfl) ?_
      refine lv_iconst (v := (0 : Int32)) hx hb dX10_begins_101 (by decide) ?_
      refine putF C wd (k := 0) (Cn := RX10) (T := TX10) (N := 26) (σ' := setI σ 11 (0 : Int32)) (by decide) mc_X10 rfl tyX10_ok nmX10 11 (by decide) rfl (by decide +kernel) (Nat.le_of_ble_eq_true rfl) inX10 tw4_37 ms_X10_lettersMany dX10_begins_102 (fun H locs wd => ?_)
      obtain ⟨t2, et2⟩ : ∃ z : St, z = setI σ 11 (0 : Int32) := ⟨_, rfl⟩
      rw [← et2] at wd
      have h := h t2 et2
      refine lv_aload_n hx hb dX10_begins_105 rfl (lv_at hl 0 rfl) ?_
      refine lv_iconst (v := (0 : Int32)) hx hb dX10_begins_106 (by decide) ?_
      refine putF C wd (k := 0) (Cn := RX10) (T := TX10) (N := 26) (σ' := setI t2 13 (0 : Int32)) (by decide) mc_X10 rfl tyX10_ok nmX10 13 (by decide) rfl (by decide +kernel) (Nat.le_of_ble_eq_true rfl) inX10 tw4_39 ms_X10_sayingsMany dX10_begins_107 (fun H locs wd => ?_)
      obtain ⟨t3, et3⟩ : ∃ z : St, z = setI t2 13 (0 : Int32) := ⟨_, rfl⟩
      rw [← et3] at wd
      have h := h t3 et3
      refine lv_aload_n hx hb dX10_begins_110 rfl (lv_at hl 0 rfl) ?_
      refine lv_iconst (v := (0 : Int32)) hx hb dX10_begins_111 (by decide) ?_
      refine putF C wd (k := 0) (Cn := RX10) (T := TX10) (N := 26) (σ' := setI t3 15 (0 : Int32)) (by decide) mc_X10 rfl tyX10_ok nmX10 15 (by decide) rfl (by decide +kernel) (Nat.le_of_ble_eq_true rfl) inX10 tw4_41 ms_X10_releasedMany dX10_begins_112 (fun H locs wd => ?_)
      obtain ⟨t4, et4⟩ : ∃ z : St, z = setI t3 15 (0 : Int32) := ⟨_, rfl⟩
      rw [← et4] at wd
      have h := h t4 et4
      refine lv_aload_n hx hb dX10_begins_115 rfl (lv_at hl 0 rfl) ?_
      refine lv_iconst (v := (0 : Int32)) hx hb dX10_begins_116 (by decide) ?_
      refine putF C wd (k := 0) (Cn := RX10) (T := TX10) (N := 26) (σ' := setI t4 16 (0 : Int32)) (by decide) mc_X10 rfl tyX10_ok nmX10 16 (by decide) rfl (by decide +kernel) (Nat.le_of_ble_eq_true rfl) inX10 tw4_42 ms_X10_gone dX10_begins_117 (fun H locs wd => ?_)
      obtain ⟨t5, et5⟩ : ∃ z : St, z = setI t4 16 (0 : Int32) := ⟨_, rfl⟩
      rw [← et5] at wd
      have h := h t5 et5
      exact retV C wd h dX10_begins_120
    · have h := h.2 c1
      refine lv_aload_n hx hb dX10_begins_7 rfl (lv_at hl 0 rfl) ?_
      refine getF C wd (k := 0) (Cn := RX10) (T := TX10) (N := 26) (v := .ref (ad 1)) (by decide) mc_X10 rfl 1 (by decide) rfl inX10 tw4_27 dX10_begins_8 ?_
      refine lv_iload_n hx hb dX10_begins_11 rfl (lv_at hl 1 rfl) ?_
      refine lv_iconst (v := (0 : Int32)) hx hb dX10_begins_12 (by decide) ?_
      obtain ⟨hi6, h⟩ := h
      refine stI C wd (k := 1) (N := 5) (by decide) mc_A1 ms_A1 hi6 dX10_begins_13 (fun H locs wd => ?_)
      obtain ⟨t7, et7⟩ : ∃ z : St, z = wr σ 1 x1 (0 : Int32) := ⟨_, rfl⟩
      rw [← et7] at wd
      have h := h t7 et7
      refine lv_aload_n hx hb dX10_begins_14 rfl (lv_at hl 0 rfl) ?_
      refine getF C wd (k := 0) (Cn := RX10) (T := TX10) (N := 26) (v := .ref (ad 2)) (by decide) mc_X10 rfl 2 (by decide) rfl inX10 tw4_28 dX10_begins_15 ?_
      refine lv_iload_n hx hb dX10_begins_18 rfl (lv_at hl 1 rfl) ?_
      refine lv_iconst (v := (0 : Int32)) hx hb dX10_begins_19 (by decide) ?_
      obtain ⟨hi8, h⟩ := h
      refine stI C wd (k := 2) (N := 5) (by decide) mc_A2 ms_A2 hi8 dX10_begins_20 (fun H locs wd => ?_)
      obtain ⟨t9, et9⟩ : ∃ z : St, z = wr t7 2 x1 (0 : Int32) := ⟨_, rfl⟩
      rw [← et9] at wd
      have h := h t9 et9
      refine lv_aload_n hx hb dX10_begins_21 rfl (lv_at hl 0 rfl) ?_
      refine getF C wd (k := 0) (Cn := RX10) (T := TX10) (N := 26) (v := .ref (ad 3)) (by decide) mc_X10 rfl 3 (by decide) rfl inX10 tw4_29 dX10_begins_22 ?_
      refine lv_iload_n hx hb dX10_begins_25 rfl (lv_at hl 1 rfl) ?_
      refine lv_iconst (v := (0 : Int32)) hx hb dX10_begins_26 (by decide) ?_
      obtain ⟨hi10, h⟩ := h
      refine stI C wd (k := 3) (N := 5) (by decide) mc_A3 ms_A3 hi10 dX10_begins_27 (fun H locs wd => ?_)
      obtain ⟨t11, et11⟩ : ∃ z : St, z = wr t9 3 x1 (0 : Int32) := ⟨_, rfl⟩
      rw [← et11] at wd
      have h := h t11 et11
      refine lv_aload_n hx hb dX10_begins_28 rfl (lv_at hl 0 rfl) ?_
      refine getF C wd (k := 0) (Cn := RX10) (T := TX10) (N := 26) (v := .ref (ad 4)) (by decide) mc_X10 rfl 4 (by decide) rfl inX10 tw4_30 dX10_begins_29 ?_
      refine lv_iload_n hx hb dX10_begins_32 rfl (lv_at hl 1 rfl) ?_
      refine lv_iconst (v := (0 : Int32)) hx hb dX10_begins_33 (by decide) ?_
      obtain ⟨hi12, h⟩ := h
      refine stI C wd (k := 4) (N := 5) (by decide) mc_A4 ms_A4 hi12 dX10_begins_34 (fun H locs wd => ?_)
      obtain ⟨t13, et13⟩ : ∃ z : St, z = wr t11 4 x1 (0 : Int32) := ⟨_, rfl⟩
      rw [← et13] at wd
      have h := h t13 et13
      refine lv_aload_n hx hb dX10_begins_35 rfl (lv_at hl 0 rfl) ?_
      refine getF C wd (k := 0) (Cn := RX10) (T := TX10) (N := 26) (v := .ref (ad 6)) (by decide) mc_X10 rfl 6 (by decide) rfl inX10 tw4_32 dX10_begins_36 ?_
      refine lv_iload_n hx hb dX10_begins_39 rfl (lv_at hl 1 rfl) ?_
      refine lv_iconst (v := (0 : Int32)) hx hb dX10_begins_40 (by decide) ?_
      refine gCi wd (gRunS (y := yX10_pageOf) (As := [.int x1, .int (0 : Int32)]) (rest := [.ref (ad 6)]) C wd (cmX10_pageOf h) ⟨rfl, rfl⟩ gd_X10_63 nk_X10_pageOf ⟨Nat.le_of_ble_eq_true rfl, Nat.le_of_ble_eq_true rfl⟩ hl.1 (Nat.le_of_ble_eq_true rfl) dX10_begins_41 rfl) (fun r15 t14 H locs h wd => ?_)
      try dsimp only at h
      refine lv_iconst (v := (0 : Int32)) hx hb dX10_begins_44 (by decide) ?_
      obtain ⟨hi16, h⟩ := h
      refine stI C wd (k := 6) (N := 120) (by decide) mc_A6 ms_A6 hi16 dX10_begins_45 (fun H locs wd => ?_)
      obtain ⟨t17, et17⟩ : ∃ z : St, z = wr t14 6 r15 (0 : Int32) := ⟨_, rfl⟩
      rw [← et17] at wd
      have h := h t17 et17
      refine lv_aload_n hx hb dX10_begins_46 rfl (lv_at hl 0 rfl) ?_
      refine getF C wd (k := 0) (Cn := RX10) (T := TX10) (N := 26) (v := .ref (ad 7)) (by decide) mc_X10 rfl 7 (by decide) rfl inX10 tw4_33 dX10_begins_47 ?_
      refine lv_iload_n hx hb dX10_begins_50 rfl (lv_at hl 1 rfl) ?_
      refine lv_iconst (v := (0 : Int32)) hx hb dX10_begins_51 (by decide) ?_
      refine gCi wd (gRunS (y := yX10_pageOf) (As := [.int x1, .int (0 : Int32)]) (rest := [.ref (ad 7)]) C wd (cmX10_pageOf h) ⟨rfl, rfl⟩ gd_X10_63 nk_X10_pageOf ⟨Nat.le_of_ble_eq_true rfl, Nat.le_of_ble_eq_true rfl⟩ hl.1 (Nat.le_of_ble_eq_true rfl) dX10_begins_52 rfl) (fun r19 t18 H locs h wd => ?_)
      try dsimp only at h
      refine lv_iconst (v := (0 : Int32)) hx hb dX10_begins_55 (by decide) ?_
      obtain ⟨hi20, h⟩ := h
      refine stI C wd (k := 7) (N := 120) (by decide) mc_A7 ms_A7 hi20 dX10_begins_56 (fun H locs wd => ?_)
      obtain ⟨t21, et21⟩ : ∃ z : St, z = wr t18 7 r19 (0 : Int32) := ⟨_, rfl⟩
      rw [← et21] at wd
      have h := h t21 et21
      refine lv_iconst (v := (0 : Int32)) hx hb dX10_begins_57 (by decide) ?_
      refine lv_istore_n (lv' := [(2, .int (0 : Int32)), (0, .ref (ad 0)), (1, .int x1)]) hx hb dX10_begins_58 rfl hl (by decide) rfl (fun ls hl => ?_)
      obtain ⟨N, h⟩ := h
      exact llX10_begins_59 C hk_2 N _ _ _ _ _ _ h wd (lv_sub hl [1, 2, 0] rfl)
def wpX10_begins (σ : St) (Φ : St → Prop) : Prop :=
  (∃ N, wlX10_begins_2 Φ N (0 : Int32) σ)
set_option maxHeartbeats 4000000 in
set_option maxRecDepth 100000 in
theorem cmX10_begins {D : va_G} {cyI cyO : ClassId} {ad : Nat → Nat} {l : Launch} {σ : St} {sz : Nat} {Φ : St → Prop} (h : wpX10_begins σ Φ) : gMet D (tyL cyI cyO) (mCell ad cyI cyO) ad 16 l yX10_begins cX10_begins 3 none rmX10_begins [.ref (ad 0)] σ sz (gQv D (mCell ad cyI cyO) ad 16 sz Φ) := by
  refine gMet.of (by decide) (Nat.le_of_ble_eq_true rfl) ?_
  intro p e s m below meth c ls hsz C hl wd
  subst hsz
  have C : Cx p s m _ meth c cX10_begins 3 none RX10 := C
  obtain ⟨hx, hb, hr, hml, hown, hts, hlk⟩ := id C
  have hl : lv_has ls 3 [(0, .ref (ad 0))] := hl
  unfold wpX10_begins at h
  refine lv_iconst (v := (0 : Int32)) hx hb dX10_begins_0 (by decide) ?_
  refine lv_istore_n (lv' := [(1, .int (0 : Int32)), (0, .ref (ad 0))]) hx hb dX10_begins_1 rfl hl (by decide) rfl (fun ls hl => ?_)
  obtain ⟨N, h⟩ := h
  exact llX10_begins_2 C N _ _ _ _ _ h wd (lv_sub hl [1, 0] rfl)
abbrev rmX10_clerks : Room := rmOf 3 65
def wpX10_clerks (x1 : Int32) (σ : St) (Φ : Int32 → St → Prop) : Prop :=
  wpX10_in x1.toInt64 (2 : Int64) (5 : Int64) σ (fun r2 t1 => ((r2 = 0 → wpX10_bad t1 (fun r8 t7 => Φ r8 t7)) ∧ (¬ r2 = 0 → (∀ y4 : Int32, y4 = t1.1 0 → (∀ t5 : St, t5 = setI t1 0 x1 → wpX10_begins t5 (fun t6 => Φ y4 t6))))))
set_option maxHeartbeats 4000000 in
set_option maxRecDepth 100000 in
theorem cmX10_clerks {D : va_G} {cyI cyO : ClassId} {ad : Nat → Nat} {l : Launch} {x1 : Int32} {σ : St} {sz : Nat} {Φ : Int32 → St → Prop} (h : wpX10_clerks x1 σ Φ) : gMet D (tyL cyI cyO) (mCell ad cyI cyO) ad 16 l yX10_clerks cX10_clerks 3 (some .int) rmX10_clerks [.ref (ad 0), .int x1] σ sz (gQi D (mCell ad cyI cyO) ad 16 sz Φ) := by
  refine gMet.of (by decide) (Nat.le_of_ble_eq_true rfl) ?_
  intro p e s m below meth c ls hsz C hl wd
  subst hsz
  have C : Cx p s m _ meth c cX10_clerks 3 (some .int) RX10 := C
  obtain ⟨hx, hb, hr, hml, hown, hts, hlk⟩ := id C
  have hl : lv_has ls 3 [(0, .ref (ad 0)), (1, .int x1)] := hl
  unfold wpX10_clerks at h
  refine lv_iload_n hx hb dX10_clerks_0 rfl (lv_at hl 1 rfl) ?_
  refine lv_i2l hx hb dX10_clerks_1 rfl ?_
  refine lv_ldc2 (v := (2 : Int64)) hx hb hown (hts _ tw4_109) dX10_clerks_2 ?_
  refine lv_ldc2 (v := (5 : Int64)) hx hb hown (hts _ tw4_110) dX10_clerks_5 ?_
  refine gCi wd (gRunS (y := yX10_in) (As := [.long x1.toInt64, .long (2 : Int64), .long (5 : Int64)]) (rest := []) C wd (cmX10_in h) ⟨rfl, rfl⟩ gd_X10_59 nk_X10_in ⟨Nat.le_of_ble_eq_true rfl, Nat.le_of_ble_eq_true rfl⟩ hl.1 (Nat.le_of_ble_eq_true rfl) dX10_clerks_8 rfl) (fun r2 t1 H locs h wd => ?_)
  try dsimp only at h
  refine lv_if_ne (tgt := 19) hx hb dX10_clerks_11 (by decide) (fun c3 => ?_) (fun c3 => ?_)
  · have h := h.2 c3
    refine lv_aload_n hx hb dX10_clerks_19 rfl (lv_at hl 0 rfl) ?_
    refine getF C wd (k := 0) (Cn := RX10) (T := TX10) (N := 26) (v := .int (t1.1 0)) (by decide) mc_X10 rfl 0 (by decide) rfl inX10 tw4_26 dX10_clerks_20 ?_
    refine lv_topi (fun y4 ey4 => ?_)
    have h := h y4 ey4
    refine lv_istore_n (lv' := [(2, .int y4), (0, .ref (ad 0)), (1, .int x1)]) hx hb dX10_clerks_23 rfl hl (by decide) rfl (fun ls hl => ?_)
    refine lv_aload_n hx hb dX10_clerks_24 rfl (lv_at hl 1 rfl) ?_
    refine lv_iload_n hx hb dX10_clerks_25 rfl (lv_at hl 2 rfl) ?_
    refine putF C wd (k := 0) (Cn := RX10) (T := TX10) (N := 26) (σ' := setI t1 0 x1) (by decide) mc_X10 rfl tyX10_ok nmX10 0 (by decide) rfl (by decide +kernel) (Nat.le_of_ble_eq_true rfl) inX10 tw4_26 ms_X10_clerksNow dX10_clerks_26 (fun H locs wd => ?_)
    obtain ⟨t5, et5⟩ : ∃ z : St, z = setI t1 0 x1 := ⟨_, rfl⟩
    rw [← et5] at wd
    have h := h t5 et5
    refine lv_aload_n hx hb dX10_clerks_29 rfl (lv_at hl 1 rfl) ?_
    refine gCv wd (gRunV (y := yX10_begins) (k := 0) (As := []) (rest := []) C wd (cmX10_begins h) ⟨rfl, rfl⟩ gd_X10_91 nk_X10_begins ⟨Nat.le_of_ble_eq_true rfl, Nat.le_of_ble_eq_true rfl⟩ (by decide) mc_X10 rfl rfl hl.1 (Nat.le_of_ble_eq_true rfl) dX10_clerks_30 rfl) (fun t6 H locs h wd => ?_)
    try dsimp only at h
    refine lv_iload_n hx hb dX10_clerks_33 rfl (lv_at hl 0 rfl) ?_
    exact retI C wd h dX10_clerks_34
  · have h := h.1 c3
    refine lv_aload_n hx hb dX10_clerks_14 rfl (lv_at hl 0 rfl) ?_
    refine gCi wd (gRunV (y := yX10_bad) (k := 0) (As := []) (rest := []) C wd (cmX10_bad h) ⟨rfl, rfl⟩ gd_X10_87 nk_X10_bad ⟨Nat.le_of_ble_eq_true rfl, Nat.le_of_ble_eq_true rfl⟩ (by decide) mc_X10 rfl rfl hl.1 (Nat.le_of_ble_eq_true rfl) dX10_clerks_15 rfl) (fun r8 t7 H locs h wd => ?_)
    try dsimp only at h
    exact retI C wd h dX10_clerks_18
abbrev rmX10_writesPage : Room := rmOf 2 43
def wlX10_writesPage_21_body (Φ : Int32 → St → Prop) (k_21 : Int32 → Int32 → Int32 → Int32 → St → Prop) (x1 : Int32) (x2 : Int32) (x3 : Int32) (x4 : Int32) (σ : St) : Prop :=
  (((5 : Int32) ≤ x4 → wpX10_restOf x1 x3 x1 σ (fun r3 t2 => (vp_in x1 5 ∧ (vp_in r3 600 ∧ ∀ t6 : St, t6 = wr t2 8 r3 (rd t2 1 x1) → wpX10_restOf x1 x3 x1 t6 (fun r8 t7 => (vp_in r8 600 ∧ ∀ t10 : St, t10 = wr t7 9 r8 x3 → wpX10_pageOf x1 x3 t10 (fun r12 t11 => (vp_in x1 5 ∧ (vp_in r12 120 ∧ ∀ t15 : St, t15 = wr t11 6 r12 (rd t11 1 x1) → wpX10_pageOf x1 x3 t15 (fun r17 t16 => wpX10_pageOf x1 (x3 - (1 : Int32)) t16 (fun r19 t18 => (vp_in r19 120 ∧ (vp_in r17 120 ∧ ∀ t22 : St, t22 = wr t18 7 r17 (((((3 : Int64) * ((rd t18 7 r19).toInt64)) + x2.toInt64) - (((3 : Int64) * ((rd t18 7 r19).toInt64)) + x2.toInt64) / (1000003 : Int64) * (1000003 : Int64)).toInt32) → (vp_in x1 5 ∧ ∀ t24 : St, t24 = wr t22 2 x1 x3 → Φ x3 t24)))))))))))))) ∧ (¬ (5 : Int32) ≤ x4 → wpX10_restOf x1 x3 x4 σ (fun r26 t25 => wpX10_restOf x1 (x3 - (1 : Int32)) x4 t25 (fun r28 t27 => (vp_in r28 600 ∧ (vp_in r26 600 ∧ ∀ t31 : St, t31 = wr t27 8 r26 (rd t27 8 r28) → wpX10_restOf x1 x3 x4 t31 (fun r33 t32 => wpX10_restOf x1 (x3 - (1 : Int32)) x4 t32 (fun r35 t34 => (vp_in r35 600 ∧ (vp_in r33 600 ∧ ∀ t38 : St, t38 = wr t34 9 r33 (rd t34 9 r35) → (∀ y39 : Int32, y39 = x4 + (1 : Int32) → k_21 x1 x2 x3 y39 t38)))))))))))
def wlX10_writesPage_21 (Φ : Int32 → St → Prop) : Nat → Int32 → Int32 → Int32 → Int32 → St → Prop
  | 0 => fun _ _ _ _ _ => False
  | N + 1 => fun x1 x2 x3 x4 σ => wlX10_writesPage_21_body Φ (wlX10_writesPage_21 Φ N) x1 x2 x3 x4 σ
set_option maxHeartbeats 4000000 in
set_option maxRecDepth 100000 in
theorem llX10_writesPage_21 {p : Program} {l : Launch} {e : Env} {s : State} {m : MethodId} {args : Array Value} {below : List Frame} {meth : Method} {c : Code} (C : Cx p s m args meth c cX10_writesPage 5 (some .int) RX10) {Φ : Int32 → St → Prop} : ∀ (N : Nat) (x1 : Int32) (x2 : Int32) (x3 : Int32) (x4 : Int32) (σ : St) (H : Heap) (locs : List Loc) (ls : Array Slot), wlX10_writesPage_21 Φ N x1 x2 x3 x4 σ → gWd D (tyL cyI cyO) (mCell ad cyI cyO) ad 16 s H locs σ → lv_has ls 5 [(0, .ref (ad 0)), (1, .int x1), (2, .int x2), (3, .int x3), (4, .int x4)] → W p l e rmX10_writesPage s m args below meth c H locs 0 0 (MQ below (gQi D (mCell ad cyI cyO) ad 16 s.heap.size Φ) args s 0 0 (gA ad 16 s.heap.size)) (F0 m 21 ls []) := by
  obtain ⟨hx, hb, hr, hml, hown, hts, hlk⟩ := id C
  intro N
  induction N with
  | zero =>
    intro x1 x2 x3 x4 σ H locs ls h
    exact False.elim h
  | succ N ih =>
    intro x1 x2 x3 x4 σ H locs ls h wd hl
    have h : wlX10_writesPage_21_body Φ (wlX10_writesPage_21 Φ N) x1 x2 x3 x4 σ := h
    have hk_21 := ih
    unfold wlX10_writesPage_21_body at h
    refine lv_iload hx hb dX10_writesPage_21 (lv_at hl 4 rfl) ?_
    refine lv_iconst (v := (5 : Int32)) hx hb dX10_writesPage_23 (by decide) ?_
    refine lv_icmp_ge (tgt := 85) hx hb dX10_writesPage_24 (by decide) (fun c1 => ?_) (fun c1 => ?_)
    · have h := h.1 c1
      refine lv_aload_n hx hb dX10_writesPage_85 rfl (lv_at hl 0 rfl) ?_
      refine getF C wd (k := 0) (Cn := RX10) (T := TX10) (N := 26) (v := .ref (ad 8)) (by decide) mc_X10 rfl 8 (by decide) rfl inX10 tw4_34 dX10_writesPage_86 ?_
      refine lv_iload_n hx hb dX10_writesPage_89 rfl (lv_at hl 1 rfl) ?_
      refine lv_iload_n hx hb dX10_writesPage_90 rfl (lv_at hl 3 rfl) ?_
      refine lv_iload_n hx hb dX10_writesPage_91 rfl (lv_at hl 1 rfl) ?_
      refine gCi wd (gRunS (y := yX10_restOf) (As := [.int x1, .int x3, .int x1]) (rest := [.ref (ad 8)]) C wd (cmX10_restOf h) ⟨rfl, rfl⟩ gd_X10_67 nk_X10_restOf ⟨Nat.le_of_ble_eq_true rfl, Nat.le_of_ble_eq_true rfl⟩ hl.1 (Nat.le_of_ble_eq_true rfl) dX10_writesPage_92 rfl) (fun r3 t2 H locs h wd => ?_)
      try dsimp only at h
      refine lv_aload_n hx hb dX10_writesPage_95 rfl (lv_at hl 0 rfl) ?_
      refine getF C wd (k := 0) (Cn := RX10) (T := TX10) (N := 26) (v := .ref (ad 1)) (by decide) mc_X10 rfl 1 (by decide) rfl inX10 tw4_27 dX10_writesPage_96 ?_
      refine lv_iload_n hx hb dX10_writesPage_99 rfl (lv_at hl 1 rfl) ?_
      obtain ⟨hi4, h⟩ := h
      refine ldI C wd (k := 1) (N := 5) (by decide) mc_A1 hi4 dX10_writesPage_100 ?_
      obtain ⟨hi5, h⟩ := h
      refine stI C wd (k := 8) (N := 600) (by decide) mc_A8 ms_A8 hi5 dX10_writesPage_101 (fun H locs wd => ?_)
      obtain ⟨t6, et6⟩ : ∃ z : St, z = wr t2 8 r3 (rd t2 1 x1) := ⟨_, rfl⟩
      rw [← et6] at wd
      have h := h t6 et6
      refine lv_aload_n hx hb dX10_writesPage_102 rfl (lv_at hl 0 rfl) ?_
      refine getF C wd (k := 0) (Cn := RX10) (T := TX10) (N := 26) (v := .ref (ad 9)) (by decide) mc_X10 rfl 9 (by decide) rfl inX10 tw4_35 dX10_writesPage_103 ?_
      refine lv_iload_n hx hb dX10_writesPage_106 rfl (lv_at hl 1 rfl) ?_
      refine lv_iload_n hx hb dX10_writesPage_107 rfl (lv_at hl 3 rfl) ?_
      refine lv_iload_n hx hb dX10_writesPage_108 rfl (lv_at hl 1 rfl) ?_
      refine gCi wd (gRunS (y := yX10_restOf) (As := [.int x1, .int x3, .int x1]) (rest := [.ref (ad 9)]) C wd (cmX10_restOf h) ⟨rfl, rfl⟩ gd_X10_67 nk_X10_restOf ⟨Nat.le_of_ble_eq_true rfl, Nat.le_of_ble_eq_true rfl⟩ hl.1 (Nat.le_of_ble_eq_true rfl) dX10_writesPage_109 rfl) (fun r8 t7 H locs h wd => ?_)
      try dsimp only at h
      refine lv_iload_n hx hb dX10_writesPage_112 rfl (lv_at hl 3 rfl) ?_
      obtain ⟨hi9, h⟩ := h
      refine stI C wd (k := 9) (N := 600) (by decide) mc_A9 ms_A9 hi9 dX10_writesPage_113 (fun H locs wd => ?_)
      obtain ⟨t10, et10⟩ : ∃ z : St, z = wr t7 9 r8 x3 := ⟨_, rfl⟩
      rw [← et10] at wd
      have h := h t10 et10
      refine lv_aload_n hx hb dX10_writesPage_114 rfl (lv_at hl 0 rfl) ?_
      refine getF C wd (k := 0) (Cn := RX10) (T := TX10) (N := 26) (v := .ref (ad 6)) (by decide) mc_X10 rfl 6 (by decide) rfl inX10 tw4_32 dX10_writesPage_115 ?_
      refine lv_iload_n hx hb dX10_writesPage_118 rfl (lv_at hl 1 rfl) ?_
      refine lv_iload_n hx hb dX10_writesPage_119 rfl (lv_at hl 3 rfl) ?_
      refine gCi wd (gRunS (y := yX10_pageOf) (As := [.int x1, .int x3]) (rest := [.ref (ad 6)]) C wd (cmX10_pageOf h) ⟨rfl, rfl⟩ gd_X10_63 nk_X10_pageOf ⟨Nat.le_of_ble_eq_true rfl, Nat.le_of_ble_eq_true rfl⟩ hl.1 (Nat.le_of_ble_eq_true rfl) dX10_writesPage_120 rfl) (fun r12 t11 H locs h wd => ?_)
      try dsimp only at h
      refine lv_aload_n hx hb dX10_writesPage_123 rfl (lv_at hl 0 rfl) ?_
      refine getF C wd (k := 0) (Cn := RX10) (T := TX10) (N := 26) (v := .ref (ad 1)) (by decide) mc_X10 rfl 1 (by decide) rfl inX10 tw4_27 dX10_writesPage_124 ?_
      refine lv_iload_n hx hb dX10_writesPage_127 rfl (lv_at hl 1 rfl) ?_
      obtain ⟨hi13, h⟩ := h
      refine ldI C wd (k := 1) (N := 5) (by decide) mc_A1 hi13 dX10_writesPage_128 ?_
      obtain ⟨hi14, h⟩ := h
      refine stI C wd (k := 6) (N := 120) (by decide) mc_A6 ms_A6 hi14 dX10_writesPage_129 (fun H locs wd => ?_)
      obtain ⟨t15, et15⟩ : ∃ z : St, z = wr t11 6 r12 (rd t11 1 x1) := ⟨_, rfl⟩
      rw [← et15] at wd
      have h := h t15 et15
      refine lv_aload_n hx hb dX10_writesPage_130 rfl (lv_at hl 0 rfl) ?_
      refine getF C wd (k := 0) (Cn := RX10) (T := TX10) (N := 26) (v := .ref (ad 7)) (by decide) mc_X10 rfl 7 (by decide) rfl inX10 tw4_33 dX10_writesPage_131 ?_
      refine lv_iload_n hx hb dX10_writesPage_134 rfl (lv_at hl 1 rfl) ?_
      refine lv_iload_n hx hb dX10_writesPage_135 rfl (lv_at hl 3 rfl) ?_
      refine gCi wd (gRunS (y := yX10_pageOf) (As := [.int x1, .int x3]) (rest := [.ref (ad 7)]) C wd (cmX10_pageOf h) ⟨rfl, rfl⟩ gd_X10_63 nk_X10_pageOf ⟨Nat.le_of_ble_eq_true rfl, Nat.le_of_ble_eq_true rfl⟩ hl.1 (Nat.le_of_ble_eq_true rfl) dX10_writesPage_136 rfl) (fun r17 t16 H locs h wd => ?_)
      try dsimp only at h
      refine lv_ldc2 (v := (3 : Int64)) hx hb hown (hts _ tw4_141) dX10_writesPage_139 ?_
      refine lv_aload_n hx hb dX10_writesPage_142 rfl (lv_at hl 0 rfl) ?_
      refine getF C wd (k := 0) (Cn := RX10) (T := TX10) (N := 26) (v := .ref (ad 7)) (by decide) mc_X10 rfl 7 (by decide) rfl inX10 tw4_33 dX10_writesPage_143 ?_
      refine lv_iload_n hx hb dX10_writesPage_146 rfl (lv_at hl 1 rfl) ?_
      refine lv_iload_n hx hb dX10_writesPage_147 rfl (lv_at hl 3 rfl) ?_
      refine lv_iconst (v := (1 : Int32)) hx hb dX10_writesPage_148 (by decide) ?_
      refine lv_isub hx hb dX10_writesPage_149 ?_
      refine gCi wd (gRunS (y := yX10_pageOf) (As := [.int x1, .int (x3 - (1 : Int32))]) (rest := [.ref (ad 7), .long (3 : Int64), .int r17, .ref (ad 7)]) C wd (cmX10_pageOf h) ⟨rfl, rfl⟩ gd_X10_63 nk_X10_pageOf ⟨Nat.le_of_ble_eq_true rfl, Nat.le_of_ble_eq_true rfl⟩ hl.1 (Nat.le_of_ble_eq_true rfl) dX10_writesPage_150 rfl) (fun r19 t18 H locs h wd => ?_)
      try dsimp only at h
      obtain ⟨hi20, h⟩ := h
      refine ldI C wd (k := 7) (N := 120) (by decide) mc_A7 hi20 dX10_writesPage_153 ?_
      refine lv_i2l hx hb dX10_writesPage_154 rfl ?_
      refine lv_lmul hx hb dX10_writesPage_155 ?_
      refine lv_iload_n hx hb dX10_writesPage_156 rfl (lv_at hl 2 rfl) ?_
      refine lv_i2l hx hb dX10_writesPage_157 rfl ?_
      refine lv_ladd hx hb dX10_writesPage_158 ?_
      refine lv_ldc2 (v := (1000003 : Int64)) hx hb hown (hts _ tw4_142) dX10_writesPage_159 ?_
      refine lv_lrem hx hb dX10_writesPage_162 (by decide) ?_
      refine lv_l2i hx hb dX10_writesPage_163 rfl ?_
      obtain ⟨hi21, h⟩ := h
      refine stI C wd (k := 7) (N := 120) (by decide) mc_A7 ms_A7 hi21 dX10_writesPage_164 (fun H locs wd => ?_)
      obtain ⟨t22, et22⟩ : ∃ z : St, z = wr t18 7 r17 (((((3 : Int64) * ((rd t18 7 r19).toInt64)) + x2.toInt64) - (((3 : Int64) * ((rd t18 7 r19).toInt64)) + x2.toInt64) / (1000003 : Int64) * (1000003 : Int64)).toInt32) := ⟨_, rfl⟩
      rw [← et22] at wd
      have h := h t22 et22
      refine lv_aload_n hx hb dX10_writesPage_165 rfl (lv_at hl 0 rfl) ?_
      refine getF C wd (k := 0) (Cn := RX10) (T := TX10) (N := 26) (v := .ref (ad 2)) (by decide) mc_X10 rfl 2 (by decide) rfl inX10 tw4_28 dX10_writesPage_166 ?_
      refine lv_iload_n hx hb dX10_writesPage_169 rfl (lv_at hl 1 rfl) ?_
      refine lv_iload_n hx hb dX10_writesPage_170 rfl (lv_at hl 3 rfl) ?_
      obtain ⟨hi23, h⟩ := h
      refine stI C wd (k := 2) (N := 5) (by decide) mc_A2 ms_A2 hi23 dX10_writesPage_171 (fun H locs wd => ?_)
      obtain ⟨t24, et24⟩ : ∃ z : St, z = wr t22 2 x1 x3 := ⟨_, rfl⟩
      rw [← et24] at wd
      have h := h t24 et24
      refine lv_iload_n hx hb dX10_writesPage_172 rfl (lv_at hl 3 rfl) ?_
      exact retI C wd h dX10_writesPage_173
    · have h := h.2 c1
      refine lv_aload_n hx hb dX10_writesPage_27 rfl (lv_at hl 0 rfl) ?_
      refine getF C wd (k := 0) (Cn := RX10) (T := TX10) (N := 26) (v := .ref (ad 8)) (by decide) mc_X10 rfl 8 (by decide) rfl inX10 tw4_34 dX10_writesPage_28 ?_
      refine lv_iload_n hx hb dX10_writesPage_31 rfl (lv_at hl 1 rfl) ?_
      refine lv_iload_n hx hb dX10_writesPage_32 rfl (lv_at hl 3 rfl) ?_
      refine lv_iload hx hb dX10_writesPage_33 (lv_at hl 4 rfl) ?_
      refine gCi wd (gRunS (y := yX10_restOf) (As := [.int x1, .int x3, .int x4]) (rest := [.ref (ad 8)]) C wd (cmX10_restOf h) ⟨rfl, rfl⟩ gd_X10_67 nk_X10_restOf ⟨Nat.le_of_ble_eq_true rfl, Nat.le_of_ble_eq_true rfl⟩ hl.1 (Nat.le_of_ble_eq_true rfl) dX10_writesPage_35 rfl) (fun r26 t25 H locs h wd => ?_)
      try dsimp only at h
      refine lv_aload_n hx hb dX10_writesPage_38 rfl (lv_at hl 0 rfl) ?_
      refine getF C wd (k := 0) (Cn := RX10) (T := TX10) (N := 26) (v := .ref (ad 8)) (by decide) mc_X10 rfl 8 (by decide) rfl inX10 tw4_34 dX10_writesPage_39 ?_
      refine lv_iload_n hx hb dX10_writesPage_42 rfl (lv_at hl 1 rfl) ?_
      refine lv_iload_n hx hb dX10_writesPage_43 rfl (lv_at hl 3 rfl) ?_
      refine lv_iconst (v := (1 : Int32)) hx hb dX10_writesPage_44 (by decide) ?_
      refine lv_isub hx hb dX10_writesPage_45 ?_
      refine lv_iload hx hb dX10_writesPage_46 (lv_at hl 4 rfl) ?_
      refine gCi wd (gRunS (y := yX10_restOf) (As := [.int x1, .int (x3 - (1 : Int32)), .int x4]) (rest := [.ref (ad 8), .int r26, .ref (ad 8)]) C wd (cmX10_restOf h) ⟨rfl, rfl⟩ gd_X10_67 nk_X10_restOf ⟨Nat.le_of_ble_eq_true rfl, Nat.le_of_ble_eq_true rfl⟩ hl.1 (Nat.le_of_ble_eq_true rfl) dX10_writesPage_48 rfl) (fun r28 t27 H locs h wd => ?_)
      try dsimp only at h
      obtain ⟨hi29, h⟩ := h
      refine ldI C wd (k := 8) (N := 600) (by decide) mc_A8 hi29 dX10_writesPage_51 ?_
      obtain ⟨hi30, h⟩ := h
      refine stI C wd (k := 8) (N := 600) (by decide) mc_A8 ms_A8 hi30 dX10_writesPage_52 (fun H locs wd => ?_)
      obtain ⟨t31, et31⟩ : ∃ z : St, z = wr t27 8 r26 (rd t27 8 r28) := ⟨_, rfl⟩
      rw [← et31] at wd
      have h := h t31 et31
      refine lv_aload_n hx hb dX10_writesPage_53 rfl (lv_at hl 0 rfl) ?_
      refine getF C wd (k := 0) (Cn := RX10) (T := TX10) (N := 26) (v := .ref (ad 9)) (by decide) mc_X10 rfl 9 (by decide) rfl inX10 tw4_35 dX10_writesPage_54 ?_
      refine lv_iload_n hx hb dX10_writesPage_57 rfl (lv_at hl 1 rfl) ?_
      refine lv_iload_n hx hb dX10_writesPage_58 rfl (lv_at hl 3 rfl) ?_
      refine lv_iload hx hb dX10_writesPage_59 (lv_at hl 4 rfl) ?_
      refine gCi wd (gRunS (y := yX10_restOf) (As := [.int x1, .int x3, .int x4]) (rest := [.ref (ad 9)]) C wd (cmX10_restOf h) ⟨rfl, rfl⟩ gd_X10_67 nk_X10_restOf ⟨Nat.le_of_ble_eq_true rfl, Nat.le_of_ble_eq_true rfl⟩ hl.1 (Nat.le_of_ble_eq_true rfl) dX10_writesPage_61 rfl) (fun r33 t32 H locs h wd => ?_)
      try dsimp only at h
      refine lv_aload_n hx hb dX10_writesPage_64 rfl (lv_at hl 0 rfl) ?_
      refine getF C wd (k := 0) (Cn := RX10) (T := TX10) (N := 26) (v := .ref (ad 9)) (by decide) mc_X10 rfl 9 (by decide) rfl inX10 tw4_35 dX10_writesPage_65 ?_
      refine lv_iload_n hx hb dX10_writesPage_68 rfl (lv_at hl 1 rfl) ?_
      refine lv_iload_n hx hb dX10_writesPage_69 rfl (lv_at hl 3 rfl) ?_
      refine lv_iconst (v := (1 : Int32)) hx hb dX10_writesPage_70 (by decide) ?_
      refine lv_isub hx hb dX10_writesPage_71 ?_
      refine lv_iload hx hb dX10_writesPage_72 (lv_at hl 4 rfl) ?_
      refine gCi wd (gRunS (y := yX10_restOf) (As := [.int x1, .int (x3 - (1 : Int32)), .int x4]) (rest := [.ref (ad 9), .int r33, .ref (ad 9)]) C wd (cmX10_restOf h) ⟨rfl, rfl⟩ gd_X10_67 nk_X10_restOf ⟨Nat.le_of_ble_eq_true rfl, Nat.le_of_ble_eq_true rfl⟩ hl.1 (Nat.le_of_ble_eq_true rfl) dX10_writesPage_74 rfl) (fun r35 t34 H locs h wd => ?_)
      try dsimp only at h
      obtain ⟨hi36, h⟩ := h
      refine ldI C wd (k := 9) (N := 600) (by decide) mc_A9 hi36 dX10_writesPage_77 ?_
      obtain ⟨hi37, h⟩ := h
      refine stI C wd (k := 9) (N := 600) (by decide) mc_A9 ms_A9 hi37 dX10_writesPage_78 (fun H locs wd => ?_)
      obtain ⟨t38, et38⟩ : ∃ z : St, z = wr t34 9 r33 (rd t34 9 r35) := ⟨_, rfl⟩
      rw [← et38] at wd
      have h := h t38 et38
      obtain ⟨y39, ey39⟩ : ∃ y : Int32, y = x4 + (1 : Int32) := ⟨_, rfl⟩
      refine lv_iinc (v := y39) (lv' := [(4, .int y39), (0, .ref (ad 0)), (1, .int x1), (2, .int x2), (3, .int x3)]) hx hb dX10_writesPage_79 hl (k := 4) rfl (by rw [ey39]; rfl) (by decide) rfl (fun ls hl => ?_)
      have h := h y39 ey39
      refine lv_goto (tgt := 21) hx hb dX10_writesPage_82 (by decide) ?_
      exact hk_21 _ _ _ _ _ _ _ _ h wd (lv_sub hl [1, 2, 3, 4, 0] rfl)
def wpX10_writesPage (x1 : Int32) (x2 : Int32) (σ : St) (Φ : Int32 → St → Prop) : Prop :=
  (vp_in x1 5 ∧ (∀ y2 : Int32, y2 = (rd σ 2 x1) + (1 : Int32) → ((y2 = (24 : Int32) → Φ (-4 : Int32) σ) ∧ (¬ y2 = (24 : Int32) → (∃ N, wlX10_writesPage_21 Φ N x1 x2 y2 (0 : Int32) σ)))))
set_option maxHeartbeats 4000000 in
set_option maxRecDepth 100000 in
theorem cmX10_writesPage {D : va_G} {cyI cyO : ClassId} {ad : Nat → Nat} {l : Launch} {x1 : Int32} {x2 : Int32} {σ : St} {sz : Nat} {Φ : Int32 → St → Prop} (h : wpX10_writesPage x1 x2 σ Φ) : gMet D (tyL cyI cyO) (mCell ad cyI cyO) ad 16 l yX10_writesPage cX10_writesPage 5 (some .int) rmX10_writesPage [.ref (ad 0), .int x1, .int x2] σ sz (gQi D (mCell ad cyI cyO) ad 16 sz Φ) := by
  refine gMet.of (by decide) (Nat.le_of_ble_eq_true rfl) ?_
  intro p e s m below meth c ls hsz C hl wd
  subst hsz
  have C : Cx p s m _ meth c cX10_writesPage 5 (some .int) RX10 := C
  obtain ⟨hx, hb, hr, hml, hown, hts, hlk⟩ := id C
  have hl : lv_has ls 5 [(0, .ref (ad 0)), (1, .int x1), (2, .int x2)] := hl
  unfold wpX10_writesPage at h
  refine lv_aload_n hx hb dX10_writesPage_0 rfl (lv_at hl 0 rfl) ?_
  refine getF C wd (k := 0) (Cn := RX10) (T := TX10) (N := 26) (v := .ref (ad 2)) (by decide) mc_X10 rfl 2 (by decide) rfl inX10 tw4_28 dX10_writesPage_1 ?_
  refine lv_iload_n hx hb dX10_writesPage_4 rfl (lv_at hl 1 rfl) ?_
  obtain ⟨hi1, h⟩ := h
  refine ldI C wd (k := 2) (N := 5) (by decide) mc_A2 hi1 dX10_writesPage_5 ?_
  refine lv_iconst (v := (1 : Int32)) hx hb dX10_writesPage_6 (by decide) ?_
  refine lv_iadd hx hb dX10_writesPage_7 ?_
  refine lv_topi (fun y2 ey2 => ?_)
  have h := h y2 ey2
  refine lv_istore_n (lv' := [(3, .int y2), (0, .ref (ad 0)), (1, .int x1), (2, .int x2)]) hx hb dX10_writesPage_8 rfl hl (by decide) rfl (fun ls hl => ?_)
  refine lv_iload_n hx hb dX10_writesPage_9 rfl (lv_at hl 0 rfl) ?_
  refine lv_bipush (v := (24 : Int32)) hx hb dX10_writesPage_10 (by decide) ?_
  refine lv_icmp_ne (tgt := 18) hx hb dX10_writesPage_12 (by decide) (fun c3 => ?_) (fun c3 => ?_)
  · have h := h.2 c3
    refine lv_iconst (v := (0 : Int32)) hx hb dX10_writesPage_18 (by decide) ?_
    refine lv_istore (lv' := [(4, .int (0 : Int32)), (3, .int y2), (0, .ref (ad 0)), (1, .int x1), (2, .int x2)]) hx hb dX10_writesPage_19 hl (by decide) rfl (fun ls hl => ?_)
    obtain ⟨N, h⟩ := h
    exact llX10_writesPage_21 C N _ _ _ _ _ _ _ _ h wd (lv_sub hl [2, 3, 4, 1, 0] rfl)
  · have h := h.1 c3
    refine lv_bipush (v := (-4 : Int32)) hx hb dX10_writesPage_15 (by decide) ?_
    exact retI C wd h dX10_writesPage_17
abbrev rmX10_work : Room := rmOf 3 67
def wbX10_work_20 (Φ : Int32 → St → Prop) (σ : St) : Prop :=
  wpX10_bad σ (fun r2 t1 => Φ r2 t1)
set_option maxHeartbeats 4000000 in
set_option maxRecDepth 100000 in
theorem blX10_work_20 {p : Program} {l : Launch} {e : Env} {s : State} {m : MethodId} {args : Array Value} {below : List Frame} {meth : Method} {c : Code} (C : Cx p s m args meth c cX10_work 3 (some .int) RX10) {Φ : Int32 → St → Prop} {σ : St} {H : Heap} {locs : List Loc} {ls : Array Slot} (h : wbX10_work_20 Φ σ) (wd : gWd D (tyL cyI cyO) (mCell ad cyI cyO) ad 16 s H locs σ) (hl : lv_has ls 3 [(0, .ref (ad 0))]) : W p l e rmX10_work s m args below meth c H locs 0 0 (MQ below (gQi D (mCell ad cyI cyO) ad 16 s.heap.size Φ) args s 0 0 (gA ad 16 s.heap.size)) (F0 m 20 ls []) := by
  obtain ⟨hx, hb, hr, hml, hown, hts, hlk⟩ := id C
  unfold wbX10_work_20 at h
  refine lv_aload_n hx hb dX10_work_20 rfl (lv_at hl 0 rfl) ?_
  refine gCi wd (gRunV (y := yX10_bad) (k := 0) (As := []) (rest := []) C wd (cmX10_bad h) ⟨rfl, rfl⟩ gd_X10_87 nk_X10_bad ⟨Nat.le_of_ble_eq_true rfl, Nat.le_of_ble_eq_true rfl⟩ (by decide) mc_X10 rfl rfl hl.1 (Nat.le_of_ble_eq_true rfl) dX10_work_21 rfl) (fun r2 t1 H locs h wd => ?_)
  try dsimp only at h
  refine lv_goto (tgt := 37) hx hb dX10_work_24 (by decide) ?_
  exact retI C wd h dX10_work_37
def wpX10_work (x1 : Int32) (x2 : Int32) (σ : St) (Φ : Int32 → St → Prop) : Prop :=
  wpX10_isClerk x1 σ (fun r2 t1 => ((r2 = 0 → wbX10_work_20 Φ t1) ∧ (¬ r2 = 0 → wpX10_in x2.toInt64 (0 : Int64) (999 : Int64) t1 (fun r5 t4 => ((r5 = 0 → wbX10_work_20 Φ t4) ∧ (¬ r5 = 0 → wpX10_writesPage x1 x2 t4 (fun r8 t7 => wpX10_tells r8 t7 (fun r10 t9 => Φ r10 t9))))))))
set_option maxHeartbeats 4000000 in
set_option maxRecDepth 100000 in
theorem cmX10_work {D : va_G} {cyI cyO : ClassId} {ad : Nat → Nat} {l : Launch} {x1 : Int32} {x2 : Int32} {σ : St} {sz : Nat} {Φ : Int32 → St → Prop} (h : wpX10_work x1 x2 σ Φ) : gMet D (tyL cyI cyO) (mCell ad cyI cyO) ad 16 l yX10_work cX10_work 3 (some .int) rmX10_work [.ref (ad 0), .int x1, .int x2] σ sz (gQi D (mCell ad cyI cyO) ad 16 sz Φ) := by
  refine gMet.of (by decide) (Nat.le_of_ble_eq_true rfl) ?_
  intro p e s m below meth c ls hsz C hl wd
  subst hsz
  have C : Cx p s m _ meth c cX10_work 3 (some .int) RX10 := C
  obtain ⟨hx, hb, hr, hml, hown, hts, hlk⟩ := id C
  have hl : lv_has ls 3 [(0, .ref (ad 0)), (1, .int x1), (2, .int x2)] := hl
  unfold wpX10_work at h
  refine lv_aload_n hx hb dX10_work_0 rfl (lv_at hl 0 rfl) ?_
  refine lv_iload_n hx hb dX10_work_1 rfl (lv_at hl 1 rfl) ?_
  refine gCi wd (gRunV (y := yX10_isClerk) (k := 0) (As := [.int x1]) (rest := []) C wd (cmX10_isClerk h) ⟨rfl, rfl⟩ gd_X10_98 nk_X10_isClerk ⟨Nat.le_of_ble_eq_true rfl, Nat.le_of_ble_eq_true rfl⟩ (by decide) mc_X10 rfl rfl hl.1 (Nat.le_of_ble_eq_true rfl) dX10_work_2 rfl) (fun r2 t1 H locs h wd => ?_)
  try dsimp only at h
  refine lv_if_eq (tgt := 20) hx hb dX10_work_5 (by decide) (fun c3 => ?_) (fun c3 => ?_)
  · have h := h.1 c3
    exact blX10_work_20 C h wd (lv_sub hl [0] rfl)
  · have h := h.2 c3
    refine lv_iload_n hx hb dX10_work_8 rfl (lv_at hl 2 rfl) ?_
    refine lv_i2l hx hb dX10_work_9 rfl ?_
    refine lv_lconst (v := (0 : Int64)) hx hb dX10_work_10 (by decide) ?_
    refine lv_ldc2 (v := (999 : Int64)) hx hb hown (hts _ tw4_136) dX10_work_11 ?_
    refine gCi wd (gRunS (y := yX10_in) (As := [.long x2.toInt64, .long (0 : Int64), .long (999 : Int64)]) (rest := []) C wd (cmX10_in h) ⟨rfl, rfl⟩ gd_X10_59 nk_X10_in ⟨Nat.le_of_ble_eq_true rfl, Nat.le_of_ble_eq_true rfl⟩ hl.1 (Nat.le_of_ble_eq_true rfl) dX10_work_14 rfl) (fun r5 t4 H locs h wd => ?_)
    try dsimp only at h
    refine lv_if_ne (tgt := 27) hx hb dX10_work_17 (by decide) (fun c6 => ?_) (fun c6 => ?_)
    · have h := h.2 c6
      refine lv_aload_n hx hb dX10_work_27 rfl (lv_at hl 0 rfl) ?_
      refine lv_aload_n hx hb dX10_work_28 rfl (lv_at hl 0 rfl) ?_
      refine lv_iload_n hx hb dX10_work_29 rfl (lv_at hl 1 rfl) ?_
      refine lv_iload_n hx hb dX10_work_30 rfl (lv_at hl 2 rfl) ?_
      refine gCi wd (gRunV (y := yX10_writesPage) (k := 0) (As := [.int x1, .int x2]) (rest := [.ref (ad 0)]) C wd (cmX10_writesPage h) ⟨rfl, rfl⟩ gd_X10_104 nk_X10_writesPage ⟨Nat.le_of_ble_eq_true rfl, Nat.le_of_ble_eq_true rfl⟩ (by decide) mc_X10 rfl rfl hl.1 (Nat.le_of_ble_eq_true rfl) dX10_work_31 rfl) (fun r8 t7 H locs h wd => ?_)
      try dsimp only at h
      refine gCi wd (gRunV (y := yX10_tells) (k := 0) (As := [.int r8]) (rest := []) C wd (cmX10_tells h) ⟨rfl, rfl⟩ gd_X10_107 nk_X10_tells ⟨Nat.le_of_ble_eq_true rfl, Nat.le_of_ble_eq_true rfl⟩ (by decide) mc_X10 rfl rfl hl.1 (Nat.le_of_ble_eq_true rfl) dX10_work_34 rfl) (fun r10 t9 H locs h wd => ?_)
      try dsimp only at h
      exact retI C wd h dX10_work_37
    · have h := h.1 c6
      exact blX10_work_20 C h wd (lv_sub hl [0] rfl)
end
