section
variable {D : va_G} {cyI cyO : ClassId} {ad : Nat → Nat} {n : Nat}
abbrev rmX7_counted : Room := rmOf 0 0
def wbX7_counted_32 (Φ : Int32 → St → Prop) (x1 : Int32) (σ : St) : Prop :=
  ((x1 = (-4 : Int32) → (∀ t2 : St, t2 = setI σ 1890 ((σ.1 1890) + (1 : Int32)) → Φ x1 t2)) ∧ (¬ x1 = (-4 : Int32) → Φ x1 σ))
set_option maxHeartbeats 4000000 in
set_option maxRecDepth 100000 in
theorem blX7_counted_32 {p : Program} {l : Launch} {e : Env} {s : State} {m : MethodId} {args : Array Value} {below : List Frame} {meth : Method} {c : Code} (hn : 60 ≤ n) (C : Cx p s m args meth c cX7_counted 2 (some .int) RX7) {Φ : Int32 → St → Prop} {x1 : Int32} {σ : St} {H : Heap} {locs : List Loc} {ls : Array Slot} (h : wbX7_counted_32 Φ x1 σ) (wd : gWd D (tyL cyI cyO) (cCell ad cyI cyO) ad n s H locs σ) (hl : lv_has ls 2 [(0, .ref (ad 59)), (1, .int x1)]) : W p l e rmX7_counted s m args below meth c H locs 0 0 (MQ below (gQi D (cCell ad cyI cyO) ad n s.heap.size Φ) args s 0 0 (gA ad n s.heap.size)) (F0 m 32 ls []) := by
  obtain ⟨hx, hb, hr, hml, hown, hts, hlk⟩ := id C
  unfold wbX7_counted_32 at h
  refine lv_iload_n hx hb dX7_counted_32 rfl (lv_at hl 1 rfl) ?_
  refine lv_bipush (v := (-4 : Int32)) hx hb dX7_counted_33 (by decide) ?_
  refine lv_icmp_ne (tgt := 48) hx hb dX7_counted_35 (by decide) (fun c1 => ?_) (fun c1 => ?_)
  · have h := h.2 c1
    refine lv_iload_n hx hb dX7_counted_48 rfl (lv_at hl 1 rfl) ?_
    exact retI C wd h dX7_counted_49
  · have h := h.1 c1
    refine lv_aload_n hx hb dX7_counted_38 rfl (lv_at hl 0 rfl) ?_
    refine lv_dup hx hb dX7_counted_39 rfl ?_
    refine getF C wd (k := 59) (Cn := RX7) (T := TX7) (N := 3) (v := .int (σ.1 1890)) (by omega) cc_X7 rfl 2 (by decide) rfl inX7 tw2_33 dX7_counted_40 ?_
    refine lv_iconst (v := (1 : Int32)) hx hb dX7_counted_43 (by decide) ?_
    refine lv_iadd hx hb dX7_counted_44 ?_
    refine putF C wd (k := 59) (Cn := RX7) (T := TX7) (N := 3) (σ' := setI σ 1890 ((σ.1 1890) + (1 : Int32))) (by omega) cc_X7 rfl tyX7_ok nmX7 2 (by decide) rfl (by decide +kernel) (Nat.le_of_ble_eq_true rfl) inX7 tw2_33 cs_X7_full dX7_counted_45 (fun H locs wd => ?_)
    obtain ⟨t2, et2⟩ : ∃ z : St, z = setI σ 1890 ((σ.1 1890) + (1 : Int32)) := ⟨_, rfl⟩
    rw [← et2] at wd
    have h := h t2 et2
    refine lv_iload_n hx hb dX7_counted_48 rfl (lv_at hl 1 rfl) ?_
    exact retI C wd h dX7_counted_49
def wbX7_counted_16 (Φ : Int32 → St → Prop) (x1 : Int32) (σ : St) : Prop :=
  ((x1 = (-3 : Int32) → (∀ t2 : St, t2 = setI σ 1889 ((σ.1 1889) + (1 : Int32)) → wbX7_counted_32 Φ x1 t2)) ∧ (¬ x1 = (-3 : Int32) → wbX7_counted_32 Φ x1 σ))
set_option maxHeartbeats 4000000 in
set_option maxRecDepth 100000 in
theorem blX7_counted_16 {p : Program} {l : Launch} {e : Env} {s : State} {m : MethodId} {args : Array Value} {below : List Frame} {meth : Method} {c : Code} (hn : 60 ≤ n) (C : Cx p s m args meth c cX7_counted 2 (some .int) RX7) {Φ : Int32 → St → Prop} {x1 : Int32} {σ : St} {H : Heap} {locs : List Loc} {ls : Array Slot} (h : wbX7_counted_16 Φ x1 σ) (wd : gWd D (tyL cyI cyO) (cCell ad cyI cyO) ad n s H locs σ) (hl : lv_has ls 2 [(0, .ref (ad 59)), (1, .int x1)]) : W p l e rmX7_counted s m args below meth c H locs 0 0 (MQ below (gQi D (cCell ad cyI cyO) ad n s.heap.size Φ) args s 0 0 (gA ad n s.heap.size)) (F0 m 16 ls []) := by
  obtain ⟨hx, hb, hr, hml, hown, hts, hlk⟩ := id C
  unfold wbX7_counted_16 at h
  refine lv_iload_n hx hb dX7_counted_16 rfl (lv_at hl 1 rfl) ?_
  refine lv_bipush (v := (-3 : Int32)) hx hb dX7_counted_17 (by decide) ?_
  refine lv_icmp_ne (tgt := 32) hx hb dX7_counted_19 (by decide) (fun c1 => ?_) (fun c1 => ?_)
  · have h := h.2 c1
    exact blX7_counted_32 hn C h wd (lv_sub hl [0, 1] rfl)
  · have h := h.1 c1
    refine lv_aload_n hx hb dX7_counted_22 rfl (lv_at hl 0 rfl) ?_
    refine lv_dup hx hb dX7_counted_23 rfl ?_
    refine getF C wd (k := 59) (Cn := RX7) (T := TX7) (N := 3) (v := .int (σ.1 1889)) (by omega) cc_X7 rfl 1 (by decide) rfl inX7 tw2_31 dX7_counted_24 ?_
    refine lv_iconst (v := (1 : Int32)) hx hb dX7_counted_27 (by decide) ?_
    refine lv_iadd hx hb dX7_counted_28 ?_
    refine putF C wd (k := 59) (Cn := RX7) (T := TX7) (N := 3) (σ' := setI σ 1889 ((σ.1 1889) + (1 : Int32))) (by omega) cc_X7 rfl tyX7_ok nmX7 1 (by decide) rfl (by decide +kernel) (Nat.le_of_ble_eq_true rfl) inX7 tw2_31 cs_X7_no dX7_counted_29 (fun H locs wd => ?_)
    obtain ⟨t2, et2⟩ : ∃ z : St, z = setI σ 1889 ((σ.1 1889) + (1 : Int32)) := ⟨_, rfl⟩
    rw [← et2] at wd
    have h := h t2 et2
    exact blX7_counted_32 hn C h wd (lv_sub hl [0, 1] rfl)
def wpX7_counted (x1 : Int32) (σ : St) (Φ : Int32 → St → Prop) : Prop :=
  ((x1 = (-2 : Int32) → (∀ t2 : St, t2 = setI σ 1888 ((σ.1 1888) + (1 : Int32)) → wbX7_counted_16 Φ x1 t2)) ∧ (¬ x1 = (-2 : Int32) → wbX7_counted_16 Φ x1 σ))
set_option maxHeartbeats 4000000 in
set_option maxRecDepth 100000 in
theorem cmX7_counted {D : va_G} {cyI cyO : ClassId} {ad : Nat → Nat} {n : Nat} {l : Launch} (hn : 60 ≤ n) {x1 : Int32} {σ : St} {sz : Nat} {Φ : Int32 → St → Prop} (h : wpX7_counted x1 σ Φ) : gMet D (tyL cyI cyO) (cCell ad cyI cyO) ad n l yX7_counted cX7_counted 2 (some .int) rmX7_counted [.ref (ad 59), .int x1] σ sz (gQi D (cCell ad cyI cyO) ad n sz Φ) := by
  refine gMet.of (by decide) (Nat.le_of_ble_eq_true rfl) ?_
  intro p e s m below meth c ls hsz C hl wd
  subst hsz
  have C : Cx p s m _ meth c cX7_counted 2 (some .int) RX7 := C
  obtain ⟨hx, hb, hr, hml, hown, hts, hlk⟩ := id C
  have hl : lv_has ls 2 [(0, .ref (ad 59)), (1, .int x1)] := hl
  unfold wpX7_counted at h
  refine lv_iload_n hx hb dX7_counted_0 rfl (lv_at hl 1 rfl) ?_
  refine lv_bipush (v := (-2 : Int32)) hx hb dX7_counted_1 (by decide) ?_
  refine lv_icmp_ne (tgt := 16) hx hb dX7_counted_3 (by decide) (fun c1 => ?_) (fun c1 => ?_)
  · have h := h.2 c1
    exact blX7_counted_16 hn C h wd (lv_sub hl [0, 1] rfl)
  · have h := h.1 c1
    refine lv_aload_n hx hb dX7_counted_6 rfl (lv_at hl 0 rfl) ?_
    refine lv_dup hx hb dX7_counted_7 rfl ?_
    refine getF C wd (k := 59) (Cn := RX7) (T := TX7) (N := 3) (v := .int (σ.1 1888)) (by omega) cc_X7 rfl 0 (by decide) rfl inX7 tw2_29 dX7_counted_8 ?_
    refine lv_iconst (v := (1 : Int32)) hx hb dX7_counted_11 (by decide) ?_
    refine lv_iadd hx hb dX7_counted_12 ?_
    refine putF C wd (k := 59) (Cn := RX7) (T := TX7) (N := 3) (σ' := setI σ 1888 ((σ.1 1888) + (1 : Int32))) (by omega) cc_X7 rfl tyX7_ok nmX7 0 (by decide) rfl (by decide +kernel) (Nat.le_of_ble_eq_true rfl) inX7 tw2_29 cs_X7_bad dX7_counted_13 (fun H locs wd => ?_)
    obtain ⟨t2, et2⟩ : ∃ z : St, z = setI σ 1888 ((σ.1 1888) + (1 : Int32)) := ⟨_, rfl⟩
    rw [← et2] at wd
    have h := h t2 et2
    exact blX7_counted_16 hn C h wd (lv_sub hl [0, 1] rfl)
abbrev rmX8_add : Room := rmOf 1 22
def wpX8_add (x1 : Int32) (σ : St) (Φ : Int32 → St → Prop) : Prop :=
  (((σ.1 1824) < (120 : Int32) → wpX9_put 52 (σ.1 1824) x1 σ (fun t2 => (∀ t3 : St, t3 = setI t2 1824 ((t2.1 1824) + (1 : Int32)) → Φ (t3.1 1824) t3))) ∧ (¬ (σ.1 1824) < (120 : Int32) → Φ (-4 : Int32) σ))
set_option maxHeartbeats 4000000 in
set_option maxRecDepth 100000 in
theorem cmX8_add {D : va_G} {cyI cyO : ClassId} {ad : Nat → Nat} {n : Nat} {l : Launch} (hn : 60 ≤ n) {x1 : Int32} {σ : St} {sz : Nat} {Φ : Int32 → St → Prop} (h : wpX8_add x1 σ Φ) : gMet D (tyL cyI cyO) (cCell ad cyI cyO) ad n l yX8_add cX8_add 2 (some .int) rmX8_add [.ref (ad 57), .int x1] σ sz (gQi D (cCell ad cyI cyO) ad n sz Φ) := by
  refine gMet.of (by decide) (Nat.le_of_ble_eq_true rfl) ?_
  intro p e s m below meth c ls hsz C hl wd
  subst hsz
  have C : Cx p s m _ meth c cX8_add 2 (some .int) RX8 := C
  obtain ⟨hx, hb, hr, hml, hown, hts, hlk⟩ := id C
  have hl : lv_has ls 2 [(0, .ref (ad 57)), (1, .int x1)] := hl
  unfold wpX8_add at h
  refine lv_aload_n hx hb dX8_add_0 rfl (lv_at hl 0 rfl) ?_
  refine getF C wd (k := 57) (Cn := RX8) (T := TX8) (N := 2) (v := .int (σ.1 1824)) (by omega) cc_X8 rfl 0 (by decide) rfl inX8 tw1_225 dX8_add_1 ?_
  refine lv_bipush (v := (120 : Int32)) hx hb dX8_add_4 (by decide) ?_
  refine lv_icmp_lt (tgt := 12) hx hb dX8_add_6 (by decide) (fun c1 => ?_) (fun c1 => ?_)
  · have h := h.1 c1
    refine lv_aload_n hx hb dX8_add_12 rfl (lv_at hl 0 rfl) ?_
    refine getF C wd (k := 57) (Cn := RX8) (T := TX8) (N := 2) (v := .ref (ad 52)) (by omega) cc_X8 rfl 1 (by decide) rfl inX8 tw1_228 dX8_add_13 ?_
    refine lv_aload_n hx hb dX8_add_16 rfl (lv_at hl 0 rfl) ?_
    refine getF C wd (k := 57) (Cn := RX8) (T := TX8) (N := 2) (v := .int (σ.1 1824)) (by omega) cc_X8 rfl 0 (by decide) rfl inX8 tw1_225 dX8_add_17 ?_
    refine lv_iload_n hx hb dX8_add_20 rfl (lv_at hl 1 rfl) ?_
    refine gCv wd (gRunSN (y := yX9_put) (As := [.ref (ad 52), .int (σ.1 1824), .int x1]) (rest := []) C wd (cmX9_put (by omega) (by omega) (by omega) h) ⟨rfl, rfl⟩ gc_X9_put ns_58 tw1_1 tw1_188 nk_X9_put ⟨Nat.le_of_ble_eq_true rfl, Nat.le_of_ble_eq_true rfl⟩ hl.1 (Nat.le_of_ble_eq_true rfl) dX8_add_21 rfl) (fun t2 H locs h wd => ?_)
    try dsimp only at h
    refine lv_aload_n hx hb dX8_add_24 rfl (lv_at hl 0 rfl) ?_
    refine lv_dup hx hb dX8_add_25 rfl ?_
    refine getF C wd (k := 57) (Cn := RX8) (T := TX8) (N := 2) (v := .int (t2.1 1824)) (by omega) cc_X8 rfl 0 (by decide) rfl inX8 tw1_225 dX8_add_26 ?_
    refine lv_iconst (v := (1 : Int32)) hx hb dX8_add_29 (by decide) ?_
    refine lv_iadd hx hb dX8_add_30 ?_
    refine putF C wd (k := 57) (Cn := RX8) (T := TX8) (N := 2) (σ' := setI t2 1824 ((t2.1 1824) + (1 : Int32))) (by omega) cc_X8 rfl tyX8_ok nmX8 0 (by decide) rfl (by decide +kernel) (Nat.le_of_ble_eq_true rfl) inX8 tw1_225 cs_X8_length dX8_add_31 (fun H locs wd => ?_)
    obtain ⟨t3, et3⟩ : ∃ z : St, z = setI t2 1824 ((t2.1 1824) + (1 : Int32)) := ⟨_, rfl⟩
    rw [← et3] at wd
    have h := h t3 et3
    refine lv_aload_n hx hb dX8_add_34 rfl (lv_at hl 0 rfl) ?_
    refine getF C wd (k := 57) (Cn := RX8) (T := TX8) (N := 2) (v := .int (t3.1 1824)) (by omega) cc_X8 rfl 0 (by decide) rfl inX8 tw1_225 dX8_add_35 ?_
    exact retI C wd h dX8_add_38
  · have h := h.2 c1
    refine lv_bipush (v := (-4 : Int32)) hx hb dX8_add_9 (by decide) ?_
    exact retI C wd h dX8_add_11
abbrev rmX8_empty : Room := rmOf 0 0
def wpX8_empty (σ : St) (Φ : Int32 → St → Prop) : Prop :=
  (∀ y1 : Int32, y1 = σ.1 1824 → (∀ t2 : St, t2 = setI σ 1824 (0 : Int32) → Φ y1 t2))
set_option maxHeartbeats 4000000 in
set_option maxRecDepth 100000 in
theorem cmX8_empty {D : va_G} {cyI cyO : ClassId} {ad : Nat → Nat} {n : Nat} {l : Launch} (hn : 60 ≤ n) {σ : St} {sz : Nat} {Φ : Int32 → St → Prop} (h : wpX8_empty σ Φ) : gMet D (tyL cyI cyO) (cCell ad cyI cyO) ad n l yX8_empty cX8_empty 2 (some .int) rmX8_empty [.ref (ad 57)] σ sz (gQi D (cCell ad cyI cyO) ad n sz Φ) := by
  refine gMet.of (by decide) (Nat.le_of_ble_eq_true rfl) ?_
  intro p e s m below meth c ls hsz C hl wd
  subst hsz
  have C : Cx p s m _ meth c cX8_empty 2 (some .int) RX8 := C
  obtain ⟨hx, hb, hr, hml, hown, hts, hlk⟩ := id C
  have hl : lv_has ls 2 [(0, .ref (ad 57))] := hl
  unfold wpX8_empty at h
  refine lv_aload_n hx hb dX8_empty_0 rfl (lv_at hl 0 rfl) ?_
  refine getF C wd (k := 57) (Cn := RX8) (T := TX8) (N := 2) (v := .int (σ.1 1824)) (by omega) cc_X8 rfl 0 (by decide) rfl inX8 tw1_225 dX8_empty_1 ?_
  refine lv_topi (fun y1 ey1 => ?_)
  have h := h y1 ey1
  refine lv_istore_n (lv' := [(1, .int y1), (0, .ref (ad 57))]) hx hb dX8_empty_4 rfl hl (by decide) rfl (fun ls hl => ?_)
  refine lv_aload_n hx hb dX8_empty_5 rfl (lv_at hl 1 rfl) ?_
  refine lv_iconst (v := (0 : Int32)) hx hb dX8_empty_6 (by decide) ?_
  refine putF C wd (k := 57) (Cn := RX8) (T := TX8) (N := 2) (σ' := setI σ 1824 (0 : Int32)) (by omega) cc_X8 rfl tyX8_ok nmX8 0 (by decide) rfl (by decide +kernel) (Nat.le_of_ble_eq_true rfl) inX8 tw1_225 cs_X8_length dX8_empty_7 (fun H locs wd => ?_)
  obtain ⟨t2, et2⟩ : ∃ z : St, z = setI σ 1824 (0 : Int32) := ⟨_, rfl⟩
  rw [← et2] at wd
  have h := h t2 et2
  refine lv_iload_n hx hb dX8_empty_10 rfl (lv_at hl 0 rfl) ?_
  exact retI C wd h dX8_empty_11
abbrev rmX9_clerks : Room := rmOf 4 89
def wpX9_clerks (x1 : Int32) (σ : St) (Φ : Int32 → St → Prop) : Prop :=
  wpX9_within x1 (2 : Int32) (5 : Int32) σ (fun r2 t1 => ((r2 = 0 → wpX7_counted (-2 : Int32) t1 (fun r7 t6 => Φ r7 t6)) ∧ (¬ r2 = 0 → (∀ y4 : Int32, y4 = t1.1 0 → wpX2_begin x1 t1 (fun t5 => Φ y4 t5)))))
set_option maxHeartbeats 4000000 in
set_option maxRecDepth 100000 in
theorem cmX9_clerks {D : va_G} {cyI cyO : ClassId} {ad : Nat → Nat} {n : Nat} {l : Launch} (hn : 60 ≤ n) {x1 : Int32} {σ : St} {sz : Nat} {Φ : Int32 → St → Prop} (h : wpX9_clerks x1 σ Φ) : gMet D (tyL cyI cyO) (cCell ad cyI cyO) ad n l yX9_clerks cX9_clerks 3 (some .int) rmX9_clerks [.ref (ad 56), .int x1] σ sz (gQi D (cCell ad cyI cyO) ad n sz Φ) := by
  refine gMet.of (by decide) (Nat.le_of_ble_eq_true rfl) ?_
  intro p e s m below meth c ls hsz C hl wd
  subst hsz
  have C : Cx p s m _ meth c cX9_clerks 3 (some .int) RX9 := C
  obtain ⟨hx, hb, hr, hml, hown, hts, hlk⟩ := id C
  have hl : lv_has ls 3 [(0, .ref (ad 56)), (1, .int x1)] := hl
  unfold wpX9_clerks at h
  refine lv_iload_n hx hb dX9_clerks_0 rfl (lv_at hl 1 rfl) ?_
  refine lv_iconst (v := (2 : Int32)) hx hb dX9_clerks_1 (by decide) ?_
  refine lv_iconst (v := (5 : Int32)) hx hb dX9_clerks_2 (by decide) ?_
  refine gCi wd (gRunS (y := yX9_within) (As := [.int x1, .int (2 : Int32), .int (5 : Int32)]) (rest := []) C wd (cmX9_within h) ⟨rfl, rfl⟩ gd_X9_37 nk_X9_within ⟨Nat.le_of_ble_eq_true rfl, Nat.le_of_ble_eq_true rfl⟩ hl.1 (Nat.le_of_ble_eq_true rfl) dX9_clerks_3 rfl) (fun r2 t1 H locs h wd => ?_)
  try dsimp only at h
  refine lv_if_ne (tgt := 19) hx hb dX9_clerks_6 (by decide) (fun c3 => ?_) (fun c3 => ?_)
  · have h := h.2 c3
    refine lv_aload_n hx hb dX9_clerks_19 rfl (lv_at hl 0 rfl) ?_
    refine getF C wd (k := 56) (Cn := RX9) (T := TX9) (N := 4) (v := .ref (ad 0)) (by omega) cc_X9 rfl 0 (by decide) rfl inX9 tw2_42 dX9_clerks_20 ?_
    refine getN C wd (k := 0) (Cn := RX2) (T := TX2) (N := 6) (v := .int (t1.1 0)) (by omega) cc_X2 rfl 0 (by decide) rfl inX2 ns_31 dX9_clerks_23 ?_
    refine lv_topi (fun y4 ey4 => ?_)
    have h := h y4 ey4
    refine lv_istore_n (lv' := [(2, .int y4), (0, .ref (ad 56)), (1, .int x1)]) hx hb dX9_clerks_26 rfl hl (by decide) rfl (fun ls hl => ?_)
    refine lv_aload_n hx hb dX9_clerks_27 rfl (lv_at hl 1 rfl) ?_
    refine getF C wd (k := 56) (Cn := RX9) (T := TX9) (N := 4) (v := .ref (ad 0)) (by omega) cc_X9 rfl 0 (by decide) rfl inX9 tw2_42 dX9_clerks_28 ?_
    refine lv_iload_n hx hb dX9_clerks_31 rfl (lv_at hl 2 rfl) ?_
    refine gCv wd (gRunV (y := yX2_begin) (k := 0) (As := [.int x1]) (rest := []) C wd (cmX2_begin (by omega) h) ⟨rfl, rfl⟩ gd_X9_49 nk_X2_begin ⟨Nat.le_of_ble_eq_true rfl, Nat.le_of_ble_eq_true rfl⟩ (by omega) cc_X2 rfl rfl hl.1 (Nat.le_of_ble_eq_true rfl) dX9_clerks_32 rfl) (fun t5 H locs h wd => ?_)
    try dsimp only at h
    refine lv_iload_n hx hb dX9_clerks_35 rfl (lv_at hl 0 rfl) ?_
    exact retI C wd h dX9_clerks_36
  · have h := h.1 c3
    refine lv_aload_n hx hb dX9_clerks_9 rfl (lv_at hl 0 rfl) ?_
    refine getF C wd (k := 56) (Cn := RX9) (T := TX9) (N := 4) (v := .ref (ad 59)) (by omega) cc_X9 rfl 3 (by decide) rfl inX9 tw2_45 dX9_clerks_10 ?_
    refine lv_bipush (v := (-2 : Int32)) hx hb dX9_clerks_13 (by decide) ?_
    refine gCi wd (gRunV (y := yX7_counted) (k := 59) (As := [.int (-2 : Int32)]) (rest := []) C wd (cmX7_counted (by omega) h) ⟨rfl, rfl⟩ gd_X9_41 nk_X7_counted ⟨Nat.le_of_ble_eq_true rfl, Nat.le_of_ble_eq_true rfl⟩ (by omega) cc_X7 rfl rfl hl.1 (Nat.le_of_ble_eq_true rfl) dX9_clerks_15 rfl) (fun r7 t6 H locs h wd => ?_)
    try dsimp only at h
    exact retI C wd h dX9_clerks_18
abbrev rmX9_work : Room := rmOf 5 116
def wbX9_work_50 (Φ : Int32 → St → Prop) (z1 : Int32) (σ : St) : Prop :=
  wpX7_counted z1 σ (fun r2 t1 => Φ r2 t1)
set_option maxHeartbeats 4000000 in
set_option maxRecDepth 100000 in
theorem blX9_work_50 {p : Program} {l : Launch} {e : Env} {s : State} {m : MethodId} {args : Array Value} {below : List Frame} {meth : Method} {c : Code} (hn : 60 ≤ n) (C : Cx p s m args meth c cX9_work 4 (some .int) RX9) {Φ : Int32 → St → Prop} {z1 : Int32} {σ : St} {H : Heap} {locs : List Loc} {ls : Array Slot} (h : wbX9_work_50 Φ z1 σ) (wd : gWd D (tyL cyI cyO) (cCell ad cyI cyO) ad n s H locs σ) (hl : lv_has ls 4 []) : W p l e rmX9_work s m args below meth c H locs 0 0 (MQ below (gQi D (cCell ad cyI cyO) ad n s.heap.size Φ) args s 0 0 (gA ad n s.heap.size)) (F0 m 50 ls [.int z1, .ref (ad 59)]) := by
  obtain ⟨hx, hb, hr, hml, hown, hts, hlk⟩ := id C
  unfold wbX9_work_50 at h
  refine gCi wd (gRunV (y := yX7_counted) (k := 59) (As := [.int z1]) (rest := []) C wd (cmX7_counted (by omega) h) ⟨rfl, rfl⟩ gd_X9_41 nk_X7_counted ⟨Nat.le_of_ble_eq_true rfl, Nat.le_of_ble_eq_true rfl⟩ (by omega) cc_X7 rfl rfl hl.1 (Nat.le_of_ble_eq_true rfl) dX9_work_50 rfl) (fun r2 t1 H locs h wd => ?_)
  try dsimp only at h
  exact retI C wd h dX9_work_53
def wbX9_work_27 (Φ : Int32 → St → Prop) (x1 : Int32) (x2 : Int32) (z0 : Int32) (σ : St) : Prop :=
  ((z0 = 0 → wbX9_work_50 Φ (-2 : Int32) σ) ∧ (¬ z0 = 0 → wpX2_addWork x1 x2 σ (fun r3 t2 => wbX9_work_50 Φ r3 t2)))
set_option maxHeartbeats 4000000 in
set_option maxRecDepth 100000 in
theorem blX9_work_27 {p : Program} {l : Launch} {e : Env} {s : State} {m : MethodId} {args : Array Value} {below : List Frame} {meth : Method} {c : Code} (hn : 60 ≤ n) (C : Cx p s m args meth c cX9_work 4 (some .int) RX9) {Φ : Int32 → St → Prop} {x1 : Int32} {x2 : Int32} {z0 : Int32} {σ : St} {H : Heap} {locs : List Loc} {ls : Array Slot} (h : wbX9_work_27 Φ x1 x2 z0 σ) (wd : gWd D (tyL cyI cyO) (cCell ad cyI cyO) ad n s H locs σ) (hl : lv_has ls 4 [(0, .ref (ad 56)), (1, .int x1), (2, .int x2)]) : W p l e rmX9_work s m args below meth c H locs 0 0 (MQ below (gQi D (cCell ad cyI cyO) ad n s.heap.size Φ) args s 0 0 (gA ad n s.heap.size)) (F0 m 27 ls [.int z0]) := by
  obtain ⟨hx, hb, hr, hml, hown, hts, hlk⟩ := id C
  unfold wbX9_work_27 at h
  refine lv_istore_n (lv' := [(3, .int z0), (0, .ref (ad 56)), (1, .int x1), (2, .int x2)]) hx hb dX9_work_27 rfl hl (by decide) rfl (fun ls hl => ?_)
  refine lv_aload_n hx hb dX9_work_28 rfl (lv_at hl 1 rfl) ?_
  refine getF C wd (k := 56) (Cn := RX9) (T := TX9) (N := 4) (v := .ref (ad 59)) (by omega) cc_X9 rfl 3 (by decide) rfl inX9 tw2_45 dX9_work_29 ?_
  refine lv_iload_n hx hb dX9_work_32 rfl (lv_at hl 0 rfl) ?_
  refine lv_if_eq (tgt := 48) hx hb dX9_work_33 (by decide) (fun c1 => ?_) (fun c1 => ?_)
  · have h := h.1 c1
    refine lv_bipush (v := (-2 : Int32)) hx hb dX9_work_48 (by decide) ?_
    exact blX9_work_50 hn C h wd (lv_sub hl [] rfl)
  · have h := h.2 c1
    refine lv_aload_n hx hb dX9_work_36 rfl (lv_at hl 1 rfl) ?_
    refine getF C wd (k := 56) (Cn := RX9) (T := TX9) (N := 4) (v := .ref (ad 0)) (by omega) cc_X9 rfl 0 (by decide) rfl inX9 tw2_42 dX9_work_37 ?_
    refine lv_iload_n hx hb dX9_work_40 rfl (lv_at hl 2 rfl) ?_
    refine lv_iload_n hx hb dX9_work_41 rfl (lv_at hl 3 rfl) ?_
    refine gCi wd (gRunV (y := yX2_addWork) (k := 0) (As := [.int x1, .int x2]) (rest := [.ref (ad 59)]) C wd (cmX2_addWork (by omega) h) ⟨rfl, rfl⟩ gd_X9_57 nk_X2_addWork ⟨Nat.le_of_ble_eq_true rfl, Nat.le_of_ble_eq_true rfl⟩ (by omega) cc_X2 rfl rfl hl.1 (Nat.le_of_ble_eq_true rfl) dX9_work_42 rfl) (fun r3 t2 H locs h wd => ?_)
    try dsimp only at h
    refine lv_goto (tgt := 50) hx hb dX9_work_45 (by decide) ?_
    exact blX9_work_50 hn C h wd (lv_sub hl [] rfl)
def wbX9_work_26 (Φ : Int32 → St → Prop) (x1 : Int32) (x2 : Int32) (σ : St) : Prop :=
  wbX9_work_27 Φ x1 x2 (0 : Int32) σ
set_option maxHeartbeats 4000000 in
set_option maxRecDepth 100000 in
theorem blX9_work_26 {p : Program} {l : Launch} {e : Env} {s : State} {m : MethodId} {args : Array Value} {below : List Frame} {meth : Method} {c : Code} (hn : 60 ≤ n) (C : Cx p s m args meth c cX9_work 4 (some .int) RX9) {Φ : Int32 → St → Prop} {x1 : Int32} {x2 : Int32} {σ : St} {H : Heap} {locs : List Loc} {ls : Array Slot} (h : wbX9_work_26 Φ x1 x2 σ) (wd : gWd D (tyL cyI cyO) (cCell ad cyI cyO) ad n s H locs σ) (hl : lv_has ls 4 [(0, .ref (ad 56)), (1, .int x1), (2, .int x2)]) : W p l e rmX9_work s m args below meth c H locs 0 0 (MQ below (gQi D (cCell ad cyI cyO) ad n s.heap.size Φ) args s 0 0 (gA ad n s.heap.size)) (F0 m 26 ls []) := by
  obtain ⟨hx, hb, hr, hml, hown, hts, hlk⟩ := id C
  unfold wbX9_work_26 at h
  refine lv_iconst (v := (0 : Int32)) hx hb dX9_work_26 (by decide) ?_
  exact blX9_work_27 hn C h wd (lv_sub hl [0, 1, 2] rfl)
def wpX9_work (x1 : Int32) (x2 : Int32) (σ : St) (Φ : Int32 → St → Prop) : Prop :=
  wpX2_hasClerk x1 σ (fun r2 t1 => ((r2 = 0 → wbX9_work_26 Φ x1 x2 t1) ∧ (¬ r2 = 0 → wpX9_within x2 (0 : Int32) (999 : Int32) t1 (fun r5 t4 => ((r5 = 0 → wbX9_work_26 Φ x1 x2 t4) ∧ (¬ r5 = 0 → wbX9_work_27 Φ x1 x2 (1 : Int32) t4))))))
set_option maxHeartbeats 4000000 in
set_option maxRecDepth 100000 in
theorem cmX9_work {D : va_G} {cyI cyO : ClassId} {ad : Nat → Nat} {n : Nat} {l : Launch} (hn : 60 ≤ n) {x1 : Int32} {x2 : Int32} {σ : St} {sz : Nat} {Φ : Int32 → St → Prop} (h : wpX9_work x1 x2 σ Φ) : gMet D (tyL cyI cyO) (cCell ad cyI cyO) ad n l yX9_work cX9_work 4 (some .int) rmX9_work [.ref (ad 56), .int x1, .int x2] σ sz (gQi D (cCell ad cyI cyO) ad n sz Φ) := by
  refine gMet.of (by decide) (Nat.le_of_ble_eq_true rfl) ?_
  intro p e s m below meth c ls hsz C hl wd
  subst hsz
  have C : Cx p s m _ meth c cX9_work 4 (some .int) RX9 := C
  obtain ⟨hx, hb, hr, hml, hown, hts, hlk⟩ := id C
  have hl : lv_has ls 4 [(0, .ref (ad 56)), (1, .int x1), (2, .int x2)] := hl
  unfold wpX9_work at h
  refine lv_aload_n hx hb dX9_work_0 rfl (lv_at hl 0 rfl) ?_
  refine getF C wd (k := 56) (Cn := RX9) (T := TX9) (N := 4) (v := .ref (ad 0)) (by omega) cc_X9 rfl 0 (by decide) rfl inX9 tw2_42 dX9_work_1 ?_
  refine lv_iload_n hx hb dX9_work_4 rfl (lv_at hl 1 rfl) ?_
  refine gCi wd (gRunV (y := yX2_hasClerk) (k := 0) (As := [.int x1]) (rest := []) C wd (cmX2_hasClerk (by omega) h) ⟨rfl, rfl⟩ gd_X9_53 nk_X2_hasClerk ⟨Nat.le_of_ble_eq_true rfl, Nat.le_of_ble_eq_true rfl⟩ (by omega) cc_X2 rfl rfl hl.1 (Nat.le_of_ble_eq_true rfl) dX9_work_5 rfl) (fun r2 t1 H locs h wd => ?_)
  try dsimp only at h
  refine lv_if_eq (tgt := 26) hx hb dX9_work_8 (by decide) (fun c3 => ?_) (fun c3 => ?_)
  · have h := h.1 c3
    exact blX9_work_26 hn C h wd (lv_sub hl [0, 1, 2] rfl)
  · have h := h.2 c3
    refine lv_iload_n hx hb dX9_work_11 rfl (lv_at hl 2 rfl) ?_
    refine lv_iconst (v := (0 : Int32)) hx hb dX9_work_12 (by decide) ?_
    refine lv_sipush (v := (999 : Int32)) hx hb dX9_work_13 (by decide) ?_
    refine gCi wd (gRunS (y := yX9_within) (As := [.int x2, .int (0 : Int32), .int (999 : Int32)]) (rest := []) C wd (cmX9_within h) ⟨rfl, rfl⟩ gd_X9_37 nk_X9_within ⟨Nat.le_of_ble_eq_true rfl, Nat.le_of_ble_eq_true rfl⟩ hl.1 (Nat.le_of_ble_eq_true rfl) dX9_work_16 rfl) (fun r5 t4 H locs h wd => ?_)
    try dsimp only at h
    refine lv_if_eq (tgt := 26) hx hb dX9_work_19 (by decide) (fun c6 => ?_) (fun c6 => ?_)
    · have h := h.1 c6
      exact blX9_work_26 hn C h wd (lv_sub hl [0, 1, 2] rfl)
    · have h := h.2 c6
      refine lv_iconst (v := (1 : Int32)) hx hb dX9_work_22 (by decide) ?_
      refine lv_goto (tgt := 27) hx hb dX9_work_23 (by decide) ?_
      exact blX9_work_27 hn C h wd (lv_sub hl [0, 1, 2] rfl)
abbrev rmX9_send : Room := rmOf 5 114
def wbX9_send_55 (Φ : Int32 → St → Prop) (z1 : Int32) (σ : St) : Prop :=
  wpX7_counted z1 σ (fun r2 t1 => Φ r2 t1)
set_option maxHeartbeats 4000000 in
set_option maxRecDepth 100000 in
theorem blX9_send_55 {p : Program} {l : Launch} {e : Env} {s : State} {m : MethodId} {args : Array Value} {below : List Frame} {meth : Method} {c : Code} (hn : 60 ≤ n) (C : Cx p s m args meth c cX9_send 4 (some .int) RX9) {Φ : Int32 → St → Prop} {z1 : Int32} {σ : St} {H : Heap} {locs : List Loc} {ls : Array Slot} (h : wbX9_send_55 Φ z1 σ) (wd : gWd D (tyL cyI cyO) (cCell ad cyI cyO) ad n s H locs σ) (hl : lv_has ls 4 []) : W p l e rmX9_send s m args below meth c H locs 0 0 (MQ below (gQi D (cCell ad cyI cyO) ad n s.heap.size Φ) args s 0 0 (gA ad n s.heap.size)) (F0 m 55 ls [.int z1, .ref (ad 59)]) := by
  obtain ⟨hx, hb, hr, hml, hown, hts, hlk⟩ := id C
  unfold wbX9_send_55 at h
  refine gCi wd (gRunV (y := yX7_counted) (k := 59) (As := [.int z1]) (rest := []) C wd (cmX7_counted (by omega) h) ⟨rfl, rfl⟩ gd_X9_41 nk_X7_counted ⟨Nat.le_of_ble_eq_true rfl, Nat.le_of_ble_eq_true rfl⟩ (by omega) cc_X7 rfl rfl hl.1 (Nat.le_of_ble_eq_true rfl) dX9_send_55 rfl) (fun r2 t1 H locs h wd => ?_)
  try dsimp only at h
  exact retI C wd h dX9_send_58
def wbX9_send_32 (Φ : Int32 → St → Prop) (x1 : Int32) (x2 : Int32) (z0 : Int32) (σ : St) : Prop :=
  ((z0 = 0 → wbX9_send_55 Φ (-2 : Int32) σ) ∧ (¬ z0 = 0 → wpX2_sendLetter x1 x2 σ (fun r3 t2 => wbX9_send_55 Φ r3 t2)))
set_option maxHeartbeats 4000000 in
set_option maxRecDepth 100000 in
theorem blX9_send_32 {p : Program} {l : Launch} {e : Env} {s : State} {m : MethodId} {args : Array Value} {below : List Frame} {meth : Method} {c : Code} (hn : 60 ≤ n) (C : Cx p s m args meth c cX9_send 4 (some .int) RX9) {Φ : Int32 → St → Prop} {x1 : Int32} {x2 : Int32} {z0 : Int32} {σ : St} {H : Heap} {locs : List Loc} {ls : Array Slot} (h : wbX9_send_32 Φ x1 x2 z0 σ) (wd : gWd D (tyL cyI cyO) (cCell ad cyI cyO) ad n s H locs σ) (hl : lv_has ls 4 [(0, .ref (ad 56)), (1, .int x1), (2, .int x2)]) : W p l e rmX9_send s m args below meth c H locs 0 0 (MQ below (gQi D (cCell ad cyI cyO) ad n s.heap.size Φ) args s 0 0 (gA ad n s.heap.size)) (F0 m 32 ls [.int z0]) := by
  obtain ⟨hx, hb, hr, hml, hown, hts, hlk⟩ := id C
  unfold wbX9_send_32 at h
  refine lv_istore_n (lv' := [(3, .int z0), (0, .ref (ad 56)), (1, .int x1), (2, .int x2)]) hx hb dX9_send_32 rfl hl (by decide) rfl (fun ls hl => ?_)
  refine lv_aload_n hx hb dX9_send_33 rfl (lv_at hl 1 rfl) ?_
  refine getF C wd (k := 56) (Cn := RX9) (T := TX9) (N := 4) (v := .ref (ad 59)) (by omega) cc_X9 rfl 3 (by decide) rfl inX9 tw2_45 dX9_send_34 ?_
  refine lv_iload_n hx hb dX9_send_37 rfl (lv_at hl 0 rfl) ?_
  refine lv_if_eq (tgt := 53) hx hb dX9_send_38 (by decide) (fun c1 => ?_) (fun c1 => ?_)
  · have h := h.1 c1
    refine lv_bipush (v := (-2 : Int32)) hx hb dX9_send_53 (by decide) ?_
    exact blX9_send_55 hn C h wd (lv_sub hl [] rfl)
  · have h := h.2 c1
    refine lv_aload_n hx hb dX9_send_41 rfl (lv_at hl 1 rfl) ?_
    refine getF C wd (k := 56) (Cn := RX9) (T := TX9) (N := 4) (v := .ref (ad 0)) (by omega) cc_X9 rfl 0 (by decide) rfl inX9 tw2_42 dX9_send_42 ?_
    refine lv_iload_n hx hb dX9_send_45 rfl (lv_at hl 2 rfl) ?_
    refine lv_iload_n hx hb dX9_send_46 rfl (lv_at hl 3 rfl) ?_
    refine gCi wd (gRunV (y := yX2_sendLetter) (k := 0) (As := [.int x1, .int x2]) (rest := [.ref (ad 59)]) C wd (cmX2_sendLetter (by omega) h) ⟨rfl, rfl⟩ gd_X9_61 nk_X2_sendLetter ⟨Nat.le_of_ble_eq_true rfl, Nat.le_of_ble_eq_true rfl⟩ (by omega) cc_X2 rfl rfl hl.1 (Nat.le_of_ble_eq_true rfl) dX9_send_47 rfl) (fun r3 t2 H locs h wd => ?_)
    try dsimp only at h
    refine lv_goto (tgt := 55) hx hb dX9_send_50 (by decide) ?_
    exact blX9_send_55 hn C h wd (lv_sub hl [] rfl)
def wbX9_send_31 (Φ : Int32 → St → Prop) (x1 : Int32) (x2 : Int32) (σ : St) : Prop :=
  wbX9_send_32 Φ x1 x2 (0 : Int32) σ
set_option maxHeartbeats 4000000 in
set_option maxRecDepth 100000 in
theorem blX9_send_31 {p : Program} {l : Launch} {e : Env} {s : State} {m : MethodId} {args : Array Value} {below : List Frame} {meth : Method} {c : Code} (hn : 60 ≤ n) (C : Cx p s m args meth c cX9_send 4 (some .int) RX9) {Φ : Int32 → St → Prop} {x1 : Int32} {x2 : Int32} {σ : St} {H : Heap} {locs : List Loc} {ls : Array Slot} (h : wbX9_send_31 Φ x1 x2 σ) (wd : gWd D (tyL cyI cyO) (cCell ad cyI cyO) ad n s H locs σ) (hl : lv_has ls 4 [(0, .ref (ad 56)), (1, .int x1), (2, .int x2)]) : W p l e rmX9_send s m args below meth c H locs 0 0 (MQ below (gQi D (cCell ad cyI cyO) ad n s.heap.size Φ) args s 0 0 (gA ad n s.heap.size)) (F0 m 31 ls []) := by
  obtain ⟨hx, hb, hr, hml, hown, hts, hlk⟩ := id C
  unfold wbX9_send_31 at h
  refine lv_iconst (v := (0 : Int32)) hx hb dX9_send_31 (by decide) ?_
  exact blX9_send_32 hn C h wd (lv_sub hl [0, 1, 2] rfl)
def wpX9_send (x1 : Int32) (x2 : Int32) (σ : St) (Φ : Int32 → St → Prop) : Prop :=
  wpX2_hasClerk x1 σ (fun r2 t1 => ((r2 = 0 → wbX9_send_31 Φ x1 x2 t1) ∧ (¬ r2 = 0 → wpX2_hasClerk x2 t1 (fun r5 t4 => ((r5 = 0 → wbX9_send_31 Φ x1 x2 t4) ∧ (¬ r5 = 0 → ((x1 = x2 → wbX9_send_31 Φ x1 x2 t4) ∧ (¬ x1 = x2 → wbX9_send_32 Φ x1 x2 (1 : Int32) t4))))))))
set_option maxHeartbeats 4000000 in
set_option maxRecDepth 100000 in
theorem cmX9_send {D : va_G} {cyI cyO : ClassId} {ad : Nat → Nat} {n : Nat} {l : Launch} (hn : 60 ≤ n) {x1 : Int32} {x2 : Int32} {σ : St} {sz : Nat} {Φ : Int32 → St → Prop} (h : wpX9_send x1 x2 σ Φ) : gMet D (tyL cyI cyO) (cCell ad cyI cyO) ad n l yX9_send cX9_send 4 (some .int) rmX9_send [.ref (ad 56), .int x1, .int x2] σ sz (gQi D (cCell ad cyI cyO) ad n sz Φ) := by
  refine gMet.of (by decide) (Nat.le_of_ble_eq_true rfl) ?_
  intro p e s m below meth c ls hsz C hl wd
  subst hsz
  have C : Cx p s m _ meth c cX9_send 4 (some .int) RX9 := C
  obtain ⟨hx, hb, hr, hml, hown, hts, hlk⟩ := id C
  have hl : lv_has ls 4 [(0, .ref (ad 56)), (1, .int x1), (2, .int x2)] := hl
  unfold wpX9_send at h
  refine lv_aload_n hx hb dX9_send_0 rfl (lv_at hl 0 rfl) ?_
  refine getF C wd (k := 56) (Cn := RX9) (T := TX9) (N := 4) (v := .ref (ad 0)) (by omega) cc_X9 rfl 0 (by decide) rfl inX9 tw2_42 dX9_send_1 ?_
  refine lv_iload_n hx hb dX9_send_4 rfl (lv_at hl 1 rfl) ?_
  refine gCi wd (gRunV (y := yX2_hasClerk) (k := 0) (As := [.int x1]) (rest := []) C wd (cmX2_hasClerk (by omega) h) ⟨rfl, rfl⟩ gd_X9_53 nk_X2_hasClerk ⟨Nat.le_of_ble_eq_true rfl, Nat.le_of_ble_eq_true rfl⟩ (by omega) cc_X2 rfl rfl hl.1 (Nat.le_of_ble_eq_true rfl) dX9_send_5 rfl) (fun r2 t1 H locs h wd => ?_)
  try dsimp only at h
  refine lv_if_eq (tgt := 31) hx hb dX9_send_8 (by decide) (fun c3 => ?_) (fun c3 => ?_)
  · have h := h.1 c3
    exact blX9_send_31 hn C h wd (lv_sub hl [0, 1, 2] rfl)
  · have h := h.2 c3
    refine lv_aload_n hx hb dX9_send_11 rfl (lv_at hl 0 rfl) ?_
    refine getF C wd (k := 56) (Cn := RX9) (T := TX9) (N := 4) (v := .ref (ad 0)) (by omega) cc_X9 rfl 0 (by decide) rfl inX9 tw2_42 dX9_send_12 ?_
    refine lv_iload_n hx hb dX9_send_15 rfl (lv_at hl 2 rfl) ?_
    refine gCi wd (gRunV (y := yX2_hasClerk) (k := 0) (As := [.int x2]) (rest := []) C wd (cmX2_hasClerk (by omega) h) ⟨rfl, rfl⟩ gd_X9_53 nk_X2_hasClerk ⟨Nat.le_of_ble_eq_true rfl, Nat.le_of_ble_eq_true rfl⟩ (by omega) cc_X2 rfl rfl hl.1 (Nat.le_of_ble_eq_true rfl) dX9_send_16 rfl) (fun r5 t4 H locs h wd => ?_)
    try dsimp only at h
    refine lv_if_eq (tgt := 31) hx hb dX9_send_19 (by decide) (fun c6 => ?_) (fun c6 => ?_)
    · have h := h.1 c6
      exact blX9_send_31 hn C h wd (lv_sub hl [0, 1, 2] rfl)
    · have h := h.2 c6
      refine lv_iload_n hx hb dX9_send_22 rfl (lv_at hl 1 rfl) ?_
      refine lv_iload_n hx hb dX9_send_23 rfl (lv_at hl 2 rfl) ?_
      refine lv_icmp_eq (tgt := 31) hx hb dX9_send_24 (by decide) (fun c7 => ?_) (fun c7 => ?_)
      · have h := h.1 c7
        exact blX9_send_31 hn C h wd (lv_sub hl [0, 1, 2] rfl)
      · have h := h.2 c7
        refine lv_iconst (v := (1 : Int32)) hx hb dX9_send_27 (by decide) ?_
        refine lv_goto (tgt := 32) hx hb dX9_send_28 (by decide) ?_
        exact blX9_send_32 hn C h wd (lv_sub hl [0, 1, 2] rfl)
abbrev rmX9_get : Room := rmOf 5 120
def wbX9_get_43 (Φ : Int32 → St → Prop) (z1 : Int32) (σ : St) : Prop :=
  wpX7_counted z1 σ (fun r2 t1 => Φ r2 t1)
set_option maxHeartbeats 4000000 in
set_option maxRecDepth 100000 in
theorem blX9_get_43 {p : Program} {l : Launch} {e : Env} {s : State} {m : MethodId} {args : Array Value} {below : List Frame} {meth : Method} {c : Code} (hn : 60 ≤ n) (C : Cx p s m args meth c cX9_get 4 (some .int) RX9) {Φ : Int32 → St → Prop} {z1 : Int32} {σ : St} {H : Heap} {locs : List Loc} {ls : Array Slot} (h : wbX9_get_43 Φ z1 σ) (wd : gWd D (tyL cyI cyO) (cCell ad cyI cyO) ad n s H locs σ) (hl : lv_has ls 4 []) : W p l e rmX9_get s m args below meth c H locs 0 0 (MQ below (gQi D (cCell ad cyI cyO) ad n s.heap.size Φ) args s 0 0 (gA ad n s.heap.size)) (F0 m 43 ls [.int z1, .ref (ad 59)]) := by
  obtain ⟨hx, hb, hr, hml, hown, hts, hlk⟩ := id C
  unfold wbX9_get_43 at h
  refine gCi wd (gRunV (y := yX7_counted) (k := 59) (As := [.int z1]) (rest := []) C wd (cmX7_counted (by omega) h) ⟨rfl, rfl⟩ gd_X9_41 nk_X7_counted ⟨Nat.le_of_ble_eq_true rfl, Nat.le_of_ble_eq_true rfl⟩ (by omega) cc_X7 rfl rfl hl.1 (Nat.le_of_ble_eq_true rfl) dX9_get_43 rfl) (fun r2 t1 H locs h wd => ?_)
  try dsimp only at h
  exact retI C wd h dX9_get_46
def wbX9_get_20 (Φ : Int32 → St → Prop) (x1 : Int32) (x2 : Int32) (z0 : Int32) (σ : St) : Prop :=
  ((z0 = 0 → wbX9_get_43 Φ (-2 : Int32) σ) ∧ (¬ z0 = 0 → wpX2_takeLetter x1 x2 σ (fun r3 t2 => wbX9_get_43 Φ r3 t2)))
set_option maxHeartbeats 4000000 in
set_option maxRecDepth 100000 in
theorem blX9_get_20 {p : Program} {l : Launch} {e : Env} {s : State} {m : MethodId} {args : Array Value} {below : List Frame} {meth : Method} {c : Code} (hn : 60 ≤ n) (C : Cx p s m args meth c cX9_get 4 (some .int) RX9) {Φ : Int32 → St → Prop} {x1 : Int32} {x2 : Int32} {z0 : Int32} {σ : St} {H : Heap} {locs : List Loc} {ls : Array Slot} (h : wbX9_get_20 Φ x1 x2 z0 σ) (wd : gWd D (tyL cyI cyO) (cCell ad cyI cyO) ad n s H locs σ) (hl : lv_has ls 4 [(0, .ref (ad 56)), (1, .int x1), (2, .int x2)]) : W p l e rmX9_get s m args below meth c H locs 0 0 (MQ below (gQi D (cCell ad cyI cyO) ad n s.heap.size Φ) args s 0 0 (gA ad n s.heap.size)) (F0 m 20 ls [.int z0]) := by
  obtain ⟨hx, hb, hr, hml, hown, hts, hlk⟩ := id C
  unfold wbX9_get_20 at h
  refine lv_istore_n (lv' := [(3, .int z0), (0, .ref (ad 56)), (1, .int x1), (2, .int x2)]) hx hb dX9_get_20 rfl hl (by decide) rfl (fun ls hl => ?_)
  refine lv_aload_n hx hb dX9_get_21 rfl (lv_at hl 1 rfl) ?_
  refine getF C wd (k := 56) (Cn := RX9) (T := TX9) (N := 4) (v := .ref (ad 59)) (by omega) cc_X9 rfl 3 (by decide) rfl inX9 tw2_45 dX9_get_22 ?_
  refine lv_iload_n hx hb dX9_get_25 rfl (lv_at hl 0 rfl) ?_
  refine lv_if_eq (tgt := 41) hx hb dX9_get_26 (by decide) (fun c1 => ?_) (fun c1 => ?_)
  · have h := h.1 c1
    refine lv_bipush (v := (-2 : Int32)) hx hb dX9_get_41 (by decide) ?_
    exact blX9_get_43 hn C h wd (lv_sub hl [] rfl)
  · have h := h.2 c1
    refine lv_aload_n hx hb dX9_get_29 rfl (lv_at hl 1 rfl) ?_
    refine getF C wd (k := 56) (Cn := RX9) (T := TX9) (N := 4) (v := .ref (ad 0)) (by omega) cc_X9 rfl 0 (by decide) rfl inX9 tw2_42 dX9_get_30 ?_
    refine lv_iload_n hx hb dX9_get_33 rfl (lv_at hl 2 rfl) ?_
    refine lv_iload_n hx hb dX9_get_34 rfl (lv_at hl 3 rfl) ?_
    refine gCi wd (gRunV (y := yX2_takeLetter) (k := 0) (As := [.int x1, .int x2]) (rest := [.ref (ad 59)]) C wd (cmX2_takeLetter (by omega) h) ⟨rfl, rfl⟩ gd_X9_64 nk_X2_takeLetter ⟨Nat.le_of_ble_eq_true rfl, Nat.le_of_ble_eq_true rfl⟩ (by omega) cc_X2 rfl rfl hl.1 (Nat.le_of_ble_eq_true rfl) dX9_get_35 rfl) (fun r3 t2 H locs h wd => ?_)
    try dsimp only at h
    refine lv_goto (tgt := 43) hx hb dX9_get_38 (by decide) ?_
    exact blX9_get_43 hn C h wd (lv_sub hl [] rfl)
def wbX9_get_19 (Φ : Int32 → St → Prop) (x1 : Int32) (x2 : Int32) (σ : St) : Prop :=
  wbX9_get_20 Φ x1 x2 (0 : Int32) σ
set_option maxHeartbeats 4000000 in
set_option maxRecDepth 100000 in
theorem blX9_get_19 {p : Program} {l : Launch} {e : Env} {s : State} {m : MethodId} {args : Array Value} {below : List Frame} {meth : Method} {c : Code} (hn : 60 ≤ n) (C : Cx p s m args meth c cX9_get 4 (some .int) RX9) {Φ : Int32 → St → Prop} {x1 : Int32} {x2 : Int32} {σ : St} {H : Heap} {locs : List Loc} {ls : Array Slot} (h : wbX9_get_19 Φ x1 x2 σ) (wd : gWd D (tyL cyI cyO) (cCell ad cyI cyO) ad n s H locs σ) (hl : lv_has ls 4 [(0, .ref (ad 56)), (1, .int x1), (2, .int x2)]) : W p l e rmX9_get s m args below meth c H locs 0 0 (MQ below (gQi D (cCell ad cyI cyO) ad n s.heap.size Φ) args s 0 0 (gA ad n s.heap.size)) (F0 m 19 ls []) := by
  obtain ⟨hx, hb, hr, hml, hown, hts, hlk⟩ := id C
  unfold wbX9_get_19 at h
  refine lv_iconst (v := (0 : Int32)) hx hb dX9_get_19 (by decide) ?_
  exact blX9_get_20 hn C h wd (lv_sub hl [0, 1, 2] rfl)
def wpX9_get (x1 : Int32) (x2 : Int32) (σ : St) (Φ : Int32 → St → Prop) : Prop :=
  wpX2_hasClerk x1 σ (fun r2 t1 => ((r2 = 0 → wbX9_get_19 Φ x1 x2 t1) ∧ (¬ r2 = 0 → ((x2 < 0 → wbX9_get_19 Φ x1 x2 t1) ∧ (¬ x2 < 0 → wbX9_get_20 Φ x1 x2 (1 : Int32) t1)))))
set_option maxHeartbeats 4000000 in
set_option maxRecDepth 100000 in
theorem cmX9_get {D : va_G} {cyI cyO : ClassId} {ad : Nat → Nat} {n : Nat} {l : Launch} (hn : 60 ≤ n) {x1 : Int32} {x2 : Int32} {σ : St} {sz : Nat} {Φ : Int32 → St → Prop} (h : wpX9_get x1 x2 σ Φ) : gMet D (tyL cyI cyO) (cCell ad cyI cyO) ad n l yX9_get cX9_get 4 (some .int) rmX9_get [.ref (ad 56), .int x1, .int x2] σ sz (gQi D (cCell ad cyI cyO) ad n sz Φ) := by
  refine gMet.of (by decide) (Nat.le_of_ble_eq_true rfl) ?_
  intro p e s m below meth c ls hsz C hl wd
  subst hsz
  have C : Cx p s m _ meth c cX9_get 4 (some .int) RX9 := C
  obtain ⟨hx, hb, hr, hml, hown, hts, hlk⟩ := id C
  have hl : lv_has ls 4 [(0, .ref (ad 56)), (1, .int x1), (2, .int x2)] := hl
  unfold wpX9_get at h
  refine lv_aload_n hx hb dX9_get_0 rfl (lv_at hl 0 rfl) ?_
  refine getF C wd (k := 56) (Cn := RX9) (T := TX9) (N := 4) (v := .ref (ad 0)) (by omega) cc_X9 rfl 0 (by decide) rfl inX9 tw2_42 dX9_get_1 ?_
  refine lv_iload_n hx hb dX9_get_4 rfl (lv_at hl 1 rfl) ?_
  refine gCi wd (gRunV (y := yX2_hasClerk) (k := 0) (As := [.int x1]) (rest := []) C wd (cmX2_hasClerk (by omega) h) ⟨rfl, rfl⟩ gd_X9_53 nk_X2_hasClerk ⟨Nat.le_of_ble_eq_true rfl, Nat.le_of_ble_eq_true rfl⟩ (by omega) cc_X2 rfl rfl hl.1 (Nat.le_of_ble_eq_true rfl) dX9_get_5 rfl) (fun r2 t1 H locs h wd => ?_)
  try dsimp only at h
  refine lv_if_eq (tgt := 19) hx hb dX9_get_8 (by decide) (fun c3 => ?_) (fun c3 => ?_)
  · have h := h.1 c3
    exact blX9_get_19 hn C h wd (lv_sub hl [0, 1, 2] rfl)
  · have h := h.2 c3
    refine lv_iload_n hx hb dX9_get_11 rfl (lv_at hl 2 rfl) ?_
    refine lv_if_lt (tgt := 19) hx hb dX9_get_12 (by decide) (fun c4 => ?_) (fun c4 => ?_)
    · have h := h.1 c4
      exact blX9_get_19 hn C h wd (lv_sub hl [0, 1, 2] rfl)
    · have h := h.2 c4
      refine lv_iconst (v := (1 : Int32)) hx hb dX9_get_15 (by decide) ?_
      refine lv_goto (tgt := 20) hx hb dX9_get_16 (by decide) ?_
      exact blX9_get_20 hn C h wd (lv_sub hl [0, 1, 2] rfl)
abbrev rmX9_writes : Room := rmOf 3 64
def wbX9_writes_49 (Φ : Int32 → St → Prop) (z1 : Int32) (σ : St) : Prop :=
  wpX7_counted z1 σ (fun r2 t1 => Φ r2 t1)
set_option maxHeartbeats 4000000 in
set_option maxRecDepth 100000 in
theorem blX9_writes_49 {p : Program} {l : Launch} {e : Env} {s : State} {m : MethodId} {args : Array Value} {below : List Frame} {meth : Method} {c : Code} (hn : 60 ≤ n) (C : Cx p s m args meth c cX9_writes 4 (some .int) RX9) {Φ : Int32 → St → Prop} {z1 : Int32} {σ : St} {H : Heap} {locs : List Loc} {ls : Array Slot} (h : wbX9_writes_49 Φ z1 σ) (wd : gWd D (tyL cyI cyO) (cCell ad cyI cyO) ad n s H locs σ) (hl : lv_has ls 4 []) : W p l e rmX9_writes s m args below meth c H locs 0 0 (MQ below (gQi D (cCell ad cyI cyO) ad n s.heap.size Φ) args s 0 0 (gA ad n s.heap.size)) (F0 m 49 ls [.int z1, .ref (ad 59)]) := by
  obtain ⟨hx, hb, hr, hml, hown, hts, hlk⟩ := id C
  unfold wbX9_writes_49 at h
  refine gCi wd (gRunV (y := yX7_counted) (k := 59) (As := [.int z1]) (rest := []) C wd (cmX7_counted (by omega) h) ⟨rfl, rfl⟩ gd_X9_41 nk_X7_counted ⟨Nat.le_of_ble_eq_true rfl, Nat.le_of_ble_eq_true rfl⟩ (by omega) cc_X7 rfl rfl hl.1 (Nat.le_of_ble_eq_true rfl) dX9_writes_49 rfl) (fun r2 t1 H locs h wd => ?_)
  try dsimp only at h
  exact retI C wd h dX9_writes_52
def wbX9_writes_26 (Φ : Int32 → St → Prop) (x1 : Int32) (x2 : Int32) (z0 : Int32) (σ : St) : Prop :=
  ((z0 = 0 → wbX9_writes_49 Φ (-2 : Int32) σ) ∧ (¬ z0 = 0 → wpX2_writePages x1 x2 σ (fun r3 t2 => wbX9_writes_49 Φ r3 t2)))
set_option maxHeartbeats 4000000 in
set_option maxRecDepth 100000 in
theorem blX9_writes_26 {p : Program} {l : Launch} {e : Env} {s : State} {m : MethodId} {args : Array Value} {below : List Frame} {meth : Method} {c : Code} (hn : 60 ≤ n) (C : Cx p s m args meth c cX9_writes 4 (some .int) RX9) {Φ : Int32 → St → Prop} {x1 : Int32} {x2 : Int32} {z0 : Int32} {σ : St} {H : Heap} {locs : List Loc} {ls : Array Slot} (h : wbX9_writes_26 Φ x1 x2 z0 σ) (wd : gWd D (tyL cyI cyO) (cCell ad cyI cyO) ad n s H locs σ) (hl : lv_has ls 4 [(0, .ref (ad 56)), (1, .int x1), (2, .int x2)]) : W p l e rmX9_writes s m args below meth c H locs 0 0 (MQ below (gQi D (cCell ad cyI cyO) ad n s.heap.size Φ) args s 0 0 (gA ad n s.heap.size)) (F0 m 26 ls [.int z0]) := by
  obtain ⟨hx, hb, hr, hml, hown, hts, hlk⟩ := id C
  unfold wbX9_writes_26 at h
  refine lv_istore_n (lv' := [(3, .int z0), (0, .ref (ad 56)), (1, .int x1), (2, .int x2)]) hx hb dX9_writes_26 rfl hl (by decide) rfl (fun ls hl => ?_)
  refine lv_aload_n hx hb dX9_writes_27 rfl (lv_at hl 1 rfl) ?_
  refine getF C wd (k := 56) (Cn := RX9) (T := TX9) (N := 4) (v := .ref (ad 59)) (by omega) cc_X9 rfl 3 (by decide) rfl inX9 tw2_45 dX9_writes_28 ?_
  refine lv_iload_n hx hb dX9_writes_31 rfl (lv_at hl 0 rfl) ?_
  refine lv_if_eq (tgt := 47) hx hb dX9_writes_32 (by decide) (fun c1 => ?_) (fun c1 => ?_)
  · have h := h.1 c1
    refine lv_bipush (v := (-2 : Int32)) hx hb dX9_writes_47 (by decide) ?_
    exact blX9_writes_49 hn C h wd (lv_sub hl [] rfl)
  · have h := h.2 c1
    refine lv_aload_n hx hb dX9_writes_35 rfl (lv_at hl 1 rfl) ?_
    refine getF C wd (k := 56) (Cn := RX9) (T := TX9) (N := 4) (v := .ref (ad 0)) (by omega) cc_X9 rfl 0 (by decide) rfl inX9 tw2_42 dX9_writes_36 ?_
    refine lv_iload_n hx hb dX9_writes_39 rfl (lv_at hl 2 rfl) ?_
    refine lv_iload_n hx hb dX9_writes_40 rfl (lv_at hl 3 rfl) ?_
    refine gCi wd (gRunV (y := yX2_writePages) (k := 0) (As := [.int x1, .int x2]) (rest := [.ref (ad 59)]) C wd (cmX2_writePages (by omega) h) ⟨rfl, rfl⟩ gd_X9_67 nk_X2_writePages ⟨Nat.le_of_ble_eq_true rfl, Nat.le_of_ble_eq_true rfl⟩ (by omega) cc_X2 rfl rfl hl.1 (Nat.le_of_ble_eq_true rfl) dX9_writes_41 rfl) (fun r3 t2 H locs h wd => ?_)
    try dsimp only at h
    refine lv_goto (tgt := 49) hx hb dX9_writes_44 (by decide) ?_
    exact blX9_writes_49 hn C h wd (lv_sub hl [] rfl)
def wbX9_writes_25 (Φ : Int32 → St → Prop) (x1 : Int32) (x2 : Int32) (σ : St) : Prop :=
  wbX9_writes_26 Φ x1 x2 (0 : Int32) σ
set_option maxHeartbeats 4000000 in
set_option maxRecDepth 100000 in
theorem blX9_writes_25 {p : Program} {l : Launch} {e : Env} {s : State} {m : MethodId} {args : Array Value} {below : List Frame} {meth : Method} {c : Code} (hn : 60 ≤ n) (C : Cx p s m args meth c cX9_writes 4 (some .int) RX9) {Φ : Int32 → St → Prop} {x1 : Int32} {x2 : Int32} {σ : St} {H : Heap} {locs : List Loc} {ls : Array Slot} (h : wbX9_writes_25 Φ x1 x2 σ) (wd : gWd D (tyL cyI cyO) (cCell ad cyI cyO) ad n s H locs σ) (hl : lv_has ls 4 [(0, .ref (ad 56)), (1, .int x1), (2, .int x2)]) : W p l e rmX9_writes s m args below meth c H locs 0 0 (MQ below (gQi D (cCell ad cyI cyO) ad n s.heap.size Φ) args s 0 0 (gA ad n s.heap.size)) (F0 m 25 ls []) := by
  obtain ⟨hx, hb, hr, hml, hown, hts, hlk⟩ := id C
  unfold wbX9_writes_25 at h
  refine lv_iconst (v := (0 : Int32)) hx hb dX9_writes_25 (by decide) ?_
  exact blX9_writes_26 hn C h wd (lv_sub hl [0, 1, 2] rfl)
def wpX9_writes (x1 : Int32) (x2 : Int32) (σ : St) (Φ : Int32 → St → Prop) : Prop :=
  wpX2_hasClerk x1 σ (fun r2 t1 => ((r2 = 0 → wbX9_writes_25 Φ x1 x2 t1) ∧ (¬ r2 = 0 → wpX9_within x2 (1 : Int32) (24 : Int32) t1 (fun r5 t4 => ((r5 = 0 → wbX9_writes_25 Φ x1 x2 t4) ∧ (¬ r5 = 0 → wbX9_writes_26 Φ x1 x2 (1 : Int32) t4))))))
set_option maxHeartbeats 4000000 in
set_option maxRecDepth 100000 in
theorem cmX9_writes {D : va_G} {cyI cyO : ClassId} {ad : Nat → Nat} {n : Nat} {l : Launch} (hn : 60 ≤ n) {x1 : Int32} {x2 : Int32} {σ : St} {sz : Nat} {Φ : Int32 → St → Prop} (h : wpX9_writes x1 x2 σ Φ) : gMet D (tyL cyI cyO) (cCell ad cyI cyO) ad n l yX9_writes cX9_writes 4 (some .int) rmX9_writes [.ref (ad 56), .int x1, .int x2] σ sz (gQi D (cCell ad cyI cyO) ad n sz Φ) := by
  refine gMet.of (by decide) (Nat.le_of_ble_eq_true rfl) ?_
  intro p e s m below meth c ls hsz C hl wd
  subst hsz
  have C : Cx p s m _ meth c cX9_writes 4 (some .int) RX9 := C
  obtain ⟨hx, hb, hr, hml, hown, hts, hlk⟩ := id C
  have hl : lv_has ls 4 [(0, .ref (ad 56)), (1, .int x1), (2, .int x2)] := hl
  unfold wpX9_writes at h
  refine lv_aload_n hx hb dX9_writes_0 rfl (lv_at hl 0 rfl) ?_
  refine getF C wd (k := 56) (Cn := RX9) (T := TX9) (N := 4) (v := .ref (ad 0)) (by omega) cc_X9 rfl 0 (by decide) rfl inX9 tw2_42 dX9_writes_1 ?_
  refine lv_iload_n hx hb dX9_writes_4 rfl (lv_at hl 1 rfl) ?_
  refine gCi wd (gRunV (y := yX2_hasClerk) (k := 0) (As := [.int x1]) (rest := []) C wd (cmX2_hasClerk (by omega) h) ⟨rfl, rfl⟩ gd_X9_53 nk_X2_hasClerk ⟨Nat.le_of_ble_eq_true rfl, Nat.le_of_ble_eq_true rfl⟩ (by omega) cc_X2 rfl rfl hl.1 (Nat.le_of_ble_eq_true rfl) dX9_writes_5 rfl) (fun r2 t1 H locs h wd => ?_)
  try dsimp only at h
  refine lv_if_eq (tgt := 25) hx hb dX9_writes_8 (by decide) (fun c3 => ?_) (fun c3 => ?_)
  · have h := h.1 c3
    exact blX9_writes_25 hn C h wd (lv_sub hl [0, 1, 2] rfl)
  · have h := h.2 c3
    refine lv_iload_n hx hb dX9_writes_11 rfl (lv_at hl 2 rfl) ?_
    refine lv_iconst (v := (1 : Int32)) hx hb dX9_writes_12 (by decide) ?_
    refine lv_bipush (v := (24 : Int32)) hx hb dX9_writes_13 (by decide) ?_
    refine gCi wd (gRunS (y := yX9_within) (As := [.int x2, .int (1 : Int32), .int (24 : Int32)]) (rest := []) C wd (cmX9_within h) ⟨rfl, rfl⟩ gd_X9_37 nk_X9_within ⟨Nat.le_of_ble_eq_true rfl, Nat.le_of_ble_eq_true rfl⟩ hl.1 (Nat.le_of_ble_eq_true rfl) dX9_writes_15 rfl) (fun r5 t4 H locs h wd => ?_)
    try dsimp only at h
    refine lv_if_eq (tgt := 25) hx hb dX9_writes_18 (by decide) (fun c6 => ?_) (fun c6 => ?_)
    · have h := h.1 c6
      exact blX9_writes_25 hn C h wd (lv_sub hl [0, 1, 2] rfl)
    · have h := h.2 c6
      refine lv_iconst (v := (1 : Int32)) hx hb dX9_writes_21 (by decide) ?_
      refine lv_goto (tgt := 26) hx hb dX9_writes_22 (by decide) ?_
      exact blX9_writes_26 hn C h wd (lv_sub hl [0, 1, 2] rfl)
abbrev rmX9_loses : Room := rmOf 5 114
def wbX9_loses_28 (Φ : Int32 → St → Prop) (z1 : Int32) (σ : St) : Prop :=
  wpX7_counted z1 σ (fun r2 t1 => Φ r2 t1)
set_option maxHeartbeats 4000000 in
set_option maxRecDepth 100000 in
theorem blX9_loses_28 {p : Program} {l : Launch} {e : Env} {s : State} {m : MethodId} {args : Array Value} {below : List Frame} {meth : Method} {c : Code} (hn : 60 ≤ n) (C : Cx p s m args meth c cX9_loses 2 (some .int) RX9) {Φ : Int32 → St → Prop} {z1 : Int32} {σ : St} {H : Heap} {locs : List Loc} {ls : Array Slot} (h : wbX9_loses_28 Φ z1 σ) (wd : gWd D (tyL cyI cyO) (cCell ad cyI cyO) ad n s H locs σ) (hl : lv_has ls 2 []) : W p l e rmX9_loses s m args below meth c H locs 0 0 (MQ below (gQi D (cCell ad cyI cyO) ad n s.heap.size Φ) args s 0 0 (gA ad n s.heap.size)) (F0 m 28 ls [.int z1, .ref (ad 59)]) := by
  obtain ⟨hx, hb, hr, hml, hown, hts, hlk⟩ := id C
  unfold wbX9_loses_28 at h
  refine gCi wd (gRunV (y := yX7_counted) (k := 59) (As := [.int z1]) (rest := []) C wd (cmX7_counted (by omega) h) ⟨rfl, rfl⟩ gd_X9_41 nk_X7_counted ⟨Nat.le_of_ble_eq_true rfl, Nat.le_of_ble_eq_true rfl⟩ (by omega) cc_X7 rfl rfl hl.1 (Nat.le_of_ble_eq_true rfl) dX9_loses_28 rfl) (fun r2 t1 H locs h wd => ?_)
  try dsimp only at h
  exact retI C wd h dX9_loses_31
def wpX9_loses (x1 : Int32) (σ : St) (Φ : Int32 → St → Prop) : Prop :=
  wpX2_hasClerk x1 σ (fun r2 t1 => ((r2 = 0 → wbX9_loses_28 Φ (-2 : Int32) t1) ∧ (¬ r2 = 0 → wpX2_lose x1 t1 (fun r5 t4 => wbX9_loses_28 Φ r5 t4))))
set_option maxHeartbeats 4000000 in
set_option maxRecDepth 100000 in
theorem cmX9_loses {D : va_G} {cyI cyO : ClassId} {ad : Nat → Nat} {n : Nat} {l : Launch} (hn : 60 ≤ n) {x1 : Int32} {σ : St} {sz : Nat} {Φ : Int32 → St → Prop} (h : wpX9_loses x1 σ Φ) : gMet D (tyL cyI cyO) (cCell ad cyI cyO) ad n l yX9_loses cX9_loses 2 (some .int) rmX9_loses [.ref (ad 56), .int x1] σ sz (gQi D (cCell ad cyI cyO) ad n sz Φ) := by
  refine gMet.of (by decide) (Nat.le_of_ble_eq_true rfl) ?_
  intro p e s m below meth c ls hsz C hl wd
  subst hsz
  have C : Cx p s m _ meth c cX9_loses 2 (some .int) RX9 := C
  obtain ⟨hx, hb, hr, hml, hown, hts, hlk⟩ := id C
  have hl : lv_has ls 2 [(0, .ref (ad 56)), (1, .int x1)] := hl
  unfold wpX9_loses at h
  refine lv_aload_n hx hb dX9_loses_0 rfl (lv_at hl 0 rfl) ?_
  refine getF C wd (k := 56) (Cn := RX9) (T := TX9) (N := 4) (v := .ref (ad 59)) (by omega) cc_X9 rfl 3 (by decide) rfl inX9 tw2_45 dX9_loses_1 ?_
  refine lv_aload_n hx hb dX9_loses_4 rfl (lv_at hl 0 rfl) ?_
  refine getF C wd (k := 56) (Cn := RX9) (T := TX9) (N := 4) (v := .ref (ad 0)) (by omega) cc_X9 rfl 0 (by decide) rfl inX9 tw2_42 dX9_loses_5 ?_
  refine lv_iload_n hx hb dX9_loses_8 rfl (lv_at hl 1 rfl) ?_
  refine gCi wd (gRunV (y := yX2_hasClerk) (k := 0) (As := [.int x1]) (rest := [.ref (ad 59)]) C wd (cmX2_hasClerk (by omega) h) ⟨rfl, rfl⟩ gd_X9_53 nk_X2_hasClerk ⟨Nat.le_of_ble_eq_true rfl, Nat.le_of_ble_eq_true rfl⟩ (by omega) cc_X2 rfl rfl hl.1 (Nat.le_of_ble_eq_true rfl) dX9_loses_9 rfl) (fun r2 t1 H locs h wd => ?_)
  try dsimp only at h
  refine lv_if_eq (tgt := 26) hx hb dX9_loses_12 (by decide) (fun c3 => ?_) (fun c3 => ?_)
  · have h := h.1 c3
    refine lv_bipush (v := (-2 : Int32)) hx hb dX9_loses_26 (by decide) ?_
    exact blX9_loses_28 hn C h wd (lv_sub hl [] rfl)
  · have h := h.2 c3
    refine lv_aload_n hx hb dX9_loses_15 rfl (lv_at hl 0 rfl) ?_
    refine getF C wd (k := 56) (Cn := RX9) (T := TX9) (N := 4) (v := .ref (ad 0)) (by omega) cc_X9 rfl 0 (by decide) rfl inX9 tw2_42 dX9_loses_16 ?_
    refine lv_iload_n hx hb dX9_loses_19 rfl (lv_at hl 1 rfl) ?_
    refine gCi wd (gRunV (y := yX2_lose) (k := 0) (As := [.int x1]) (rest := [.ref (ad 59)]) C wd (cmX2_lose (by omega) h) ⟨rfl, rfl⟩ gd_X9_70 nk_X2_lose ⟨Nat.le_of_ble_eq_true rfl, Nat.le_of_ble_eq_true rfl⟩ (by omega) cc_X2 rfl rfl hl.1 (Nat.le_of_ble_eq_true rfl) dX9_loses_20 rfl) (fun r5 t4 H locs h wd => ?_)
    try dsimp only at h
    refine lv_goto (tgt := 28) hx hb dX9_loses_23 (by decide) ?_
    exact blX9_loses_28 hn C h wd (lv_sub hl [] rfl)
abbrev rmX9_isDone : Room := rmOf 0 0
def wpX9_isDone (x0 : Int32) (σ : St) (Φ : Int32 → St → Prop) : Prop :=
  ((x0 < (-1 : Int32) → Φ (0 : Int32) σ) ∧ (¬ x0 < (-1 : Int32) → Φ (1 : Int32) σ))
set_option maxHeartbeats 4000000 in
set_option maxRecDepth 100000 in
theorem cmX9_isDone {D : va_G} {cyI cyO : ClassId} {ad : Nat → Nat} {n : Nat} {l : Launch} {x0 : Int32} {σ : St} {sz : Nat} {Φ : Int32 → St → Prop} (h : wpX9_isDone x0 σ Φ) : gMet D (tyL cyI cyO) (cCell ad cyI cyO) ad n l yX9_isDone cX9_isDone 1 (some .boolean) rmX9_isDone [.int x0] σ sz (gQi D (cCell ad cyI cyO) ad n sz Φ) := by
  refine gMet.of (by decide) (Nat.le_of_ble_eq_true rfl) ?_
  intro p e s m below meth c ls hsz C hl wd
  subst hsz
  have C : Cx p s m _ meth c cX9_isDone 1 (some .boolean) RX9 := C
  obtain ⟨hx, hb, hr, hml, hown, hts, hlk⟩ := id C
  have hl : lv_has ls 1 [(0, .int x0)] := hl
  unfold wpX9_isDone at h
  refine lv_iload_n hx hb dX9_isDone_0 rfl (lv_at hl 0 rfl) ?_
  refine lv_iconst (v := (-1 : Int32)) hx hb dX9_isDone_1 (by decide) ?_
  refine lv_icmp_lt (tgt := 9) hx hb dX9_isDone_2 (by decide) (fun c1 => ?_) (fun c1 => ?_)
  · have h := h.1 c1
    refine lv_iconst (v := (0 : Int32)) hx hb dX9_isDone_9 (by decide) ?_
    exact retZ C wd rfl h dX9_isDone_10
  · have h := h.2 c1
    refine lv_iconst (v := (1 : Int32)) hx hb dX9_isDone_5 (by decide) ?_
    refine lv_goto (tgt := 10) hx hb dX9_isDone_6 (by decide) ?_
    exact retZ C wd rfl h dX9_isDone_10
abbrev rmX9_draw : Room := rmOf 6 143
def wbX9_draw_104 (Φ : Int32 → St → Prop) (k_64 : Int32 → Int64 → Int32 → Int32 → St → Prop) (x2 : Int32) (x4 : Int64) (x6 : Int32) (x7 : Int32) (σ : St) : Prop :=
  (∀ y1 : Int32, y1 = x7 + (1 : Int32) → k_64 x2 x4 x6 y1 σ)
set_option maxHeartbeats 4000000 in
set_option maxRecDepth 100000 in
theorem blX9_draw_104 {p : Program} {l : Launch} {e : Env} {s : State} {m : MethodId} {args : Array Value} {below : List Frame} {meth : Method} {c : Code} (hn : 60 ≤ n) (C : Cx p s m args meth c cX9_draw 8 (some .int) RX9) {Φ : Int32 → St → Prop} {k_64 : Int32 → Int64 → Int32 → Int32 → St → Prop} (hk_64 : ∀ (x2 : Int32) (x4 : Int64) (x6 : Int32) (x7 : Int32) (σ : St) (H : Heap) (locs : List Loc) (ls : Array Slot), k_64 x2 x4 x6 x7 σ → gWd D (tyL cyI cyO) (cCell ad cyI cyO) ad n s H locs σ → lv_has ls 8 [(0, .ref (ad 56)), (2, .int x2), (4, .long x4), (6, .int x6), (7, .int x7)] → W p l e rmX9_draw s m args below meth c H locs 0 0 (MQ below (gQi D (cCell ad cyI cyO) ad n s.heap.size Φ) args s 0 0 (gA ad n s.heap.size)) (F0 m 64 ls [])) {x2 : Int32} {x4 : Int64} {x6 : Int32} {x7 : Int32} {σ : St} {H : Heap} {locs : List Loc} {ls : Array Slot} (h : wbX9_draw_104 Φ k_64 x2 x4 x6 x7 σ) (wd : gWd D (tyL cyI cyO) (cCell ad cyI cyO) ad n s H locs σ) (hl : lv_has ls 8 [(0, .ref (ad 56)), (2, .int x2), (4, .long x4), (6, .int x6), (7, .int x7)]) : W p l e rmX9_draw s m args below meth c H locs 0 0 (MQ below (gQi D (cCell ad cyI cyO) ad n s.heap.size Φ) args s 0 0 (gA ad n s.heap.size)) (F0 m 104 ls []) := by
  obtain ⟨hx, hb, hr, hml, hown, hts, hlk⟩ := id C
  unfold wbX9_draw_104 at h
  obtain ⟨y1, ey1⟩ : ∃ y : Int32, y = x7 + (1 : Int32) := ⟨_, rfl⟩
  refine lv_iinc (v := y1) (lv' := [(7, .int y1), (0, .ref (ad 56)), (2, .int x2), (4, .long x4), (6, .int x6)]) hx hb dX9_draw_104 hl (k := 4) rfl (by rw [ey1]; rfl) (by decide) rfl (fun ls hl => ?_)
  have h := h y1 ey1
  refine lv_goto (tgt := 64) hx hb dX9_draw_107 (by decide) ?_
  exact hk_64 _ _ _ _ _ _ _ _ h wd (lv_sub hl [1, 2, 3, 4, 0] rfl)
def wlX9_draw_64_body (Φ : Int32 → St → Prop) (k_64 : Int32 → Int64 → Int32 → Int32 → St → Prop) (x2 : Int32) (x4 : Int64) (x6 : Int32) (x7 : Int32) (σ : St) : Prop :=
  ((x2 ≤ x7 → Φ x6 σ) ∧ (¬ x2 ≤ x7 → (∀ y2 : Int64, y2 = ((x4 * (1103515245 : Int64)) + (12345 : Int64)) - ((x4 * (1103515245 : Int64)) + (12345 : Int64)) / (2147483648 : Int64) * (2147483648 : Int64) → wpX2_doDrawn y2 σ (fun r4 t3 => wpX9_isDone r4 t3 (fun r6 t5 => ((r6 = 0 → wbX9_draw_104 Φ k_64 x2 y2 x6 x7 t5) ∧ (¬ r6 = 0 → (∀ y8 : Int32, y8 = x6 + (1 : Int32) → wbX9_draw_104 Φ k_64 x2 y2 y8 x7 t5))))))))
def wlX9_draw_64 (Φ : Int32 → St → Prop) : Nat → Int32 → Int64 → Int32 → Int32 → St → Prop
  | 0 => fun _ _ _ _ _ => False
  | N + 1 => fun x2 x4 x6 x7 σ => wlX9_draw_64_body Φ (wlX9_draw_64 Φ N) x2 x4 x6 x7 σ
set_option maxHeartbeats 4000000 in
set_option maxRecDepth 100000 in
theorem llX9_draw_64 {p : Program} {l : Launch} {e : Env} {s : State} {m : MethodId} {args : Array Value} {below : List Frame} {meth : Method} {c : Code} (hn : 60 ≤ n) (C : Cx p s m args meth c cX9_draw 8 (some .int) RX9) {Φ : Int32 → St → Prop} : ∀ (N : Nat) (x2 : Int32) (x4 : Int64) (x6 : Int32) (x7 : Int32) (σ : St) (H : Heap) (locs : List Loc) (ls : Array Slot), wlX9_draw_64 Φ N x2 x4 x6 x7 σ → gWd D (tyL cyI cyO) (cCell ad cyI cyO) ad n s H locs σ → lv_has ls 8 [(0, .ref (ad 56)), (2, .int x2), (4, .long x4), (6, .int x6), (7, .int x7)] → W p l e rmX9_draw s m args below meth c H locs 0 0 (MQ below (gQi D (cCell ad cyI cyO) ad n s.heap.size Φ) args s 0 0 (gA ad n s.heap.size)) (F0 m 64 ls []) := by
  obtain ⟨hx, hb, hr, hml, hown, hts, hlk⟩ := id C
  intro N
  induction N with
  | zero =>
    intro x2 x4 x6 x7 σ H locs ls h
    exact False.elim h
  | succ N ih =>
    intro x2 x4 x6 x7 σ H locs ls h wd hl
    have h : wlX9_draw_64_body Φ (wlX9_draw_64 Φ N) x2 x4 x6 x7 σ := h
    have hk_64 := ih
    unfold wlX9_draw_64_body at h
    refine lv_iload hx hb dX9_draw_64 (lv_at hl 4 rfl) ?_
    refine lv_iload_n hx hb dX9_draw_66 rfl (lv_at hl 1 rfl) ?_
    refine lv_icmp_ge (tgt := 110) hx hb dX9_draw_67 (by decide) (fun c1 => ?_) (fun c1 => ?_)
    · have h := h.1 c1
      refine lv_iload hx hb dX9_draw_110 (lv_at hl 3 rfl) ?_
      exact retI C wd h dX9_draw_112
    · have h := h.2 c1
      refine lv_lload hx hb dX9_draw_70 (lv_at hl 2 rfl) ?_
      refine lv_ldc2 (v := (1103515245 : Int64)) hx hb hown (hts _ tw2_238) dX9_draw_72 ?_
      refine lv_lmul hx hb dX9_draw_75 ?_
      refine lv_ldc2 (v := (12345 : Int64)) hx hb hown (hts _ tw2_239) dX9_draw_76 ?_
      refine lv_ladd hx hb dX9_draw_79 ?_
      refine lv_ldc2 (v := (2147483648 : Int64)) hx hb hown (hts _ tw3_0) dX9_draw_80 ?_
      refine lv_lrem hx hb dX9_draw_83 (by decide) ?_
      refine lv_topl (fun y2 ey2 => ?_)
      have h := h y2 ey2
      refine lv_lstore (lv' := [(4, .long y2), (0, .ref (ad 56)), (2, .int x2), (6, .int x6), (7, .int x7)]) hx hb dX9_draw_84 hl (by decide) rfl (fun ls hl => ?_)
      refine lv_aload_n hx hb dX9_draw_86 rfl (lv_at hl 1 rfl) ?_
      refine getF C wd (k := 56) (Cn := RX9) (T := TX9) (N := 4) (v := .ref (ad 0)) (by omega) cc_X9 rfl 0 (by decide) rfl inX9 tw2_42 dX9_draw_87 ?_
      refine lv_lload hx hb dX9_draw_90 (lv_at hl 0 rfl) ?_
      refine gCi wd (gRunV (y := yX2_doDrawn) (k := 0) (As := [.long y2]) (rest := []) C wd (cmX2_doDrawn (by omega) h) ⟨rfl, rfl⟩ gd_X9_80 nk_X2_doDrawn ⟨Nat.le_of_ble_eq_true rfl, Nat.le_of_ble_eq_true rfl⟩ (by omega) cc_X2 rfl rfl hl.1 (Nat.le_of_ble_eq_true rfl) dX9_draw_92 rfl) (fun r4 t3 H locs h wd => ?_)
      try dsimp only at h
      refine gCi wd (gRunS (y := yX9_isDone) (As := [.int r4]) (rest := []) C wd (cmX9_isDone h) ⟨rfl, rfl⟩ gd_X9_84 nk_X9_isDone ⟨Nat.le_of_ble_eq_true rfl, Nat.le_of_ble_eq_true rfl⟩ hl.1 (Nat.le_of_ble_eq_true rfl) dX9_draw_95 rfl) (fun r6 t5 H locs h wd => ?_)
      try dsimp only at h
      refine lv_if_eq (tgt := 104) hx hb dX9_draw_98 (by decide) (fun c7 => ?_) (fun c7 => ?_)
      · have h := h.1 c7
        exact blX9_draw_104 hn C hk_64 h wd (lv_sub hl [1, 2, 0, 3, 4] rfl)
      · have h := h.2 c7
        obtain ⟨y8, ey8⟩ : ∃ y : Int32, y = x6 + (1 : Int32) := ⟨_, rfl⟩
        refine lv_iinc (v := y8) (lv' := [(6, .int y8), (4, .long y2), (0, .ref (ad 56)), (2, .int x2), (7, .int x7)]) hx hb dX9_draw_101 hl (k := 3) rfl (by rw [ey8]; rfl) (by decide) rfl (fun ls hl => ?_)
        have h := h y8 ey8
        exact blX9_draw_104 hn C hk_64 h wd (lv_sub hl [2, 3, 1, 0, 4] rfl)
def wbX9_draw_25 (Φ : Int32 → St → Prop) (x1 : Int32) (x2 : Int32) (z0 : Int32) (σ : St) : Prop :=
  ((z0 = 0 → wpX7_counted (-2 : Int32) σ (fun r5 t4 => Φ r5 t4)) ∧ (¬ z0 = 0 → wpX2_begin (σ.1 0) σ (fun t2 => (∀ y3 : Int64, y3 = x1.toInt64 → (∃ N, wlX9_draw_64 Φ N x2 y3 (0 : Int32) (0 : Int32) t2)))))
set_option maxHeartbeats 4000000 in
set_option maxRecDepth 100000 in
theorem blX9_draw_25 {p : Program} {l : Launch} {e : Env} {s : State} {m : MethodId} {args : Array Value} {below : List Frame} {meth : Method} {c : Code} (hn : 60 ≤ n) (C : Cx p s m args meth c cX9_draw 8 (some .int) RX9) {Φ : Int32 → St → Prop} {x1 : Int32} {x2 : Int32} {z0 : Int32} {σ : St} {H : Heap} {locs : List Loc} {ls : Array Slot} (h : wbX9_draw_25 Φ x1 x2 z0 σ) (wd : gWd D (tyL cyI cyO) (cCell ad cyI cyO) ad n s H locs σ) (hl : lv_has ls 8 [(0, .ref (ad 56)), (1, .int x1), (2, .int x2)]) : W p l e rmX9_draw s m args below meth c H locs 0 0 (MQ below (gQi D (cCell ad cyI cyO) ad n s.heap.size Φ) args s 0 0 (gA ad n s.heap.size)) (F0 m 25 ls [.int z0]) := by
  obtain ⟨hx, hb, hr, hml, hown, hts, hlk⟩ := id C
  unfold wbX9_draw_25 at h
  refine lv_istore_n (lv' := [(3, .int z0), (0, .ref (ad 56)), (1, .int x1), (2, .int x2)]) hx hb dX9_draw_25 rfl hl (by decide) rfl (fun ls hl => ?_)
  refine lv_iload_n hx hb dX9_draw_26 rfl (lv_at hl 0 rfl) ?_
  refine lv_if_ne (tgt := 40) hx hb dX9_draw_27 (by decide) (fun c1 => ?_) (fun c1 => ?_)
  · have h := h.2 c1
    refine lv_aload_n hx hb dX9_draw_40 rfl (lv_at hl 1 rfl) ?_
    refine getF C wd (k := 56) (Cn := RX9) (T := TX9) (N := 4) (v := .ref (ad 0)) (by omega) cc_X9 rfl 0 (by decide) rfl inX9 tw2_42 dX9_draw_41 ?_
    refine lv_aload_n hx hb dX9_draw_44 rfl (lv_at hl 1 rfl) ?_
    refine getF C wd (k := 56) (Cn := RX9) (T := TX9) (N := 4) (v := .ref (ad 0)) (by omega) cc_X9 rfl 0 (by decide) rfl inX9 tw2_42 dX9_draw_45 ?_
    refine getN C wd (k := 0) (Cn := RX2) (T := TX2) (N := 6) (v := .int (σ.1 0)) (by omega) cc_X2 rfl 0 (by decide) rfl inX2 ns_31 dX9_draw_48 ?_
    refine gCv wd (gRunV (y := yX2_begin) (k := 0) (As := [.int (σ.1 0)]) (rest := []) C wd (cmX2_begin (by omega) h) ⟨rfl, rfl⟩ gd_X9_49 nk_X2_begin ⟨Nat.le_of_ble_eq_true rfl, Nat.le_of_ble_eq_true rfl⟩ (by omega) cc_X2 rfl rfl hl.1 (Nat.le_of_ble_eq_true rfl) dX9_draw_51 rfl) (fun t2 H locs h wd => ?_)
    try dsimp only at h
    refine lv_iload_n hx hb dX9_draw_54 rfl (lv_at hl 2 rfl) ?_
    refine lv_i2l hx hb dX9_draw_55 rfl ?_
    refine lv_topl (fun y3 ey3 => ?_)
    have h := h y3 ey3
    refine lv_lstore (lv' := [(4, .long y3), (3, .int z0), (0, .ref (ad 56)), (1, .int x1), (2, .int x2)]) hx hb dX9_draw_56 hl (by decide) rfl (fun ls hl => ?_)
    refine lv_iconst (v := (0 : Int32)) hx hb dX9_draw_58 (by decide) ?_
    refine lv_istore (lv' := [(6, .int (0 : Int32)), (4, .long y3), (3, .int z0), (0, .ref (ad 56)), (1, .int x1), (2, .int x2)]) hx hb dX9_draw_59 hl (by decide) rfl (fun ls hl => ?_)
    refine lv_iconst (v := (0 : Int32)) hx hb dX9_draw_61 (by decide) ?_
    refine lv_istore (lv' := [(7, .int (0 : Int32)), (6, .int (0 : Int32)), (4, .long y3), (3, .int z0), (0, .ref (ad 56)), (1, .int x1), (2, .int x2)]) hx hb dX9_draw_62 hl (by decide) rfl (fun ls hl => ?_)
    obtain ⟨N, h⟩ := h
    exact llX9_draw_64 hn C N _ _ _ _ _ _ _ _ h wd (lv_sub hl [4, 6, 2, 1, 0] rfl)
  · have h := h.1 c1
    refine lv_aload_n hx hb dX9_draw_30 rfl (lv_at hl 1 rfl) ?_
    refine getF C wd (k := 56) (Cn := RX9) (T := TX9) (N := 4) (v := .ref (ad 59)) (by omega) cc_X9 rfl 3 (by decide) rfl inX9 tw2_45 dX9_draw_31 ?_
    refine lv_bipush (v := (-2 : Int32)) hx hb dX9_draw_34 (by decide) ?_
    refine gCi wd (gRunV (y := yX7_counted) (k := 59) (As := [.int (-2 : Int32)]) (rest := []) C wd (cmX7_counted (by omega) h) ⟨rfl, rfl⟩ gd_X9_41 nk_X7_counted ⟨Nat.le_of_ble_eq_true rfl, Nat.le_of_ble_eq_true rfl⟩ (by omega) cc_X7 rfl rfl hl.1 (Nat.le_of_ble_eq_true rfl) dX9_draw_36 rfl) (fun r5 t4 H locs h wd => ?_)
    try dsimp only at h
    exact retI C wd h dX9_draw_39
def wbX9_draw_24 (Φ : Int32 → St → Prop) (x1 : Int32) (x2 : Int32) (σ : St) : Prop :=
  wbX9_draw_25 Φ x1 x2 (0 : Int32) σ
set_option maxHeartbeats 4000000 in
set_option maxRecDepth 100000 in
theorem blX9_draw_24 {p : Program} {l : Launch} {e : Env} {s : State} {m : MethodId} {args : Array Value} {below : List Frame} {meth : Method} {c : Code} (hn : 60 ≤ n) (C : Cx p s m args meth c cX9_draw 8 (some .int) RX9) {Φ : Int32 → St → Prop} {x1 : Int32} {x2 : Int32} {σ : St} {H : Heap} {locs : List Loc} {ls : Array Slot} (h : wbX9_draw_24 Φ x1 x2 σ) (wd : gWd D (tyL cyI cyO) (cCell ad cyI cyO) ad n s H locs σ) (hl : lv_has ls 8 [(0, .ref (ad 56)), (1, .int x1), (2, .int x2)]) : W p l e rmX9_draw s m args below meth c H locs 0 0 (MQ below (gQi D (cCell ad cyI cyO) ad n s.heap.size Φ) args s 0 0 (gA ad n s.heap.size)) (F0 m 24 ls []) := by
  obtain ⟨hx, hb, hr, hml, hown, hts, hlk⟩ := id C
  unfold wbX9_draw_24 at h
  refine lv_iconst (v := (0 : Int32)) hx hb dX9_draw_24 (by decide) ?_
  exact blX9_draw_25 hn C h wd (lv_sub hl [0, 1, 2] rfl)
def wpX9_draw (x1 : Int32) (x2 : Int32) (σ : St) (Φ : Int32 → St → Prop) : Prop :=
  wpX9_within x1 (0 : Int32) (999999 : Int32) σ (fun r2 t1 => ((r2 = 0 → wbX9_draw_24 Φ x1 x2 t1) ∧ (¬ r2 = 0 → wpX9_within x2 (1 : Int32) (60 : Int32) t1 (fun r5 t4 => ((r5 = 0 → wbX9_draw_24 Φ x1 x2 t4) ∧ (¬ r5 = 0 → wbX9_draw_25 Φ x1 x2 (1 : Int32) t4))))))
set_option maxHeartbeats 4000000 in
set_option maxRecDepth 100000 in
theorem cmX9_draw {D : va_G} {cyI cyO : ClassId} {ad : Nat → Nat} {n : Nat} {l : Launch} (hn : 60 ≤ n) {x1 : Int32} {x2 : Int32} {σ : St} {sz : Nat} {Φ : Int32 → St → Prop} (h : wpX9_draw x1 x2 σ Φ) : gMet D (tyL cyI cyO) (cCell ad cyI cyO) ad n l yX9_draw cX9_draw 8 (some .int) rmX9_draw [.ref (ad 56), .int x1, .int x2] σ sz (gQi D (cCell ad cyI cyO) ad n sz Φ) := by
  refine gMet.of (by decide) (Nat.le_of_ble_eq_true rfl) ?_
  intro p e s m below meth c ls hsz C hl wd
  subst hsz
  have C : Cx p s m _ meth c cX9_draw 8 (some .int) RX9 := C
  obtain ⟨hx, hb, hr, hml, hown, hts, hlk⟩ := id C
  have hl : lv_has ls 8 [(0, .ref (ad 56)), (1, .int x1), (2, .int x2)] := hl
  unfold wpX9_draw at h
  refine lv_iload_n hx hb dX9_draw_0 rfl (lv_at hl 1 rfl) ?_
  refine lv_iconst (v := (0 : Int32)) hx hb dX9_draw_1 (by decide) ?_
  refine lv_ldc (v := (999999 : Int32)) hx hb hown (hts _ tw2_237) dX9_draw_2 ?_
  refine gCi wd (gRunS (y := yX9_within) (As := [.int x1, .int (0 : Int32), .int (999999 : Int32)]) (rest := []) C wd (cmX9_within h) ⟨rfl, rfl⟩ gd_X9_37 nk_X9_within ⟨Nat.le_of_ble_eq_true rfl, Nat.le_of_ble_eq_true rfl⟩ hl.1 (Nat.le_of_ble_eq_true rfl) dX9_draw_4 rfl) (fun r2 t1 H locs h wd => ?_)
  try dsimp only at h
  refine lv_if_eq (tgt := 24) hx hb dX9_draw_7 (by decide) (fun c3 => ?_) (fun c3 => ?_)
  · have h := h.1 c3
    exact blX9_draw_24 hn C h wd (lv_sub hl [0, 1, 2] rfl)
  · have h := h.2 c3
    refine lv_iload_n hx hb dX9_draw_10 rfl (lv_at hl 2 rfl) ?_
    refine lv_iconst (v := (1 : Int32)) hx hb dX9_draw_11 (by decide) ?_
    refine lv_bipush (v := (60 : Int32)) hx hb dX9_draw_12 (by decide) ?_
    refine gCi wd (gRunS (y := yX9_within) (As := [.int x2, .int (1 : Int32), .int (60 : Int32)]) (rest := []) C wd (cmX9_within h) ⟨rfl, rfl⟩ gd_X9_37 nk_X9_within ⟨Nat.le_of_ble_eq_true rfl, Nat.le_of_ble_eq_true rfl⟩ hl.1 (Nat.le_of_ble_eq_true rfl) dX9_draw_14 rfl) (fun r5 t4 H locs h wd => ?_)
    try dsimp only at h
    refine lv_if_eq (tgt := 24) hx hb dX9_draw_17 (by decide) (fun c6 => ?_) (fun c6 => ?_)
    · have h := h.1 c6
      exact blX9_draw_24 hn C h wd (lv_sub hl [0, 1, 2] rfl)
    · have h := h.2 c6
      refine lv_iconst (v := (1 : Int32)) hx hb dX9_draw_20 (by decide) ?_
      refine lv_goto (tgt := 25) hx hb dX9_draw_21 (by decide) ?_
      exact blX9_draw_25 hn C h wd (lv_sub hl [0, 1, 2] rfl)
abbrev rmX9_of : Room := rmOf 5 111
def wbX9_of_49 (Φ : Int32 → St → Prop) (z1 : Int32) (σ : St) : Prop :=
  wpX7_counted z1 σ (fun r2 t1 => Φ r2 t1)
set_option maxHeartbeats 4000000 in
set_option maxRecDepth 100000 in
theorem blX9_of_49 {p : Program} {l : Launch} {e : Env} {s : State} {m : MethodId} {args : Array Value} {below : List Frame} {meth : Method} {c : Code} (hn : 60 ≤ n) (C : Cx p s m args meth c cX9_of 4 (some .int) RX9) {Φ : Int32 → St → Prop} {z1 : Int32} {σ : St} {H : Heap} {locs : List Loc} {ls : Array Slot} (h : wbX9_of_49 Φ z1 σ) (wd : gWd D (tyL cyI cyO) (cCell ad cyI cyO) ad n s H locs σ) (hl : lv_has ls 4 []) : W p l e rmX9_of s m args below meth c H locs 0 0 (MQ below (gQi D (cCell ad cyI cyO) ad n s.heap.size Φ) args s 0 0 (gA ad n s.heap.size)) (F0 m 49 ls [.int z1, .ref (ad 59)]) := by
  obtain ⟨hx, hb, hr, hml, hown, hts, hlk⟩ := id C
  unfold wbX9_of_49 at h
  refine gCi wd (gRunV (y := yX7_counted) (k := 59) (As := [.int z1]) (rest := []) C wd (cmX7_counted (by omega) h) ⟨rfl, rfl⟩ gd_X9_41 nk_X7_counted ⟨Nat.le_of_ble_eq_true rfl, Nat.le_of_ble_eq_true rfl⟩ (by omega) cc_X7 rfl rfl hl.1 (Nat.le_of_ble_eq_true rfl) dX9_of_49 rfl) (fun r2 t1 H locs h wd => ?_)
  try dsimp only at h
  exact retI C wd h dX9_of_52
def wbX9_of_26 (Φ : Int32 → St → Prop) (x1 : Int32) (x2 : Int32) (z0 : Int32) (σ : St) : Prop :=
  ((z0 = 0 → wbX9_of_49 Φ (-2 : Int32) σ) ∧ (¬ z0 = 0 → wpX2_tellClerk x1 x2 σ (fun r3 t2 => wbX9_of_49 Φ r3 t2)))
set_option maxHeartbeats 4000000 in
set_option maxRecDepth 100000 in
theorem blX9_of_26 {p : Program} {l : Launch} {e : Env} {s : State} {m : MethodId} {args : Array Value} {below : List Frame} {meth : Method} {c : Code} (hn : 60 ≤ n) (C : Cx p s m args meth c cX9_of 4 (some .int) RX9) {Φ : Int32 → St → Prop} {x1 : Int32} {x2 : Int32} {z0 : Int32} {σ : St} {H : Heap} {locs : List Loc} {ls : Array Slot} (h : wbX9_of_26 Φ x1 x2 z0 σ) (wd : gWd D (tyL cyI cyO) (cCell ad cyI cyO) ad n s H locs σ) (hl : lv_has ls 4 [(0, .ref (ad 56)), (1, .int x1), (2, .int x2)]) : W p l e rmX9_of s m args below meth c H locs 0 0 (MQ below (gQi D (cCell ad cyI cyO) ad n s.heap.size Φ) args s 0 0 (gA ad n s.heap.size)) (F0 m 26 ls [.int z0]) := by
  obtain ⟨hx, hb, hr, hml, hown, hts, hlk⟩ := id C
  unfold wbX9_of_26 at h
  refine lv_istore_n (lv' := [(3, .int z0), (0, .ref (ad 56)), (1, .int x1), (2, .int x2)]) hx hb dX9_of_26 rfl hl (by decide) rfl (fun ls hl => ?_)
  refine lv_aload_n hx hb dX9_of_27 rfl (lv_at hl 1 rfl) ?_
  refine getF C wd (k := 56) (Cn := RX9) (T := TX9) (N := 4) (v := .ref (ad 59)) (by omega) cc_X9 rfl 3 (by decide) rfl inX9 tw2_45 dX9_of_28 ?_
  refine lv_iload_n hx hb dX9_of_31 rfl (lv_at hl 0 rfl) ?_
  refine lv_if_eq (tgt := 47) hx hb dX9_of_32 (by decide) (fun c1 => ?_) (fun c1 => ?_)
  · have h := h.1 c1
    refine lv_bipush (v := (-2 : Int32)) hx hb dX9_of_47 (by decide) ?_
    exact blX9_of_49 hn C h wd (lv_sub hl [] rfl)
  · have h := h.2 c1
    refine lv_aload_n hx hb dX9_of_35 rfl (lv_at hl 1 rfl) ?_
    refine getF C wd (k := 56) (Cn := RX9) (T := TX9) (N := 4) (v := .ref (ad 0)) (by omega) cc_X9 rfl 0 (by decide) rfl inX9 tw2_42 dX9_of_36 ?_
    refine lv_iload_n hx hb dX9_of_39 rfl (lv_at hl 2 rfl) ?_
    refine lv_iload_n hx hb dX9_of_40 rfl (lv_at hl 3 rfl) ?_
    refine gCi wd (gRunV (y := yX2_tellClerk) (k := 0) (As := [.int x1, .int x2]) (rest := [.ref (ad 59)]) C wd (cmX2_tellClerk (by omega) h) ⟨rfl, rfl⟩ gd_X9_87 nk_X2_tellClerk ⟨Nat.le_of_ble_eq_true rfl, Nat.le_of_ble_eq_true rfl⟩ (by omega) cc_X2 rfl rfl hl.1 (Nat.le_of_ble_eq_true rfl) dX9_of_41 rfl) (fun r3 t2 H locs h wd => ?_)
    try dsimp only at h
    refine lv_goto (tgt := 49) hx hb dX9_of_44 (by decide) ?_
    exact blX9_of_49 hn C h wd (lv_sub hl [] rfl)
def wbX9_of_25 (Φ : Int32 → St → Prop) (x1 : Int32) (x2 : Int32) (σ : St) : Prop :=
  wbX9_of_26 Φ x1 x2 (0 : Int32) σ
set_option maxHeartbeats 4000000 in
set_option maxRecDepth 100000 in
theorem blX9_of_25 {p : Program} {l : Launch} {e : Env} {s : State} {m : MethodId} {args : Array Value} {below : List Frame} {meth : Method} {c : Code} (hn : 60 ≤ n) (C : Cx p s m args meth c cX9_of 4 (some .int) RX9) {Φ : Int32 → St → Prop} {x1 : Int32} {x2 : Int32} {σ : St} {H : Heap} {locs : List Loc} {ls : Array Slot} (h : wbX9_of_25 Φ x1 x2 σ) (wd : gWd D (tyL cyI cyO) (cCell ad cyI cyO) ad n s H locs σ) (hl : lv_has ls 4 [(0, .ref (ad 56)), (1, .int x1), (2, .int x2)]) : W p l e rmX9_of s m args below meth c H locs 0 0 (MQ below (gQi D (cCell ad cyI cyO) ad n s.heap.size Φ) args s 0 0 (gA ad n s.heap.size)) (F0 m 25 ls []) := by
  obtain ⟨hx, hb, hr, hml, hown, hts, hlk⟩ := id C
  unfold wbX9_of_25 at h
  refine lv_iconst (v := (0 : Int32)) hx hb dX9_of_25 (by decide) ?_
  exact blX9_of_26 hn C h wd (lv_sub hl [0, 1, 2] rfl)
def wpX9_of (x1 : Int32) (x2 : Int32) (σ : St) (Φ : Int32 → St → Prop) : Prop :=
  wpX2_hasClerk x1 σ (fun r2 t1 => ((r2 = 0 → wbX9_of_25 Φ x1 x2 t1) ∧ (¬ r2 = 0 → wpX9_within x2 (0 : Int32) (7 : Int32) t1 (fun r5 t4 => ((r5 = 0 → wbX9_of_25 Φ x1 x2 t4) ∧ (¬ r5 = 0 → wbX9_of_26 Φ x1 x2 (1 : Int32) t4))))))
set_option maxHeartbeats 4000000 in
set_option maxRecDepth 100000 in
theorem cmX9_of {D : va_G} {cyI cyO : ClassId} {ad : Nat → Nat} {n : Nat} {l : Launch} (hn : 60 ≤ n) {x1 : Int32} {x2 : Int32} {σ : St} {sz : Nat} {Φ : Int32 → St → Prop} (h : wpX9_of x1 x2 σ Φ) : gMet D (tyL cyI cyO) (cCell ad cyI cyO) ad n l yX9_of cX9_of 4 (some .int) rmX9_of [.ref (ad 56), .int x1, .int x2] σ sz (gQi D (cCell ad cyI cyO) ad n sz Φ) := by
  refine gMet.of (by decide) (Nat.le_of_ble_eq_true rfl) ?_
  intro p e s m below meth c ls hsz C hl wd
  subst hsz
  have C : Cx p s m _ meth c cX9_of 4 (some .int) RX9 := C
  obtain ⟨hx, hb, hr, hml, hown, hts, hlk⟩ := id C
  have hl : lv_has ls 4 [(0, .ref (ad 56)), (1, .int x1), (2, .int x2)] := hl
  unfold wpX9_of at h
  refine lv_aload_n hx hb dX9_of_0 rfl (lv_at hl 0 rfl) ?_
  refine getF C wd (k := 56) (Cn := RX9) (T := TX9) (N := 4) (v := .ref (ad 0)) (by omega) cc_X9 rfl 0 (by decide) rfl inX9 tw2_42 dX9_of_1 ?_
  refine lv_iload_n hx hb dX9_of_4 rfl (lv_at hl 1 rfl) ?_
  refine gCi wd (gRunV (y := yX2_hasClerk) (k := 0) (As := [.int x1]) (rest := []) C wd (cmX2_hasClerk (by omega) h) ⟨rfl, rfl⟩ gd_X9_53 nk_X2_hasClerk ⟨Nat.le_of_ble_eq_true rfl, Nat.le_of_ble_eq_true rfl⟩ (by omega) cc_X2 rfl rfl hl.1 (Nat.le_of_ble_eq_true rfl) dX9_of_5 rfl) (fun r2 t1 H locs h wd => ?_)
  try dsimp only at h
  refine lv_if_eq (tgt := 25) hx hb dX9_of_8 (by decide) (fun c3 => ?_) (fun c3 => ?_)
  · have h := h.1 c3
    exact blX9_of_25 hn C h wd (lv_sub hl [0, 1, 2] rfl)
  · have h := h.2 c3
    refine lv_iload_n hx hb dX9_of_11 rfl (lv_at hl 2 rfl) ?_
    refine lv_iconst (v := (0 : Int32)) hx hb dX9_of_12 (by decide) ?_
    refine lv_bipush (v := (7 : Int32)) hx hb dX9_of_13 (by decide) ?_
    refine gCi wd (gRunS (y := yX9_within) (As := [.int x2, .int (0 : Int32), .int (7 : Int32)]) (rest := []) C wd (cmX9_within h) ⟨rfl, rfl⟩ gd_X9_37 nk_X9_within ⟨Nat.le_of_ble_eq_true rfl, Nat.le_of_ble_eq_true rfl⟩ hl.1 (Nat.le_of_ble_eq_true rfl) dX9_of_15 rfl) (fun r5 t4 H locs h wd => ?_)
    try dsimp only at h
    refine lv_if_eq (tgt := 25) hx hb dX9_of_18 (by decide) (fun c6 => ?_) (fun c6 => ?_)
    · have h := h.1 c6
      exact blX9_of_25 hn C h wd (lv_sub hl [0, 1, 2] rfl)
    · have h := h.2 c6
      refine lv_iconst (v := (1 : Int32)) hx hb dX9_of_21 (by decide) ?_
      refine lv_goto (tgt := 26) hx hb dX9_of_22 (by decide) ?_
      exact blX9_of_26 hn C h wd (lv_sub hl [0, 1, 2] rfl)
abbrev rmX9_page : Room := rmOf 3 68
def wbX9_page_69 (Φ : Int32 → St → Prop) (z1 : Int32) (σ : St) : Prop :=
  wpX7_counted z1 σ (fun r2 t1 => Φ r2 t1)
set_option maxHeartbeats 4000000 in
set_option maxRecDepth 100000 in
theorem blX9_page_69 {p : Program} {l : Launch} {e : Env} {s : State} {m : MethodId} {args : Array Value} {below : List Frame} {meth : Method} {c : Code} (hn : 60 ≤ n) (C : Cx p s m args meth c cX9_page 6 (some .int) RX9) {Φ : Int32 → St → Prop} {z1 : Int32} {σ : St} {H : Heap} {locs : List Loc} {ls : Array Slot} (h : wbX9_page_69 Φ z1 σ) (wd : gWd D (tyL cyI cyO) (cCell ad cyI cyO) ad n s H locs σ) (hl : lv_has ls 6 []) : W p l e rmX9_page s m args below meth c H locs 0 0 (MQ below (gQi D (cCell ad cyI cyO) ad n s.heap.size Φ) args s 0 0 (gA ad n s.heap.size)) (F0 m 69 ls [.int z1, .ref (ad 59)]) := by
  obtain ⟨hx, hb, hr, hml, hown, hts, hlk⟩ := id C
  unfold wbX9_page_69 at h
  refine gCi wd (gRunV (y := yX7_counted) (k := 59) (As := [.int z1]) (rest := []) C wd (cmX7_counted (by omega) h) ⟨rfl, rfl⟩ gd_X9_41 nk_X7_counted ⟨Nat.le_of_ble_eq_true rfl, Nat.le_of_ble_eq_true rfl⟩ (by omega) cc_X7 rfl rfl hl.1 (Nat.le_of_ble_eq_true rfl) dX9_page_69 rfl) (fun r2 t1 H locs h wd => ?_)
  try dsimp only at h
  exact retI C wd h dX9_page_72
def wbX9_page_41 (Φ : Int32 → St → Prop) (x1 : Int32) (x2 : Int32) (x3 : Int32) (x4 : Int32) (z0 : Int32) (σ : St) : Prop :=
  ((z0 = 0 → wbX9_page_69 Φ (-2 : Int32) σ) ∧ (¬ z0 = 0 → wpX2_tellPage x1 x2 x3 x4 σ (fun r3 t2 => wbX9_page_69 Φ r3 t2)))
set_option maxHeartbeats 4000000 in
set_option maxRecDepth 100000 in
theorem blX9_page_41 {p : Program} {l : Launch} {e : Env} {s : State} {m : MethodId} {args : Array Value} {below : List Frame} {meth : Method} {c : Code} (hn : 60 ≤ n) (C : Cx p s m args meth c cX9_page 6 (some .int) RX9) {Φ : Int32 → St → Prop} {x1 : Int32} {x2 : Int32} {x3 : Int32} {x4 : Int32} {z0 : Int32} {σ : St} {H : Heap} {locs : List Loc} {ls : Array Slot} (h : wbX9_page_41 Φ x1 x2 x3 x4 z0 σ) (wd : gWd D (tyL cyI cyO) (cCell ad cyI cyO) ad n s H locs σ) (hl : lv_has ls 6 [(0, .ref (ad 56)), (1, .int x1), (2, .int x2), (3, .int x3), (4, .int x4)]) : W p l e rmX9_page s m args below meth c H locs 0 0 (MQ below (gQi D (cCell ad cyI cyO) ad n s.heap.size Φ) args s 0 0 (gA ad n s.heap.size)) (F0 m 41 ls [.int z0]) := by
  obtain ⟨hx, hb, hr, hml, hown, hts, hlk⟩ := id C
  unfold wbX9_page_41 at h
  refine lv_istore (lv' := [(5, .int z0), (0, .ref (ad 56)), (1, .int x1), (2, .int x2), (3, .int x3), (4, .int x4)]) hx hb dX9_page_41 hl (by decide) rfl (fun ls hl => ?_)
  refine lv_aload_n hx hb dX9_page_43 rfl (lv_at hl 1 rfl) ?_
  refine getF C wd (k := 56) (Cn := RX9) (T := TX9) (N := 4) (v := .ref (ad 59)) (by omega) cc_X9 rfl 3 (by decide) rfl inX9 tw2_45 dX9_page_44 ?_
  refine lv_iload hx hb dX9_page_47 (lv_at hl 0 rfl) ?_
  refine lv_if_eq (tgt := 67) hx hb dX9_page_49 (by decide) (fun c1 => ?_) (fun c1 => ?_)
  · have h := h.1 c1
    refine lv_bipush (v := (-2 : Int32)) hx hb dX9_page_67 (by decide) ?_
    exact blX9_page_69 hn C h wd (lv_sub hl [] rfl)
  · have h := h.2 c1
    refine lv_aload_n hx hb dX9_page_52 rfl (lv_at hl 1 rfl) ?_
    refine getF C wd (k := 56) (Cn := RX9) (T := TX9) (N := 4) (v := .ref (ad 0)) (by omega) cc_X9 rfl 0 (by decide) rfl inX9 tw2_42 dX9_page_53 ?_
    refine lv_iload_n hx hb dX9_page_56 rfl (lv_at hl 2 rfl) ?_
    refine lv_iload_n hx hb dX9_page_57 rfl (lv_at hl 3 rfl) ?_
    refine lv_iload_n hx hb dX9_page_58 rfl (lv_at hl 4 rfl) ?_
    refine lv_iload hx hb dX9_page_59 (lv_at hl 5 rfl) ?_
    refine gCi wd (gRunV (y := yX2_tellPage) (k := 0) (As := [.int x1, .int x2, .int x3, .int x4]) (rest := [.ref (ad 59)]) C wd (cmX2_tellPage (by omega) h) ⟨rfl, rfl⟩ gd_X9_90 nk_X2_tellPage ⟨Nat.le_of_ble_eq_true rfl, Nat.le_of_ble_eq_true rfl⟩ (by omega) cc_X2 rfl rfl hl.1 (Nat.le_of_ble_eq_true rfl) dX9_page_61 rfl) (fun r3 t2 H locs h wd => ?_)
    try dsimp only at h
    refine lv_goto (tgt := 69) hx hb dX9_page_64 (by decide) ?_
    exact blX9_page_69 hn C h wd (lv_sub hl [] rfl)
def wbX9_page_40 (Φ : Int32 → St → Prop) (x1 : Int32) (x2 : Int32) (x3 : Int32) (x4 : Int32) (σ : St) : Prop :=
  wbX9_page_41 Φ x1 x2 x3 x4 (0 : Int32) σ
set_option maxHeartbeats 4000000 in
set_option maxRecDepth 100000 in
theorem blX9_page_40 {p : Program} {l : Launch} {e : Env} {s : State} {m : MethodId} {args : Array Value} {below : List Frame} {meth : Method} {c : Code} (hn : 60 ≤ n) (C : Cx p s m args meth c cX9_page 6 (some .int) RX9) {Φ : Int32 → St → Prop} {x1 : Int32} {x2 : Int32} {x3 : Int32} {x4 : Int32} {σ : St} {H : Heap} {locs : List Loc} {ls : Array Slot} (h : wbX9_page_40 Φ x1 x2 x3 x4 σ) (wd : gWd D (tyL cyI cyO) (cCell ad cyI cyO) ad n s H locs σ) (hl : lv_has ls 6 [(0, .ref (ad 56)), (1, .int x1), (2, .int x2), (3, .int x3), (4, .int x4)]) : W p l e rmX9_page s m args below meth c H locs 0 0 (MQ below (gQi D (cCell ad cyI cyO) ad n s.heap.size Φ) args s 0 0 (gA ad n s.heap.size)) (F0 m 40 ls []) := by
  obtain ⟨hx, hb, hr, hml, hown, hts, hlk⟩ := id C
  unfold wbX9_page_40 at h
  refine lv_iconst (v := (0 : Int32)) hx hb dX9_page_40 (by decide) ?_
  exact blX9_page_41 hn C h wd (lv_sub hl [0, 1, 2, 3, 4] rfl)
def wpX9_page (x1 : Int32) (x2 : Int32) (x3 : Int32) (x4 : Int32) (σ : St) (Φ : Int32 → St → Prop) : Prop :=
  wpX2_hasClerk x1 σ (fun r2 t1 => ((r2 = 0 → wbX9_page_40 Φ x1 x2 x3 x4 t1) ∧ (¬ r2 = 0 → ((x2 < 0 → wbX9_page_40 Φ x1 x2 x3 x4 t1) ∧ (¬ x2 < 0 → wpX2_hasClerk x3 t1 (fun r6 t5 => ((r6 = 0 → wbX9_page_40 Φ x1 x2 x3 x4 t5) ∧ (¬ r6 = 0 → wpX9_within x4 (0 : Int32) (3 : Int32) t5 (fun r9 t8 => ((r9 = 0 → wbX9_page_40 Φ x1 x2 x3 x4 t8) ∧ (¬ r9 = 0 → wbX9_page_41 Φ x1 x2 x3 x4 (1 : Int32) t8)))))))))))
set_option maxHeartbeats 4000000 in
set_option maxRecDepth 100000 in
theorem cmX9_page {D : va_G} {cyI cyO : ClassId} {ad : Nat → Nat} {n : Nat} {l : Launch} (hn : 60 ≤ n) {x1 : Int32} {x2 : Int32} {x3 : Int32} {x4 : Int32} {σ : St} {sz : Nat} {Φ : Int32 → St → Prop} (h : wpX9_page x1 x2 x3 x4 σ Φ) : gMet D (tyL cyI cyO) (cCell ad cyI cyO) ad n l yX9_page cX9_page 6 (some .int) rmX9_page [.ref (ad 56), .int x1, .int x2, .int x3, .int x4] σ sz (gQi D (cCell ad cyI cyO) ad n sz Φ) := by
  refine gMet.of (by decide) (Nat.le_of_ble_eq_true rfl) ?_
  intro p e s m below meth c ls hsz C hl wd
  subst hsz
  have C : Cx p s m _ meth c cX9_page 6 (some .int) RX9 := C
  obtain ⟨hx, hb, hr, hml, hown, hts, hlk⟩ := id C
  have hl : lv_has ls 6 [(0, .ref (ad 56)), (1, .int x1), (2, .int x2), (3, .int x3), (4, .int x4)] := hl
  unfold wpX9_page at h
  refine lv_aload_n hx hb dX9_page_0 rfl (lv_at hl 0 rfl) ?_
  refine getF C wd (k := 56) (Cn := RX9) (T := TX9) (N := 4) (v := .ref (ad 0)) (by omega) cc_X9 rfl 0 (by decide) rfl inX9 tw2_42 dX9_page_1 ?_
  refine lv_iload_n hx hb dX9_page_4 rfl (lv_at hl 1 rfl) ?_
  refine gCi wd (gRunV (y := yX2_hasClerk) (k := 0) (As := [.int x1]) (rest := []) C wd (cmX2_hasClerk (by omega) h) ⟨rfl, rfl⟩ gd_X9_53 nk_X2_hasClerk ⟨Nat.le_of_ble_eq_true rfl, Nat.le_of_ble_eq_true rfl⟩ (by omega) cc_X2 rfl rfl hl.1 (Nat.le_of_ble_eq_true rfl) dX9_page_5 rfl) (fun r2 t1 H locs h wd => ?_)
  try dsimp only at h
  refine lv_if_eq (tgt := 40) hx hb dX9_page_8 (by decide) (fun c3 => ?_) (fun c3 => ?_)
  · have h := h.1 c3
    exact blX9_page_40 hn C h wd (lv_sub hl [0, 1, 2, 3, 4] rfl)
  · have h := h.2 c3
    refine lv_iload_n hx hb dX9_page_11 rfl (lv_at hl 2 rfl) ?_
    refine lv_if_lt (tgt := 40) hx hb dX9_page_12 (by decide) (fun c4 => ?_) (fun c4 => ?_)
    · have h := h.1 c4
      exact blX9_page_40 hn C h wd (lv_sub hl [0, 1, 2, 3, 4] rfl)
    · have h := h.2 c4
      refine lv_aload_n hx hb dX9_page_15 rfl (lv_at hl 0 rfl) ?_
      refine getF C wd (k := 56) (Cn := RX9) (T := TX9) (N := 4) (v := .ref (ad 0)) (by omega) cc_X9 rfl 0 (by decide) rfl inX9 tw2_42 dX9_page_16 ?_
      refine lv_iload_n hx hb dX9_page_19 rfl (lv_at hl 3 rfl) ?_
      refine gCi wd (gRunV (y := yX2_hasClerk) (k := 0) (As := [.int x3]) (rest := []) C wd (cmX2_hasClerk (by omega) h) ⟨rfl, rfl⟩ gd_X9_53 nk_X2_hasClerk ⟨Nat.le_of_ble_eq_true rfl, Nat.le_of_ble_eq_true rfl⟩ (by omega) cc_X2 rfl rfl hl.1 (Nat.le_of_ble_eq_true rfl) dX9_page_20 rfl) (fun r6 t5 H locs h wd => ?_)
      try dsimp only at h
      refine lv_if_eq (tgt := 40) hx hb dX9_page_23 (by decide) (fun c7 => ?_) (fun c7 => ?_)
      · have h := h.1 c7
        exact blX9_page_40 hn C h wd (lv_sub hl [0, 1, 2, 3, 4] rfl)
      · have h := h.2 c7
        refine lv_iload hx hb dX9_page_26 (lv_at hl 4 rfl) ?_
        refine lv_iconst (v := (0 : Int32)) hx hb dX9_page_28 (by decide) ?_
        refine lv_iconst (v := (3 : Int32)) hx hb dX9_page_29 (by decide) ?_
        refine gCi wd (gRunS (y := yX9_within) (As := [.int x4, .int (0 : Int32), .int (3 : Int32)]) (rest := []) C wd (cmX9_within h) ⟨rfl, rfl⟩ gd_X9_37 nk_X9_within ⟨Nat.le_of_ble_eq_true rfl, Nat.le_of_ble_eq_true rfl⟩ hl.1 (Nat.le_of_ble_eq_true rfl) dX9_page_30 rfl) (fun r9 t8 H locs h wd => ?_)
        try dsimp only at h
        refine lv_if_eq (tgt := 40) hx hb dX9_page_33 (by decide) (fun c10 => ?_) (fun c10 => ?_)
        · have h := h.1 c10
          exact blX9_page_40 hn C h wd (lv_sub hl [0, 1, 2, 3, 4] rfl)
        · have h := h.2 c10
          refine lv_iconst (v := (1 : Int32)) hx hb dX9_page_36 (by decide) ?_
          refine lv_goto (tgt := 41) hx hb dX9_page_37 (by decide) ?_
          exact blX9_page_41 hn C h wd (lv_sub hl [0, 1, 2, 3, 4] rfl)
end
