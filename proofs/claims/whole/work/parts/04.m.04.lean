section
variable {D : va_G} {cyI cyO : ClassId} {ad : Nat → Nat} {n : Nat}
abbrev rmX10_draws : Room := rmOf 4 96
def wpX10_draws (x1 : Int32) (x2 : Int32) (x3 : Int32) (σ : St) (Φ : Int32 → St → Prop) : Prop :=
  (((3 : Int32) ≤ x2 → (((5 : Int32) ≤ x2 → (((7 : Int32) ≤ x2 → ((x2 = (7 : Int32) → wpX10_becomesWritten x1 (2 : Int32) σ (fun r9 t8 => ((r9 < 0 → Φ (0 : Int32) t8) ∧ (¬ r9 < 0 → Φ (1 : Int32) t8)))) ∧ (¬ x2 = (7 : Int32) → wpX10_saysNow x1 σ (fun r6 t5 => ((r6 = (-4 : Int32) → Φ (0 : Int32) t5) ∧ (¬ r6 = (-4 : Int32) → Φ (1 : Int32) t5)))))) ∧ (¬ (7 : Int32) ≤ x2 → wpX10_gets x1 (0 : Int32) σ (fun r12 t11 => ((r12 < (-1 : Int32) → Φ (0 : Int32) t11) ∧ (¬ r12 < (-1 : Int32) → Φ (1 : Int32) t11)))))) ∧ (¬ (5 : Int32) ≤ x2 → (¬ (σ.1 0) = 0 ∧ wpX10_sends x1 ((x1 + (1 : Int32)) - (x1 + (1 : Int32)) / (σ.1 0) * (σ.1 0)) σ (fun r16 t15 => ((r16 = (-4 : Int32) → Φ (0 : Int32) t15) ∧ (¬ r16 = (-4 : Int32) → Φ (1 : Int32) t15))))))) ∧ (¬ (3 : Int32) ≤ x2 → wpX10_writesPage x1 x3 σ (fun r19 t18 => ((r19 = (-4 : Int32) → Φ (0 : Int32) t18) ∧ (¬ r19 = (-4 : Int32) → Φ (1 : Int32) t18)))))
set_option maxHeartbeats 4000000 in
set_option maxRecDepth 100000 in
theorem cmX10_draws {D : va_G} {cyI cyO : ClassId} {ad : Nat → Nat} {l : Launch} {x1 : Int32} {x2 : Int32} {x3 : Int32} {σ : St} {sz : Nat} {Φ : Int32 → St → Prop} (h : wpX10_draws x1 x2 x3 σ Φ) : gMet D (tyL cyI cyO) (mCell ad cyI cyO) ad 16 l yX10_draws cX10_draws 4 (some .boolean) rmX10_draws [.ref (ad 0), .int x1, .int x2, .int x3] σ sz (gQi D (mCell ad cyI cyO) ad 16 sz Φ) := by
  refine gMet.of (by decide) (Nat.le_of_ble_eq_true rfl) ?_
  intro p e s m below meth c ls hsz C hl wd
  subst hsz
  have C : Cx p s m _ meth c cX10_draws 4 (some .boolean) RX10 := C
  obtain ⟨hx, hb, hr, hml, hown, hts, hlk⟩ := id C
  have hl : lv_has ls 4 [(0, .ref (ad 0)), (1, .int x1), (2, .int x2), (3, .int x3)] := hl
  unfold wpX10_draws at h
  refine lv_iload_n hx hb dX10_draws_0 rfl (lv_at hl 2 rfl) ?_
  refine lv_iconst (v := (3 : Int32)) hx hb dX10_draws_1 (by decide) ?_
  refine lv_icmp_ge (tgt := 22) hx hb dX10_draws_2 (by decide) (fun c1 => ?_) (fun c1 => ?_)
  · have h := h.1 c1
    refine lv_iload_n hx hb dX10_draws_22 rfl (lv_at hl 2 rfl) ?_
    refine lv_iconst (v := (5 : Int32)) hx hb dX10_draws_23 (by decide) ?_
    refine lv_icmp_ge (tgt := 51) hx hb dX10_draws_24 (by decide) (fun c2 => ?_) (fun c2 => ?_)
    · have h := h.1 c2
      refine lv_iload_n hx hb dX10_draws_51 rfl (lv_at hl 2 rfl) ?_
      refine lv_bipush (v := (7 : Int32)) hx hb dX10_draws_52 (by decide) ?_
      refine lv_icmp_ge (tgt := 73) hx hb dX10_draws_54 (by decide) (fun c3 => ?_) (fun c3 => ?_)
      · have h := h.1 c3
        refine lv_iload_n hx hb dX10_draws_73 rfl (lv_at hl 2 rfl) ?_
        refine lv_bipush (v := (7 : Int32)) hx hb dX10_draws_74 (by decide) ?_
        refine lv_icmp_ne (tgt := 94) hx hb dX10_draws_76 (by decide) (fun c4 => ?_) (fun c4 => ?_)
        · have h := h.2 c4
          refine lv_aload_n hx hb dX10_draws_94 rfl (lv_at hl 0 rfl) ?_
          refine lv_iload_n hx hb dX10_draws_95 rfl (lv_at hl 1 rfl) ?_
          refine gCi wd (gRunV (y := yX10_saysNow) (k := 0) (As := [.int x1]) (rest := []) C wd (cmX10_saysNow h) ⟨rfl, rfl⟩ gd_X10_188 nk_X10_saysNow ⟨Nat.le_of_ble_eq_true rfl, Nat.le_of_ble_eq_true rfl⟩ (by decide) mc_X10 rfl rfl hl.1 (Nat.le_of_ble_eq_true rfl) dX10_draws_96 rfl) (fun r6 t5 H locs h wd => ?_)
          try dsimp only at h
          refine lv_bipush (v := (-4 : Int32)) hx hb dX10_draws_99 (by decide) ?_
          refine lv_icmp_eq (tgt := 108) hx hb dX10_draws_101 (by decide) (fun c7 => ?_) (fun c7 => ?_)
          · have h := h.1 c7
            refine lv_iconst (v := (0 : Int32)) hx hb dX10_draws_108 (by decide) ?_
            exact retZ C wd rfl h dX10_draws_109
          · have h := h.2 c7
            refine lv_iconst (v := (1 : Int32)) hx hb dX10_draws_104 (by decide) ?_
            refine lv_goto (tgt := 109) hx hb dX10_draws_105 (by decide) ?_
            exact retZ C wd rfl h dX10_draws_109
        · have h := h.1 c4
          refine lv_aload_n hx hb dX10_draws_79 rfl (lv_at hl 0 rfl) ?_
          refine lv_iload_n hx hb dX10_draws_80 rfl (lv_at hl 1 rfl) ?_
          refine lv_iconst (v := (2 : Int32)) hx hb dX10_draws_81 (by decide) ?_
          refine gCi wd (gRunV (y := yX10_becomesWritten) (k := 0) (As := [.int x1, .int (2 : Int32)]) (rest := []) C wd (cmX10_becomesWritten h) ⟨rfl, rfl⟩ gd_X10_133 nk_X10_becomesWritten ⟨Nat.le_of_ble_eq_true rfl, Nat.le_of_ble_eq_true rfl⟩ (by decide) mc_X10 rfl rfl hl.1 (Nat.le_of_ble_eq_true rfl) dX10_draws_82 rfl) (fun r9 t8 H locs h wd => ?_)
          try dsimp only at h
          refine lv_if_lt (tgt := 92) hx hb dX10_draws_85 (by decide) (fun c10 => ?_) (fun c10 => ?_)
          · have h := h.1 c10
            refine lv_iconst (v := (0 : Int32)) hx hb dX10_draws_92 (by decide) ?_
            exact retZ C wd rfl h dX10_draws_93
          · have h := h.2 c10
            refine lv_iconst (v := (1 : Int32)) hx hb dX10_draws_88 (by decide) ?_
            refine lv_goto (tgt := 93) hx hb dX10_draws_89 (by decide) ?_
            exact retZ C wd rfl h dX10_draws_93
      · have h := h.2 c3
        refine lv_aload_n hx hb dX10_draws_57 rfl (lv_at hl 0 rfl) ?_
        refine lv_iload_n hx hb dX10_draws_58 rfl (lv_at hl 1 rfl) ?_
        refine lv_iconst (v := (0 : Int32)) hx hb dX10_draws_59 (by decide) ?_
        refine gCi wd (gRunV (y := yX10_gets) (k := 0) (As := [.int x1, .int (0 : Int32)]) (rest := []) C wd (cmX10_gets h) ⟨rfl, rfl⟩ gd_X10_128 nk_X10_gets ⟨Nat.le_of_ble_eq_true rfl, Nat.le_of_ble_eq_true rfl⟩ (by decide) mc_X10 rfl rfl hl.1 (Nat.le_of_ble_eq_true rfl) dX10_draws_60 rfl) (fun r12 t11 H locs h wd => ?_)
        try dsimp only at h
        refine lv_iconst (v := (-1 : Int32)) hx hb dX10_draws_63 (by decide) ?_
        refine lv_icmp_lt (tgt := 71) hx hb dX10_draws_64 (by decide) (fun c13 => ?_) (fun c13 => ?_)
        · have h := h.1 c13
          refine lv_iconst (v := (0 : Int32)) hx hb dX10_draws_71 (by decide) ?_
          exact retZ C wd rfl h dX10_draws_72
        · have h := h.2 c13
          refine lv_iconst (v := (1 : Int32)) hx hb dX10_draws_67 (by decide) ?_
          refine lv_goto (tgt := 72) hx hb dX10_draws_68 (by decide) ?_
          exact retZ C wd rfl h dX10_draws_72
    · have h := h.2 c2
      refine lv_aload_n hx hb dX10_draws_27 rfl (lv_at hl 0 rfl) ?_
      refine lv_iload_n hx hb dX10_draws_28 rfl (lv_at hl 1 rfl) ?_
      refine lv_iload_n hx hb dX10_draws_29 rfl (lv_at hl 1 rfl) ?_
      refine lv_iconst (v := (1 : Int32)) hx hb dX10_draws_30 (by decide) ?_
      refine lv_iadd hx hb dX10_draws_31 ?_
      refine lv_aload_n hx hb dX10_draws_32 rfl (lv_at hl 0 rfl) ?_
      refine getF C wd (k := 0) (Cn := RX10) (T := TX10) (N := 26) (v := .int (σ.1 0)) (by decide) mc_X10 rfl 0 (by decide) rfl inX10 tw4_26 dX10_draws_33 ?_
      obtain ⟨hz14, h⟩ := h
      refine lv_irem hx hb dX10_draws_36 hz14 ?_
      refine gCi wd (gRunV (y := yX10_sends) (k := 0) (As := [.int x1, .int ((x1 + (1 : Int32)) - (x1 + (1 : Int32)) / (σ.1 0) * (σ.1 0))]) (rest := []) C wd (cmX10_sends h) ⟨rfl, rfl⟩ gd_X10_111 nk_X10_sends ⟨Nat.le_of_ble_eq_true rfl, Nat.le_of_ble_eq_true rfl⟩ (by decide) mc_X10 rfl rfl hl.1 (Nat.le_of_ble_eq_true rfl) dX10_draws_37 rfl) (fun r16 t15 H locs h wd => ?_)
      try dsimp only at h
      refine lv_bipush (v := (-4 : Int32)) hx hb dX10_draws_40 (by decide) ?_
      refine lv_icmp_eq (tgt := 49) hx hb dX10_draws_42 (by decide) (fun c17 => ?_) (fun c17 => ?_)
      · have h := h.1 c17
        refine lv_iconst (v := (0 : Int32)) hx hb dX10_draws_49 (by decide) ?_
        exact retZ C wd rfl h dX10_draws_50
      · have h := h.2 c17
        refine lv_iconst (v := (1 : Int32)) hx hb dX10_draws_45 (by decide) ?_
        refine lv_goto (tgt := 50) hx hb dX10_draws_46 (by decide) ?_
        exact retZ C wd rfl h dX10_draws_50
  · have h := h.2 c1
    refine lv_aload_n hx hb dX10_draws_5 rfl (lv_at hl 0 rfl) ?_
    refine lv_iload_n hx hb dX10_draws_6 rfl (lv_at hl 1 rfl) ?_
    refine lv_iload_n hx hb dX10_draws_7 rfl (lv_at hl 3 rfl) ?_
    refine gCi wd (gRunV (y := yX10_writesPage) (k := 0) (As := [.int x1, .int x3]) (rest := []) C wd (cmX10_writesPage h) ⟨rfl, rfl⟩ gd_X10_104 nk_X10_writesPage ⟨Nat.le_of_ble_eq_true rfl, Nat.le_of_ble_eq_true rfl⟩ (by decide) mc_X10 rfl rfl hl.1 (Nat.le_of_ble_eq_true rfl) dX10_draws_8 rfl) (fun r19 t18 H locs h wd => ?_)
    try dsimp only at h
    refine lv_bipush (v := (-4 : Int32)) hx hb dX10_draws_11 (by decide) ?_
    refine lv_icmp_eq (tgt := 20) hx hb dX10_draws_13 (by decide) (fun c20 => ?_) (fun c20 => ?_)
    · have h := h.1 c20
      refine lv_iconst (v := (0 : Int32)) hx hb dX10_draws_20 (by decide) ?_
      exact retZ C wd rfl h dX10_draws_21
    · have h := h.2 c20
      refine lv_iconst (v := (1 : Int32)) hx hb dX10_draws_16 (by decide) ?_
      refine lv_goto (tgt := 21) hx hb dX10_draws_17 (by decide) ?_
      exact retZ C wd rfl h dX10_draws_21
abbrev rmX10_draw : Room := rmOf 5 119
def wbX10_draw_24 (Φ : Int32 → St → Prop) (σ : St) : Prop :=
  wpX10_bad σ (fun r2 t1 => Φ r2 t1)
set_option maxHeartbeats 4000000 in
set_option maxRecDepth 100000 in
theorem blX10_draw_24 {p : Program} {l : Launch} {e : Env} {s : State} {m : MethodId} {args : Array Value} {below : List Frame} {meth : Method} {c : Code} (C : Cx p s m args meth c cX10_draw 7 (some .int) RX10) {Φ : Int32 → St → Prop} {σ : St} {H : Heap} {locs : List Loc} {ls : Array Slot} (h : wbX10_draw_24 Φ σ) (wd : gWd D (tyL cyI cyO) (mCell ad cyI cyO) ad 16 s H locs σ) (hl : lv_has ls 7 [(0, .ref (ad 0))]) : W p l e rmX10_draw s m args below meth c H locs 0 0 (MQ below (gQi D (mCell ad cyI cyO) ad 16 s.heap.size Φ) args s 0 0 (gA ad 16 s.heap.size)) (F0 m 24 ls []) := by
  obtain ⟨hx, hb, hr, hml, hown, hts, hlk⟩ := id C
  unfold wbX10_draw_24 at h
  refine lv_aload_n hx hb dX10_draw_24 rfl (lv_at hl 0 rfl) ?_
  refine gCi wd (gRunV (y := yX10_bad) (k := 0) (As := []) (rest := []) C wd (cmX10_bad h) ⟨rfl, rfl⟩ gd_X10_87 nk_X10_bad ⟨Nat.le_of_ble_eq_true rfl, Nat.le_of_ble_eq_true rfl⟩ (by decide) mc_X10 rfl rfl hl.1 (Nat.le_of_ble_eq_true rfl) dX10_draw_25 rfl) (fun r2 t1 H locs h wd => ?_)
  try dsimp only at h
  exact retI C wd h dX10_draw_28
def wbX10_draw_108 (Φ : Int32 → St → Prop) (k_42 : Int32 → Int64 → Int32 → Int32 → St → Prop) (x2 : Int32) (x3 : Int64) (x6 : Int32) (z0 : Int32) (z1 : Int32) (σ : St) : Prop :=
  (∀ y1 : Int32, y1 = z0 + z1 → (∀ y2 : Int32, y2 = x6 + (1 : Int32) → k_42 x2 x3 y1 y2 σ))
set_option maxHeartbeats 4000000 in
set_option maxRecDepth 100000 in
theorem blX10_draw_108 {p : Program} {l : Launch} {e : Env} {s : State} {m : MethodId} {args : Array Value} {below : List Frame} {meth : Method} {c : Code} (C : Cx p s m args meth c cX10_draw 7 (some .int) RX10) {Φ : Int32 → St → Prop} {k_42 : Int32 → Int64 → Int32 → Int32 → St → Prop} (hk_42 : ∀ (x2 : Int32) (x3 : Int64) (x5 : Int32) (x6 : Int32) (σ : St) (H : Heap) (locs : List Loc) (ls : Array Slot), k_42 x2 x3 x5 x6 σ → gWd D (tyL cyI cyO) (mCell ad cyI cyO) ad 16 s H locs σ → lv_has ls 7 [(0, .ref (ad 0)), (2, .int x2), (3, .long x3), (5, .int x5), (6, .int x6)] → W p l e rmX10_draw s m args below meth c H locs 0 0 (MQ below (gQi D (mCell ad cyI cyO) ad 16 s.heap.size Φ) args s 0 0 (gA ad 16 s.heap.size)) (F0 m 42 ls [])) {x2 : Int32} {x3 : Int64} {x6 : Int32} {z0 : Int32} {z1 : Int32} {σ : St} {H : Heap} {locs : List Loc} {ls : Array Slot} (h : wbX10_draw_108 Φ k_42 x2 x3 x6 z0 z1 σ) (wd : gWd D (tyL cyI cyO) (mCell ad cyI cyO) ad 16 s H locs σ) (hl : lv_has ls 7 [(0, .ref (ad 0)), (2, .int x2), (3, .long x3), (6, .int x6)]) : W p l e rmX10_draw s m args below meth c H locs 0 0 (MQ below (gQi D (mCell ad cyI cyO) ad 16 s.heap.size Φ) args s 0 0 (gA ad 16 s.heap.size)) (F0 m 108 ls [.int z1, .int z0]) := by
  obtain ⟨hx, hb, hr, hml, hown, hts, hlk⟩ := id C
  unfold wbX10_draw_108 at h
  refine lv_iadd hx hb dX10_draw_108 ?_
  refine lv_topi (fun y1 ey1 => ?_)
  have h := h y1 ey1
  refine lv_istore (lv' := [(5, .int y1), (0, .ref (ad 0)), (2, .int x2), (3, .long x3), (6, .int x6)]) hx hb dX10_draw_109 hl (by decide) rfl (fun ls hl => ?_)
  obtain ⟨y2, ey2⟩ : ∃ y : Int32, y = x6 + (1 : Int32) := ⟨_, rfl⟩
  refine lv_iinc (v := y2) (lv' := [(6, .int y2), (5, .int y1), (0, .ref (ad 0)), (2, .int x2), (3, .long x3)]) hx hb dX10_draw_111 hl (k := 4) rfl (by rw [ey2]; rfl) (by decide) rfl (fun ls hl => ?_)
  have h := h y2 ey2
  refine lv_goto (tgt := 42) hx hb dX10_draw_114 (by decide) ?_
  exact hk_42 _ _ _ _ _ _ _ _ h wd (lv_sub hl [2, 3, 4, 1, 0] rfl)
def wlX10_draw_42_body (Φ : Int32 → St → Prop) (k_42 : Int32 → Int64 → Int32 → Int32 → St → Prop) (x2 : Int32) (x3 : Int64) (x5 : Int32) (x6 : Int32) (σ : St) : Prop :=
  ((x2 ≤ x6 → Φ x5 σ) ∧ (¬ x2 ≤ x6 → (∀ y2 : Int64, y2 = ((x3 * (1103515245 : Int64)) + (12345 : Int64)) - ((x3 * (1103515245 : Int64)) + (12345 : Int64)) / (2147483648 : Int64) * (2147483648 : Int64) → (¬ ((σ.1 0).toInt64) = 0 ∧ wpX10_draws (((y2 / (65536 : Int64)) - (y2 / (65536 : Int64)) / ((σ.1 0).toInt64) * ((σ.1 0).toInt64)).toInt32) (((y2 / (1024 : Int64)) - (y2 / (1024 : Int64)) / (9 : Int64) * (9 : Int64)).toInt32) (((y2 / (32768 : Int64)) - (y2 / (32768 : Int64)) / (1000 : Int64) * (1000 : Int64)).toInt32) σ (fun r5 t4 => ((r5 = 0 → wbX10_draw_108 Φ k_42 x2 y2 x6 x5 (0 : Int32) t4) ∧ (¬ r5 = 0 → wbX10_draw_108 Φ k_42 x2 y2 x6 x5 (1 : Int32) t4)))))))
def wlX10_draw_42 (Φ : Int32 → St → Prop) : Nat → Int32 → Int64 → Int32 → Int32 → St → Prop
  | 0 => fun _ _ _ _ _ => False
  | N + 1 => fun x2 x3 x5 x6 σ => wlX10_draw_42_body Φ (wlX10_draw_42 Φ N) x2 x3 x5 x6 σ
set_option maxHeartbeats 4000000 in
set_option maxRecDepth 100000 in
theorem llX10_draw_42 {p : Program} {l : Launch} {e : Env} {s : State} {m : MethodId} {args : Array Value} {below : List Frame} {meth : Method} {c : Code} (C : Cx p s m args meth c cX10_draw 7 (some .int) RX10) {Φ : Int32 → St → Prop} : ∀ (N : Nat) (x2 : Int32) (x3 : Int64) (x5 : Int32) (x6 : Int32) (σ : St) (H : Heap) (locs : List Loc) (ls : Array Slot), wlX10_draw_42 Φ N x2 x3 x5 x6 σ → gWd D (tyL cyI cyO) (mCell ad cyI cyO) ad 16 s H locs σ → lv_has ls 7 [(0, .ref (ad 0)), (2, .int x2), (3, .long x3), (5, .int x5), (6, .int x6)] → W p l e rmX10_draw s m args below meth c H locs 0 0 (MQ below (gQi D (mCell ad cyI cyO) ad 16 s.heap.size Φ) args s 0 0 (gA ad 16 s.heap.size)) (F0 m 42 ls []) := by
  obtain ⟨hx, hb, hr, hml, hown, hts, hlk⟩ := id C
  intro N
  induction N with
  | zero =>
    intro x2 x3 x5 x6 σ H locs ls h
    exact False.elim h
  | succ N ih =>
    intro x2 x3 x5 x6 σ H locs ls h wd hl
    have h : wlX10_draw_42_body Φ (wlX10_draw_42 Φ N) x2 x3 x5 x6 σ := h
    have hk_42 := ih
    unfold wlX10_draw_42_body at h
    refine lv_iload hx hb dX10_draw_42 (lv_at hl 4 rfl) ?_
    refine lv_iload_n hx hb dX10_draw_44 rfl (lv_at hl 1 rfl) ?_
    refine lv_icmp_ge (tgt := 117) hx hb dX10_draw_45 (by decide) (fun c1 => ?_) (fun c1 => ?_)
    · have h := h.1 c1
      refine lv_iload hx hb dX10_draw_117 (lv_at hl 3 rfl) ?_
      exact retI C wd h dX10_draw_119
    · have h := h.2 c1
      refine lv_lload_n hx hb dX10_draw_48 rfl (lv_at hl 2 rfl) ?_
      refine lv_ldc2 (v := (1103515245 : Int64)) hx hb hown (hts _ tw4_234) dX10_draw_49 ?_
      refine lv_lmul hx hb dX10_draw_52 ?_
      refine lv_ldc2 (v := (12345 : Int64)) hx hb hown (hts _ tw4_235) dX10_draw_53 ?_
      refine lv_ladd hx hb dX10_draw_56 ?_
      refine lv_ldc2 (v := (2147483648 : Int64)) hx hb hown (hts _ tw4_236) dX10_draw_57 ?_
      refine lv_lrem hx hb dX10_draw_60 (by decide) ?_
      refine lv_topl (fun y2 ey2 => ?_)
      have h := h y2 ey2
      refine lv_lstore_n (lv' := [(3, .long y2), (0, .ref (ad 0)), (2, .int x2), (5, .int x5), (6, .int x6)]) hx hb dX10_draw_61 rfl hl (by decide) rfl (fun ls hl => ?_)
      refine lv_iload hx hb dX10_draw_62 (lv_at hl 3 rfl) ?_
      refine lv_aload_n hx hb dX10_draw_64 rfl (lv_at hl 1 rfl) ?_
      refine lv_lload_n hx hb dX10_draw_65 rfl (lv_at hl 0 rfl) ?_
      refine lv_ldc2 (v := (65536 : Int64)) hx hb hown (hts _ tw4_237) dX10_draw_66 ?_
      refine lv_ldiv hx hb dX10_draw_69 (by decide) ?_
      refine lv_aload_n hx hb dX10_draw_70 rfl (lv_at hl 1 rfl) ?_
      refine getF C wd (k := 0) (Cn := RX10) (T := TX10) (N := 26) (v := .int (σ.1 0)) (by decide) mc_X10 rfl 0 (by decide) rfl inX10 tw4_26 dX10_draw_71 ?_
      refine lv_i2l hx hb dX10_draw_74 rfl ?_
      obtain ⟨hz3, h⟩ := h
      refine lv_lrem hx hb dX10_draw_75 hz3 ?_
      refine lv_l2i hx hb dX10_draw_76 rfl ?_
      refine lv_lload_n hx hb dX10_draw_77 rfl (lv_at hl 0 rfl) ?_
      refine lv_ldc2 (v := (1024 : Int64)) hx hb hown (hts _ tw4_238) dX10_draw_78 ?_
      refine lv_ldiv hx hb dX10_draw_81 (by decide) ?_
      refine lv_ldc2 (v := (9 : Int64)) hx hb hown (hts _ tw4_239) dX10_draw_82 ?_
      refine lv_lrem hx hb dX10_draw_85 (by decide) ?_
      refine lv_l2i hx hb dX10_draw_86 rfl ?_
      refine lv_lload_n hx hb dX10_draw_87 rfl (lv_at hl 0 rfl) ?_
      refine lv_ldc2 (v := (32768 : Int64)) hx hb hown (hts _ tw5_0) dX10_draw_88 ?_
      refine lv_ldiv hx hb dX10_draw_91 (by decide) ?_
      refine lv_ldc2 (v := (1000 : Int64)) hx hb hown (hts _ tw5_1) dX10_draw_92 ?_
      refine lv_lrem hx hb dX10_draw_95 (by decide) ?_
      refine lv_l2i hx hb dX10_draw_96 rfl ?_
      refine gCi wd (gRunV (y := yX10_draws) (k := 0) (As := [.int (((y2 / (65536 : Int64)) - (y2 / (65536 : Int64)) / ((σ.1 0).toInt64) * ((σ.1 0).toInt64)).toInt32), .int (((y2 / (1024 : Int64)) - (y2 / (1024 : Int64)) / (9 : Int64) * (9 : Int64)).toInt32), .int (((y2 / (32768 : Int64)) - (y2 / (32768 : Int64)) / (1000 : Int64) * (1000 : Int64)).toInt32)]) (rest := [.int x5]) C wd (cmX10_draws h) ⟨rfl, rfl⟩ gd_X10_185 nk_X10_draws ⟨Nat.le_of_ble_eq_true rfl, Nat.le_of_ble_eq_true rfl⟩ (by decide) mc_X10 rfl rfl hl.1 (Nat.le_of_ble_eq_true rfl) dX10_draw_97 rfl) (fun r5 t4 H locs h wd => ?_)
      try dsimp only at h
      refine lv_if_eq (tgt := 107) hx hb dX10_draw_100 (by decide) (fun c6 => ?_) (fun c6 => ?_)
      · have h := h.1 c6
        refine lv_iconst (v := (0 : Int32)) hx hb dX10_draw_107 (by decide) ?_
        exact blX10_draw_108 C hk_42 h wd (lv_sub hl [1, 2, 0, 4] rfl)
      · have h := h.2 c6
        refine lv_iconst (v := (1 : Int32)) hx hb dX10_draw_103 (by decide) ?_
        refine lv_goto (tgt := 108) hx hb dX10_draw_104 (by decide) ?_
        exact blX10_draw_108 C hk_42 h wd (lv_sub hl [1, 2, 0, 4] rfl)
def wpX10_draw (x1 : Int32) (x2 : Int32) (σ : St) (Φ : Int32 → St → Prop) : Prop :=
  wpX10_in x1.toInt64 (0 : Int64) (999999 : Int64) σ (fun r2 t1 => ((r2 = 0 → wbX10_draw_24 Φ t1) ∧ (¬ r2 = 0 → wpX10_in x2.toInt64 (1 : Int64) (60 : Int64) t1 (fun r5 t4 => ((r5 = 0 → wbX10_draw_24 Φ t4) ∧ (¬ r5 = 0 → (∀ y7 : Int64, y7 = x1.toInt64 → wpX10_begins t4 (fun t8 => (∃ N, wlX10_draw_42 Φ N x2 y7 (0 : Int32) (0 : Int32) t8)))))))))
set_option maxHeartbeats 4000000 in
set_option maxRecDepth 100000 in
theorem cmX10_draw {D : va_G} {cyI cyO : ClassId} {ad : Nat → Nat} {l : Launch} {x1 : Int32} {x2 : Int32} {σ : St} {sz : Nat} {Φ : Int32 → St → Prop} (h : wpX10_draw x1 x2 σ Φ) : gMet D (tyL cyI cyO) (mCell ad cyI cyO) ad 16 l yX10_draw cX10_draw 7 (some .int) rmX10_draw [.ref (ad 0), .int x1, .int x2] σ sz (gQi D (mCell ad cyI cyO) ad 16 sz Φ) := by
  refine gMet.of (by decide) (Nat.le_of_ble_eq_true rfl) ?_
  intro p e s m below meth c ls hsz C hl wd
  subst hsz
  have C : Cx p s m _ meth c cX10_draw 7 (some .int) RX10 := C
  obtain ⟨hx, hb, hr, hml, hown, hts, hlk⟩ := id C
  have hl : lv_has ls 7 [(0, .ref (ad 0)), (1, .int x1), (2, .int x2)] := hl
  unfold wpX10_draw at h
  refine lv_iload_n hx hb dX10_draw_0 rfl (lv_at hl 1 rfl) ?_
  refine lv_i2l hx hb dX10_draw_1 rfl ?_
  refine lv_lconst (v := (0 : Int64)) hx hb dX10_draw_2 (by decide) ?_
  refine lv_ldc2 (v := (999999 : Int64)) hx hb hown (hts _ tw4_232) dX10_draw_3 ?_
  refine gCi wd (gRunS (y := yX10_in) (As := [.long x1.toInt64, .long (0 : Int64), .long (999999 : Int64)]) (rest := []) C wd (cmX10_in h) ⟨rfl, rfl⟩ gd_X10_59 nk_X10_in ⟨Nat.le_of_ble_eq_true rfl, Nat.le_of_ble_eq_true rfl⟩ hl.1 (Nat.le_of_ble_eq_true rfl) dX10_draw_6 rfl) (fun r2 t1 H locs h wd => ?_)
  try dsimp only at h
  refine lv_if_eq (tgt := 24) hx hb dX10_draw_9 (by decide) (fun c3 => ?_) (fun c3 => ?_)
  · have h := h.1 c3
    exact blX10_draw_24 C h wd (lv_sub hl [0] rfl)
  · have h := h.2 c3
    refine lv_iload_n hx hb dX10_draw_12 rfl (lv_at hl 2 rfl) ?_
    refine lv_i2l hx hb dX10_draw_13 rfl ?_
    refine lv_lconst (v := (1 : Int64)) hx hb dX10_draw_14 (by decide) ?_
    refine lv_ldc2 (v := (60 : Int64)) hx hb hown (hts _ tw4_233) dX10_draw_15 ?_
    refine gCi wd (gRunS (y := yX10_in) (As := [.long x2.toInt64, .long (1 : Int64), .long (60 : Int64)]) (rest := []) C wd (cmX10_in h) ⟨rfl, rfl⟩ gd_X10_59 nk_X10_in ⟨Nat.le_of_ble_eq_true rfl, Nat.le_of_ble_eq_true rfl⟩ hl.1 (Nat.le_of_ble_eq_true rfl) dX10_draw_18 rfl) (fun r5 t4 H locs h wd => ?_)
    try dsimp only at h
    refine lv_if_ne (tgt := 29) hx hb dX10_draw_21 (by decide) (fun c6 => ?_) (fun c6 => ?_)
    · have h := h.2 c6
      refine lv_iload_n hx hb dX10_draw_29 rfl (lv_at hl 1 rfl) ?_
      refine lv_i2l hx hb dX10_draw_30 rfl ?_
      refine lv_topl (fun y7 ey7 => ?_)
      have h := h y7 ey7
      refine lv_lstore_n (lv' := [(3, .long y7), (0, .ref (ad 0)), (1, .int x1), (2, .int x2)]) hx hb dX10_draw_31 rfl hl (by decide) rfl (fun ls hl => ?_)
      refine lv_iconst (v := (0 : Int32)) hx hb dX10_draw_32 (by decide) ?_
      refine lv_istore (lv' := [(5, .int (0 : Int32)), (3, .long y7), (0, .ref (ad 0)), (1, .int x1), (2, .int x2)]) hx hb dX10_draw_33 hl (by decide) rfl (fun ls hl => ?_)
      refine lv_aload_n hx hb dX10_draw_35 rfl (lv_at hl 2 rfl) ?_
      refine gCv wd (gRunV (y := yX10_begins) (k := 0) (As := []) (rest := []) C wd (cmX10_begins h) ⟨rfl, rfl⟩ gd_X10_91 nk_X10_begins ⟨Nat.le_of_ble_eq_true rfl, Nat.le_of_ble_eq_true rfl⟩ (by decide) mc_X10 rfl rfl hl.1 (Nat.le_of_ble_eq_true rfl) dX10_draw_36 rfl) (fun t8 H locs h wd => ?_)
      try dsimp only at h
      refine lv_iconst (v := (0 : Int32)) hx hb dX10_draw_39 (by decide) ?_
      refine lv_istore (lv' := [(6, .int (0 : Int32)), (5, .int (0 : Int32)), (3, .long y7), (0, .ref (ad 0)), (1, .int x1), (2, .int x2)]) hx hb dX10_draw_40 hl (by decide) rfl (fun ls hl => ?_)
      obtain ⟨N, h⟩ := h
      exact llX10_draw_42 C N _ _ _ _ _ _ _ _ h wd (lv_sub hl [3, 5, 2, 1, 0] rfl)
    · have h := h.1 c6
      exact blX10_draw_24 C h wd (lv_sub hl [0] rfl)
abbrev rmX10_isFirm : Room := rmOf 2 43
def wbX10_isFirm_45 (Φ : Int32 → St → Prop) (k_5 : Int32 → Int32 → Int32 → Int32 → St → Prop) (x1 : Int32) (x2 : Int32) (x4 : Int32) (z0 : Int32) (σ : St) : Prop :=
  (∀ y1 : Int32, y1 = x4 + (1 : Int32) → k_5 x1 x2 z0 y1 σ)
set_option maxHeartbeats 4000000 in
set_option maxRecDepth 100000 in
theorem blX10_isFirm_45 {p : Program} {l : Launch} {e : Env} {s : State} {m : MethodId} {args : Array Value} {below : List Frame} {meth : Method} {c : Code} (C : Cx p s m args meth c cX10_isFirm 5 (some .boolean) RX10) {Φ : Int32 → St → Prop} {k_5 : Int32 → Int32 → Int32 → Int32 → St → Prop} (hk_5 : ∀ (x1 : Int32) (x2 : Int32) (x3 : Int32) (x4 : Int32) (σ : St) (H : Heap) (locs : List Loc) (ls : Array Slot), k_5 x1 x2 x3 x4 σ → gWd D (tyL cyI cyO) (mCell ad cyI cyO) ad 16 s H locs σ → lv_has ls 5 [(0, .ref (ad 0)), (1, .int x1), (2, .int x2), (3, .int x3), (4, .int x4)] → W p l e rmX10_isFirm s m args below meth c H locs 0 0 (MQ below (gQi D (mCell ad cyI cyO) ad 16 s.heap.size Φ) args s 0 0 (gA ad 16 s.heap.size)) (F0 m 5 ls [])) {x1 : Int32} {x2 : Int32} {x4 : Int32} {z0 : Int32} {σ : St} {H : Heap} {locs : List Loc} {ls : Array Slot} (h : wbX10_isFirm_45 Φ k_5 x1 x2 x4 z0 σ) (wd : gWd D (tyL cyI cyO) (mCell ad cyI cyO) ad 16 s H locs σ) (hl : lv_has ls 5 [(0, .ref (ad 0)), (1, .int x1), (2, .int x2), (4, .int x4)]) : W p l e rmX10_isFirm s m args below meth c H locs 0 0 (MQ below (gQi D (mCell ad cyI cyO) ad 16 s.heap.size Φ) args s 0 0 (gA ad 16 s.heap.size)) (F0 m 45 ls [.int z0]) := by
  obtain ⟨hx, hb, hr, hml, hown, hts, hlk⟩ := id C
  unfold wbX10_isFirm_45 at h
  refine lv_istore_n (lv' := [(3, .int z0), (0, .ref (ad 0)), (1, .int x1), (2, .int x2), (4, .int x4)]) hx hb dX10_isFirm_45 rfl hl (by decide) rfl (fun ls hl => ?_)
  obtain ⟨y1, ey1⟩ : ∃ y : Int32, y = x4 + (1 : Int32) := ⟨_, rfl⟩
  refine lv_iinc (v := y1) (lv' := [(4, .int y1), (3, .int z0), (0, .ref (ad 0)), (1, .int x1), (2, .int x2)]) hx hb dX10_isFirm_46 hl (k := 4) rfl (by rw [ey1]; rfl) (by decide) rfl (fun ls hl => ?_)
  have h := h y1 ey1
  refine lv_goto (tgt := 5) hx hb dX10_isFirm_49 (by decide) ?_
  exact hk_5 _ _ _ _ _ _ _ _ h wd (lv_sub hl [2, 3, 4, 1, 0] rfl)
def wbX10_isFirm_44 (Φ : Int32 → St → Prop) (k_5 : Int32 → Int32 → Int32 → Int32 → St → Prop) (x1 : Int32) (x2 : Int32) (x4 : Int32) (σ : St) : Prop :=
  wbX10_isFirm_45 Φ k_5 x1 x2 x4 (0 : Int32) σ
set_option maxHeartbeats 4000000 in
set_option maxRecDepth 100000 in
theorem blX10_isFirm_44 {p : Program} {l : Launch} {e : Env} {s : State} {m : MethodId} {args : Array Value} {below : List Frame} {meth : Method} {c : Code} (C : Cx p s m args meth c cX10_isFirm 5 (some .boolean) RX10) {Φ : Int32 → St → Prop} {k_5 : Int32 → Int32 → Int32 → Int32 → St → Prop} (hk_5 : ∀ (x1 : Int32) (x2 : Int32) (x3 : Int32) (x4 : Int32) (σ : St) (H : Heap) (locs : List Loc) (ls : Array Slot), k_5 x1 x2 x3 x4 σ → gWd D (tyL cyI cyO) (mCell ad cyI cyO) ad 16 s H locs σ → lv_has ls 5 [(0, .ref (ad 0)), (1, .int x1), (2, .int x2), (3, .int x3), (4, .int x4)] → W p l e rmX10_isFirm s m args below meth c H locs 0 0 (MQ below (gQi D (mCell ad cyI cyO) ad 16 s.heap.size Φ) args s 0 0 (gA ad 16 s.heap.size)) (F0 m 5 ls [])) {x1 : Int32} {x2 : Int32} {x4 : Int32} {σ : St} {H : Heap} {locs : List Loc} {ls : Array Slot} (h : wbX10_isFirm_44 Φ k_5 x1 x2 x4 σ) (wd : gWd D (tyL cyI cyO) (mCell ad cyI cyO) ad 16 s H locs σ) (hl : lv_has ls 5 [(0, .ref (ad 0)), (1, .int x1), (2, .int x2), (4, .int x4)]) : W p l e rmX10_isFirm s m args below meth c H locs 0 0 (MQ below (gQi D (mCell ad cyI cyO) ad 16 s.heap.size Φ) args s 0 0 (gA ad 16 s.heap.size)) (F0 m 44 ls []) := by
  obtain ⟨hx, hb, hr, hml, hown, hts, hlk⟩ := id C
  unfold wbX10_isFirm_44 at h
  refine lv_iconst (v := (0 : Int32)) hx hb dX10_isFirm_44 (by decide) ?_
  exact blX10_isFirm_45 C hk_5 h wd (lv_sub hl [0, 1, 2, 3] rfl)
def wlX10_isFirm_5_body (Φ : Int32 → St → Prop) (k_5 : Int32 → Int32 → Int32 → Int32 → St → Prop) (x1 : Int32) (x2 : Int32) (x3 : Int32) (x4 : Int32) (σ : St) : Prop :=
  (((σ.1 0) ≤ x4 → (narrow .boolean (.int x3) = .int x3 ∧ Φ x3 σ)) ∧ (¬ (σ.1 0) ≤ x4 → ((x3 = 0 → wbX10_isFirm_44 Φ k_5 x1 x2 x4 σ) ∧ (¬ x3 = 0 → wpX10_restOf x1 x2 x4 σ (fun r4 t3 => (vp_in r4 600 ∧ (vp_in x4 5 ∧ (((rd t3 3 x4) < (rd t3 9 r4) → wbX10_isFirm_44 Φ k_5 x1 x2 x4 t3) ∧ (¬ (rd t3 3 x4) < (rd t3 9 r4) → wbX10_isFirm_45 Φ k_5 x1 x2 x4 (1 : Int32) t3)))))))))
def wlX10_isFirm_5 (Φ : Int32 → St → Prop) : Nat → Int32 → Int32 → Int32 → Int32 → St → Prop
  | 0 => fun _ _ _ _ _ => False
  | N + 1 => fun x1 x2 x3 x4 σ => wlX10_isFirm_5_body Φ (wlX10_isFirm_5 Φ N) x1 x2 x3 x4 σ
set_option maxHeartbeats 4000000 in
set_option maxRecDepth 100000 in
theorem llX10_isFirm_5 {p : Program} {l : Launch} {e : Env} {s : State} {m : MethodId} {args : Array Value} {below : List Frame} {meth : Method} {c : Code} (C : Cx p s m args meth c cX10_isFirm 5 (some .boolean) RX10) {Φ : Int32 → St → Prop} : ∀ (N : Nat) (x1 : Int32) (x2 : Int32) (x3 : Int32) (x4 : Int32) (σ : St) (H : Heap) (locs : List Loc) (ls : Array Slot), wlX10_isFirm_5 Φ N x1 x2 x3 x4 σ → gWd D (tyL cyI cyO) (mCell ad cyI cyO) ad 16 s H locs σ → lv_has ls 5 [(0, .ref (ad 0)), (1, .int x1), (2, .int x2), (3, .int x3), (4, .int x4)] → W p l e rmX10_isFirm s m args below meth c H locs 0 0 (MQ below (gQi D (mCell ad cyI cyO) ad 16 s.heap.size Φ) args s 0 0 (gA ad 16 s.heap.size)) (F0 m 5 ls []) := by
  obtain ⟨hx, hb, hr, hml, hown, hts, hlk⟩ := id C
  intro N
  induction N with
  | zero =>
    intro x1 x2 x3 x4 σ H locs ls h
    exact False.elim h
  | succ N ih =>
    intro x1 x2 x3 x4 σ H locs ls h wd hl
    have h : wlX10_isFirm_5_body Φ (wlX10_isFirm_5 Φ N) x1 x2 x3 x4 σ := h
    have hk_5 := ih
    unfold wlX10_isFirm_5_body at h
    refine lv_iload hx hb dX10_isFirm_5 (lv_at hl 4 rfl) ?_
    refine lv_aload_n hx hb dX10_isFirm_7 rfl (lv_at hl 0 rfl) ?_
    refine getF C wd (k := 0) (Cn := RX10) (T := TX10) (N := 26) (v := .int (σ.1 0)) (by decide) mc_X10 rfl 0 (by decide) rfl inX10 tw4_26 dX10_isFirm_8 ?_
    refine lv_icmp_ge (tgt := 52) hx hb dX10_isFirm_11 (by decide) (fun c1 => ?_) (fun c1 => ?_)
    · have h := h.1 c1
      refine lv_iload_n hx hb dX10_isFirm_52 rfl (lv_at hl 3 rfl) ?_
      exact retZ C wd h.1 h.2 dX10_isFirm_53
    · have h := h.2 c1
      refine lv_iload_n hx hb dX10_isFirm_14 rfl (lv_at hl 3 rfl) ?_
      refine lv_if_eq (tgt := 44) hx hb dX10_isFirm_15 (by decide) (fun c2 => ?_) (fun c2 => ?_)
      · have h := h.1 c2
        exact blX10_isFirm_44 C hk_5 h wd (lv_sub hl [0, 1, 2, 4] rfl)
      · have h := h.2 c2
        refine lv_aload_n hx hb dX10_isFirm_18 rfl (lv_at hl 0 rfl) ?_
        refine getF C wd (k := 0) (Cn := RX10) (T := TX10) (N := 26) (v := .ref (ad 9)) (by decide) mc_X10 rfl 9 (by decide) rfl inX10 tw4_35 dX10_isFirm_19 ?_
        refine lv_iload_n hx hb dX10_isFirm_22 rfl (lv_at hl 1 rfl) ?_
        refine lv_iload_n hx hb dX10_isFirm_23 rfl (lv_at hl 2 rfl) ?_
        refine lv_iload hx hb dX10_isFirm_24 (lv_at hl 4 rfl) ?_
        refine gCi wd (gRunS (y := yX10_restOf) (As := [.int x1, .int x2, .int x4]) (rest := [.ref (ad 9)]) C wd (cmX10_restOf h) ⟨rfl, rfl⟩ gd_X10_67 nk_X10_restOf ⟨Nat.le_of_ble_eq_true rfl, Nat.le_of_ble_eq_true rfl⟩ hl.1 (Nat.le_of_ble_eq_true rfl) dX10_isFirm_26 rfl) (fun r4 t3 H locs h wd => ?_)
        try dsimp only at h
        obtain ⟨hi5, h⟩ := h
        refine ldI C wd (k := 9) (N := 600) (by decide) mc_A9 hi5 dX10_isFirm_29 ?_
        refine lv_aload_n hx hb dX10_isFirm_30 rfl (lv_at hl 0 rfl) ?_
        refine getF C wd (k := 0) (Cn := RX10) (T := TX10) (N := 26) (v := .ref (ad 3)) (by decide) mc_X10 rfl 3 (by decide) rfl inX10 tw4_29 dX10_isFirm_31 ?_
        refine lv_iload hx hb dX10_isFirm_34 (lv_at hl 4 rfl) ?_
        obtain ⟨hi6, h⟩ := h
        refine ldI C wd (k := 3) (N := 5) (by decide) mc_A3 hi6 dX10_isFirm_36 ?_
        refine lv_icmp_gt (tgt := 44) hx hb dX10_isFirm_37 (by decide) (fun c7 => ?_) (fun c7 => ?_)
        · have h := h.1 c7
          exact blX10_isFirm_44 C hk_5 h wd (lv_sub hl [0, 1, 2, 4] rfl)
        · have h := h.2 c7
          refine lv_iconst (v := (1 : Int32)) hx hb dX10_isFirm_40 (by decide) ?_
          refine lv_goto (tgt := 45) hx hb dX10_isFirm_41 (by decide) ?_
          exact blX10_isFirm_45 C hk_5 h wd (lv_sub hl [0, 1, 2, 4] rfl)
def wpX10_isFirm (x1 : Int32) (x2 : Int32) (σ : St) (Φ : Int32 → St → Prop) : Prop :=
  (∃ N, wlX10_isFirm_5 Φ N x1 x2 (1 : Int32) (0 : Int32) σ)
set_option maxHeartbeats 4000000 in
set_option maxRecDepth 100000 in
theorem cmX10_isFirm {D : va_G} {cyI cyO : ClassId} {ad : Nat → Nat} {l : Launch} {x1 : Int32} {x2 : Int32} {σ : St} {sz : Nat} {Φ : Int32 → St → Prop} (h : wpX10_isFirm x1 x2 σ Φ) : gMet D (tyL cyI cyO) (mCell ad cyI cyO) ad 16 l yX10_isFirm cX10_isFirm 5 (some .boolean) rmX10_isFirm [.ref (ad 0), .int x1, .int x2] σ sz (gQi D (mCell ad cyI cyO) ad 16 sz Φ) := by
  refine gMet.of (by decide) (Nat.le_of_ble_eq_true rfl) ?_
  intro p e s m below meth c ls hsz C hl wd
  subst hsz
  have C : Cx p s m _ meth c cX10_isFirm 5 (some .boolean) RX10 := C
  obtain ⟨hx, hb, hr, hml, hown, hts, hlk⟩ := id C
  have hl : lv_has ls 5 [(0, .ref (ad 0)), (1, .int x1), (2, .int x2)] := hl
  unfold wpX10_isFirm at h
  refine lv_iconst (v := (1 : Int32)) hx hb dX10_isFirm_0 (by decide) ?_
  refine lv_istore_n (lv' := [(3, .int (1 : Int32)), (0, .ref (ad 0)), (1, .int x1), (2, .int x2)]) hx hb dX10_isFirm_1 rfl hl (by decide) rfl (fun ls hl => ?_)
  refine lv_iconst (v := (0 : Int32)) hx hb dX10_isFirm_2 (by decide) ?_
  refine lv_istore (lv' := [(4, .int (0 : Int32)), (3, .int (1 : Int32)), (0, .ref (ad 0)), (1, .int x1), (2, .int x2)]) hx hb dX10_isFirm_3 hl (by decide) rfl (fun ls hl => ?_)
  obtain ⟨N, h⟩ := h
  exact llX10_isFirm_5 C N _ _ _ _ _ _ _ _ h wd (lv_sub hl [2, 3, 4, 1, 0] rfl)
abbrev rmX10_firmOf : Room := rmOf 3 67
def wlX10_firmOf_7_body (Φ : Int32 → St → Prop) (k_7 : Int32 → Int32 → St → Prop) (x1 : Int32) (x2 : Int32) (σ : St) : Prop :=
  wpX10_isFirm x1 x2 σ (fun r2 t1 => ((r2 = 0 → (∀ y4 : Int32, y4 = x2 + (-1 : Int32) → k_7 x1 y4 t1)) ∧ (¬ r2 = 0 → Φ x2 t1)))
def wlX10_firmOf_7 (Φ : Int32 → St → Prop) : Nat → Int32 → Int32 → St → Prop
  | 0 => fun _ _ _ => False
  | N + 1 => fun x1 x2 σ => wlX10_firmOf_7_body Φ (wlX10_firmOf_7 Φ N) x1 x2 σ
set_option maxHeartbeats 4000000 in
set_option maxRecDepth 100000 in
theorem llX10_firmOf_7 {p : Program} {l : Launch} {e : Env} {s : State} {m : MethodId} {args : Array Value} {below : List Frame} {meth : Method} {c : Code} (C : Cx p s m args meth c cX10_firmOf 3 (some .int) RX10) {Φ : Int32 → St → Prop} : ∀ (N : Nat) (x1 : Int32) (x2 : Int32) (σ : St) (H : Heap) (locs : List Loc) (ls : Array Slot), wlX10_firmOf_7 Φ N x1 x2 σ → gWd D (tyL cyI cyO) (mCell ad cyI cyO) ad 16 s H locs σ → lv_has ls 3 [(0, .ref (ad 0)), (1, .int x1), (2, .int x2)] → W p l e rmX10_firmOf s m args below meth c H locs 0 0 (MQ below (gQi D (mCell ad cyI cyO) ad 16 s.heap.size Φ) args s 0 0 (gA ad 16 s.heap.size)) (F0 m 7 ls []) := by
  obtain ⟨hx, hb, hr, hml, hown, hts, hlk⟩ := id C
  intro N
  induction N with
  | zero =>
    intro x1 x2 σ H locs ls h
    exact False.elim h
  | succ N ih =>
    intro x1 x2 σ H locs ls h wd hl
    have h : wlX10_firmOf_7_body Φ (wlX10_firmOf_7 Φ N) x1 x2 σ := h
    have hk_7 := ih
    unfold wlX10_firmOf_7_body at h
    refine lv_aload_n hx hb dX10_firmOf_7 rfl (lv_at hl 0 rfl) ?_
    refine lv_iload_n hx hb dX10_firmOf_8 rfl (lv_at hl 1 rfl) ?_
    refine lv_iload_n hx hb dX10_firmOf_9 rfl (lv_at hl 2 rfl) ?_
    refine gCi wd (gRunV (y := yX10_isFirm) (k := 0) (As := [.int x1, .int x2]) (rest := []) C wd (cmX10_isFirm h) ⟨rfl, rfl⟩ gd_X10_191 nk_X10_isFirm ⟨Nat.le_of_ble_eq_true rfl, Nat.le_of_ble_eq_true rfl⟩ (by decide) mc_X10 rfl rfl hl.1 (Nat.le_of_ble_eq_true rfl) dX10_firmOf_10 rfl) (fun r2 t1 H locs h wd => ?_)
    try dsimp only at h
    refine lv_if_ne (tgt := 22) hx hb dX10_firmOf_13 (by decide) (fun c3 => ?_) (fun c3 => ?_)
    · have h := h.2 c3
      refine lv_iload_n hx hb dX10_firmOf_22 rfl (lv_at hl 2 rfl) ?_
      exact retI C wd h dX10_firmOf_23
    · have h := h.1 c3
      obtain ⟨y4, ey4⟩ : ∃ y : Int32, y = x2 + (-1 : Int32) := ⟨_, rfl⟩
      refine lv_iinc (v := y4) (lv' := [(2, .int y4), (0, .ref (ad 0)), (1, .int x1)]) hx hb dX10_firmOf_16 hl (k := 2) rfl (by rw [ey4]; rfl) (by decide) rfl (fun ls hl => ?_)
      have h := h y4 ey4
      refine lv_goto (tgt := 7) hx hb dX10_firmOf_19 (by decide) ?_
      exact hk_7 _ _ _ _ _ _ h wd (lv_sub hl [1, 2, 0] rfl)
def wpX10_firmOf (x1 : Int32) (σ : St) (Φ : Int32 → St → Prop) : Prop :=
  (vp_in x1 5 ∧ (∀ y2 : Int32, y2 = rd σ 2 x1 → (∃ N, wlX10_firmOf_7 Φ N x1 y2 σ)))
set_option maxHeartbeats 4000000 in
set_option maxRecDepth 100000 in
theorem cmX10_firmOf {D : va_G} {cyI cyO : ClassId} {ad : Nat → Nat} {l : Launch} {x1 : Int32} {σ : St} {sz : Nat} {Φ : Int32 → St → Prop} (h : wpX10_firmOf x1 σ Φ) : gMet D (tyL cyI cyO) (mCell ad cyI cyO) ad 16 l yX10_firmOf cX10_firmOf 3 (some .int) rmX10_firmOf [.ref (ad 0), .int x1] σ sz (gQi D (mCell ad cyI cyO) ad 16 sz Φ) := by
  refine gMet.of (by decide) (Nat.le_of_ble_eq_true rfl) ?_
  intro p e s m below meth c ls hsz C hl wd
  subst hsz
  have C : Cx p s m _ meth c cX10_firmOf 3 (some .int) RX10 := C
  obtain ⟨hx, hb, hr, hml, hown, hts, hlk⟩ := id C
  have hl : lv_has ls 3 [(0, .ref (ad 0)), (1, .int x1)] := hl
  unfold wpX10_firmOf at h
  refine lv_aload_n hx hb dX10_firmOf_0 rfl (lv_at hl 0 rfl) ?_
  refine getF C wd (k := 0) (Cn := RX10) (T := TX10) (N := 26) (v := .ref (ad 2)) (by decide) mc_X10 rfl 2 (by decide) rfl inX10 tw4_28 dX10_firmOf_1 ?_
  refine lv_iload_n hx hb dX10_firmOf_4 rfl (lv_at hl 1 rfl) ?_
  obtain ⟨hi1, h⟩ := h
  refine ldI C wd (k := 2) (N := 5) (by decide) mc_A2 hi1 dX10_firmOf_5 ?_
  refine lv_topi (fun y2 ey2 => ?_)
  have h := h y2 ey2
  refine lv_istore_n (lv' := [(2, .int y2), (0, .ref (ad 0)), (1, .int x1)]) hx hb dX10_firmOf_6 rfl hl (by decide) rfl (fun ls hl => ?_)
  obtain ⟨N, h⟩ := h
  exact llX10_firmOf_7 C N _ _ _ _ _ _ h wd (lv_sub hl [1, 2, 0] rfl)
abbrev rmX10_lettersTo : Room := rmOf 0 0
def wbX10_lettersTo_31 (Φ : Int32 → St → Prop) (k_4 : Int32 → Int32 → Int32 → St → Prop) (x1 : Int32) (x3 : Int32) (z0 : Int32) (z1 : Int32) (σ : St) : Prop :=
  (∀ y1 : Int32, y1 = z0 + z1 → (∀ y2 : Int32, y2 = x3 + (1 : Int32) → k_4 x1 y1 y2 σ))
set_option maxHeartbeats 4000000 in
set_option maxRecDepth 100000 in
theorem blX10_lettersTo_31 {p : Program} {l : Launch} {e : Env} {s : State} {m : MethodId} {args : Array Value} {below : List Frame} {meth : Method} {c : Code} (C : Cx p s m args meth c cX10_lettersTo 4 (some .int) RX10) {Φ : Int32 → St → Prop} {k_4 : Int32 → Int32 → Int32 → St → Prop} (hk_4 : ∀ (x1 : Int32) (x2 : Int32) (x3 : Int32) (σ : St) (H : Heap) (locs : List Loc) (ls : Array Slot), k_4 x1 x2 x3 σ → gWd D (tyL cyI cyO) (mCell ad cyI cyO) ad 16 s H locs σ → lv_has ls 4 [(0, .ref (ad 0)), (1, .int x1), (2, .int x2), (3, .int x3)] → W p l e rmX10_lettersTo s m args below meth c H locs 0 0 (MQ below (gQi D (mCell ad cyI cyO) ad 16 s.heap.size Φ) args s 0 0 (gA ad 16 s.heap.size)) (F0 m 4 ls [])) {x1 : Int32} {x3 : Int32} {z0 : Int32} {z1 : Int32} {σ : St} {H : Heap} {locs : List Loc} {ls : Array Slot} (h : wbX10_lettersTo_31 Φ k_4 x1 x3 z0 z1 σ) (wd : gWd D (tyL cyI cyO) (mCell ad cyI cyO) ad 16 s H locs σ) (hl : lv_has ls 4 [(0, .ref (ad 0)), (1, .int x1), (3, .int x3)]) : W p l e rmX10_lettersTo s m args below meth c H locs 0 0 (MQ below (gQi D (mCell ad cyI cyO) ad 16 s.heap.size Φ) args s 0 0 (gA ad 16 s.heap.size)) (F0 m 31 ls [.int z1, .int z0]) := by
  obtain ⟨hx, hb, hr, hml, hown, hts, hlk⟩ := id C
  unfold wbX10_lettersTo_31 at h
  refine lv_iadd hx hb dX10_lettersTo_31 ?_
  refine lv_topi (fun y1 ey1 => ?_)
  have h := h y1 ey1
  refine lv_istore_n (lv' := [(2, .int y1), (0, .ref (ad 0)), (1, .int x1), (3, .int x3)]) hx hb dX10_lettersTo_32 rfl hl (by decide) rfl (fun ls hl => ?_)
  obtain ⟨y2, ey2⟩ : ∃ y : Int32, y = x3 + (1 : Int32) := ⟨_, rfl⟩
  refine lv_iinc (v := y2) (lv' := [(3, .int y2), (2, .int y1), (0, .ref (ad 0)), (1, .int x1)]) hx hb dX10_lettersTo_33 hl (k := 3) rfl (by rw [ey2]; rfl) (by decide) rfl (fun ls hl => ?_)
  have h := h y2 ey2
  refine lv_goto (tgt := 4) hx hb dX10_lettersTo_36 (by decide) ?_
  exact hk_4 _ _ _ _ _ _ _ h wd (lv_sub hl [2, 3, 1, 0] rfl)
def wlX10_lettersTo_4_body (Φ : Int32 → St → Prop) (k_4 : Int32 → Int32 → Int32 → St → Prop) (x1 : Int32) (x2 : Int32) (x3 : Int32) (σ : St) : Prop :=
  (((σ.1 11) ≤ x3 → Φ x2 σ) ∧ (¬ (σ.1 11) ≤ x3 → (vp_in ((13 : Int32) * x3) 520 ∧ (((rd σ 10 ((13 : Int32) * x3)) = x1 → wbX10_lettersTo_31 Φ k_4 x1 x3 x2 (1 : Int32) σ) ∧ (¬ (rd σ 10 ((13 : Int32) * x3)) = x1 → wbX10_lettersTo_31 Φ k_4 x1 x3 x2 (0 : Int32) σ)))))
def wlX10_lettersTo_4 (Φ : Int32 → St → Prop) : Nat → Int32 → Int32 → Int32 → St → Prop
  | 0 => fun _ _ _ _ => False
  | N + 1 => fun x1 x2 x3 σ => wlX10_lettersTo_4_body Φ (wlX10_lettersTo_4 Φ N) x1 x2 x3 σ
set_option maxHeartbeats 4000000 in
set_option maxRecDepth 100000 in
theorem llX10_lettersTo_4 {p : Program} {l : Launch} {e : Env} {s : State} {m : MethodId} {args : Array Value} {below : List Frame} {meth : Method} {c : Code} (C : Cx p s m args meth c cX10_lettersTo 4 (some .int) RX10) {Φ : Int32 → St → Prop} : ∀ (N : Nat) (x1 : Int32) (x2 : Int32) (x3 : Int32) (σ : St) (H : Heap) (locs : List Loc) (ls : Array Slot), wlX10_lettersTo_4 Φ N x1 x2 x3 σ → gWd D (tyL cyI cyO) (mCell ad cyI cyO) ad 16 s H locs σ → lv_has ls 4 [(0, .ref (ad 0)), (1, .int x1), (2, .int x2), (3, .int x3)] → W p l e rmX10_lettersTo s m args below meth c H locs 0 0 (MQ below (gQi D (mCell ad cyI cyO) ad 16 s.heap.size Φ) args s 0 0 (gA ad 16 s.heap.size)) (F0 m 4 ls []) := by
  obtain ⟨hx, hb, hr, hml, hown, hts, hlk⟩ := id C
  intro N
  induction N with
  | zero =>
    intro x1 x2 x3 σ H locs ls h
    exact False.elim h
  | succ N ih =>
    intro x1 x2 x3 σ H locs ls h wd hl
    have h : wlX10_lettersTo_4_body Φ (wlX10_lettersTo_4 Φ N) x1 x2 x3 σ := h
    have hk_4 := ih
    unfold wlX10_lettersTo_4_body at h
    refine lv_iload_n hx hb dX10_lettersTo_4 rfl (lv_at hl 3 rfl) ?_
    refine lv_aload_n hx hb dX10_lettersTo_5 rfl (lv_at hl 0 rfl) ?_
    refine getF C wd (k := 0) (Cn := RX10) (T := TX10) (N := 26) (v := .int (σ.1 11)) (by decide) mc_X10 rfl 11 (by decide) rfl inX10 tw4_37 dX10_lettersTo_6 ?_
    refine lv_icmp_ge (tgt := 39) hx hb dX10_lettersTo_9 (by decide) (fun c1 => ?_) (fun c1 => ?_)
    · have h := h.1 c1
      refine lv_iload_n hx hb dX10_lettersTo_39 rfl (lv_at hl 2 rfl) ?_
      exact retI C wd h dX10_lettersTo_40
    · have h := h.2 c1
      refine lv_iload_n hx hb dX10_lettersTo_12 rfl (lv_at hl 2 rfl) ?_
      refine lv_aload_n hx hb dX10_lettersTo_13 rfl (lv_at hl 0 rfl) ?_
      refine getF C wd (k := 0) (Cn := RX10) (T := TX10) (N := 26) (v := .ref (ad 10)) (by decide) mc_X10 rfl 10 (by decide) rfl inX10 tw4_36 dX10_lettersTo_14 ?_
      refine lv_bipush (v := (13 : Int32)) hx hb dX10_lettersTo_17 (by decide) ?_
      refine lv_iload_n hx hb dX10_lettersTo_19 rfl (lv_at hl 3 rfl) ?_
      refine lv_imul hx hb dX10_lettersTo_20 ?_
      obtain ⟨hi2, h⟩ := h
      refine ldI C wd (k := 10) (N := 520) (by decide) mc_A10 hi2 dX10_lettersTo_21 ?_
      refine lv_iload_n hx hb dX10_lettersTo_22 rfl (lv_at hl 1 rfl) ?_
      refine lv_icmp_ne (tgt := 30) hx hb dX10_lettersTo_23 (by decide) (fun c3 => ?_) (fun c3 => ?_)
      · have h := h.2 c3
        refine lv_iconst (v := (0 : Int32)) hx hb dX10_lettersTo_30 (by decide) ?_
        exact blX10_lettersTo_31 C hk_4 h wd (lv_sub hl [0, 1, 3] rfl)
      · have h := h.1 c3
        refine lv_iconst (v := (1 : Int32)) hx hb dX10_lettersTo_26 (by decide) ?_
        refine lv_goto (tgt := 31) hx hb dX10_lettersTo_27 (by decide) ?_
        exact blX10_lettersTo_31 C hk_4 h wd (lv_sub hl [0, 1, 3] rfl)
def wpX10_lettersTo (x1 : Int32) (σ : St) (Φ : Int32 → St → Prop) : Prop :=
  (∃ N, wlX10_lettersTo_4 Φ N x1 (0 : Int32) (0 : Int32) σ)
set_option maxHeartbeats 4000000 in
set_option maxRecDepth 100000 in
theorem cmX10_lettersTo {D : va_G} {cyI cyO : ClassId} {ad : Nat → Nat} {l : Launch} {x1 : Int32} {σ : St} {sz : Nat} {Φ : Int32 → St → Prop} (h : wpX10_lettersTo x1 σ Φ) : gMet D (tyL cyI cyO) (mCell ad cyI cyO) ad 16 l yX10_lettersTo cX10_lettersTo 4 (some .int) rmX10_lettersTo [.ref (ad 0), .int x1] σ sz (gQi D (mCell ad cyI cyO) ad 16 sz Φ) := by
  refine gMet.of (by decide) (Nat.le_of_ble_eq_true rfl) ?_
  intro p e s m below meth c ls hsz C hl wd
  subst hsz
  have C : Cx p s m _ meth c cX10_lettersTo 4 (some .int) RX10 := C
  obtain ⟨hx, hb, hr, hml, hown, hts, hlk⟩ := id C
  have hl : lv_has ls 4 [(0, .ref (ad 0)), (1, .int x1)] := hl
  unfold wpX10_lettersTo at h
  refine lv_iconst (v := (0 : Int32)) hx hb dX10_lettersTo_0 (by decide) ?_
  refine lv_istore_n (lv' := [(2, .int (0 : Int32)), (0, .ref (ad 0)), (1, .int x1)]) hx hb dX10_lettersTo_1 rfl hl (by decide) rfl (fun ls hl => ?_)
  refine lv_iconst (v := (0 : Int32)) hx hb dX10_lettersTo_2 (by decide) ?_
  refine lv_istore_n (lv' := [(3, .int (0 : Int32)), (2, .int (0 : Int32)), (0, .ref (ad 0)), (1, .int x1)]) hx hb dX10_lettersTo_3 rfl hl (by decide) rfl (fun ls hl => ?_)
  obtain ⟨N, h⟩ := h
  exact llX10_lettersTo_4 C N _ _ _ _ _ _ _ h wd (lv_sub hl [2, 3, 1, 0] rfl)
abbrev rmX10_clerkOf : Room := rmOf 4 89
def wpX10_clerkOf (x1 : Int32) (x2 : Int32) (σ : St) (Φ : Int32 → St → Prop) : Prop :=
  ((x2 = (0 : Int32) → (vp_in x1 5 ∧ Φ (rd σ 1 x1) σ)) ∧ (x2 = (1 : Int32) → (vp_in x1 5 ∧ Φ (rd σ 2 x1) σ)) ∧ (x2 = (2 : Int32) → (vp_in x1 5 ∧ Φ (rd σ 3 x1) σ)) ∧ (x2 = (3 : Int32) → wpX10_firmOf x1 σ (fun r9 t8 => Φ r9 t8)) ∧ (x2 = (4 : Int32) → (vp_in x1 5 ∧ Φ (rd σ 4 x1) σ)) ∧ (x2 = (5 : Int32) → (vp_in x1 5 ∧ wpX10_pageOf x1 (rd σ 2 x1) σ (fun r15 t14 => (vp_in r15 120 ∧ Φ (rd t14 7 r15) t14)))) ∧ (x2 = (6 : Int32) → wpX10_lettersTo x1 σ (fun r19 t18 => Φ r19 t18)) ∧ (¬ x2 = (0 : Int32) → ¬ x2 = (1 : Int32) → ¬ x2 = (2 : Int32) → ¬ x2 = (3 : Int32) → ¬ x2 = (4 : Int32) → ¬ x2 = (5 : Int32) → ¬ x2 = (6 : Int32) → wpX10_heldOf x1 σ (fun r21 t20 => Φ r21 t20)))
set_option maxHeartbeats 4000000 in
set_option maxRecDepth 100000 in
theorem cmX10_clerkOf {D : va_G} {cyI cyO : ClassId} {ad : Nat → Nat} {l : Launch} {x1 : Int32} {x2 : Int32} {σ : St} {sz : Nat} {Φ : Int32 → St → Prop} (h : wpX10_clerkOf x1 x2 σ Φ) : gMet D (tyL cyI cyO) (mCell ad cyI cyO) ad 16 l yX10_clerkOf cX10_clerkOf 3 (some .int) rmX10_clerkOf [.ref (ad 0), .int x1, .int x2] σ sz (gQi D (mCell ad cyI cyO) ad 16 sz Φ) := by
  refine gMet.of (by decide) (Nat.le_of_ble_eq_true rfl) ?_
  intro p e s m below meth c ls hsz C hl wd
  subst hsz
  have C : Cx p s m _ meth c cX10_clerkOf 3 (some .int) RX10 := C
  obtain ⟨hx, hb, hr, hml, hown, hts, hlk⟩ := id C
  have hl : lv_has ls 3 [(0, .ref (ad 0)), (1, .int x1), (2, .int x2)] := hl
  unfold wpX10_clerkOf at h
  refine lv_iload_n hx hb dX10_clerkOf_0 rfl (lv_at hl 2 rfl) ?_
  by_cases c1 : x2 = (0 : Int32)
  · have h := h.1 c1
    refine lv_tableIn (off := 43) (tgt := 44) hx hb dX10_clerkOf_1 (by rw [c1]; decide) (by rw [c1]; decide) (by rw [c1]; rfl) (by decide) ?_
    refine lv_aload_n hx hb dX10_clerkOf_44 rfl (lv_at hl 0 rfl) ?_
    refine getF C wd (k := 0) (Cn := RX10) (T := TX10) (N := 26) (v := .ref (ad 1)) (by decide) mc_X10 rfl 1 (by decide) rfl inX10 tw4_27 dX10_clerkOf_45 ?_
    refine lv_iload_n hx hb dX10_clerkOf_48 rfl (lv_at hl 1 rfl) ?_
    obtain ⟨hi2, h⟩ := h
    refine ldI C wd (k := 1) (N := 5) (by decide) mc_A1 hi2 dX10_clerkOf_49 ?_
    exact retI C wd h dX10_clerkOf_50
  · skip
    by_cases c3 : x2 = (1 : Int32)
    · have h := h.2.1 c3
      refine lv_tableIn (off := 50) (tgt := 51) hx hb dX10_clerkOf_1 (by rw [c3]; decide) (by rw [c3]; decide) (by rw [c3]; rfl) (by decide) ?_
      refine lv_aload_n hx hb dX10_clerkOf_51 rfl (lv_at hl 0 rfl) ?_
      refine getF C wd (k := 0) (Cn := RX10) (T := TX10) (N := 26) (v := .ref (ad 2)) (by decide) mc_X10 rfl 2 (by decide) rfl inX10 tw4_28 dX10_clerkOf_52 ?_
      refine lv_iload_n hx hb dX10_clerkOf_55 rfl (lv_at hl 1 rfl) ?_
      obtain ⟨hi4, h⟩ := h
      refine ldI C wd (k := 2) (N := 5) (by decide) mc_A2 hi4 dX10_clerkOf_56 ?_
      exact retI C wd h dX10_clerkOf_57
    · skip
      by_cases c5 : x2 = (2 : Int32)
      · have h := h.2.2.1 c5
        refine lv_tableIn (off := 57) (tgt := 58) hx hb dX10_clerkOf_1 (by rw [c5]; decide) (by rw [c5]; decide) (by rw [c5]; rfl) (by decide) ?_
        refine lv_aload_n hx hb dX10_clerkOf_58 rfl (lv_at hl 0 rfl) ?_
        refine getF C wd (k := 0) (Cn := RX10) (T := TX10) (N := 26) (v := .ref (ad 3)) (by decide) mc_X10 rfl 3 (by decide) rfl inX10 tw4_29 dX10_clerkOf_59 ?_
        refine lv_iload_n hx hb dX10_clerkOf_62 rfl (lv_at hl 1 rfl) ?_
        obtain ⟨hi6, h⟩ := h
        refine ldI C wd (k := 3) (N := 5) (by decide) mc_A3 hi6 dX10_clerkOf_63 ?_
        exact retI C wd h dX10_clerkOf_64
      · skip
        by_cases c7 : x2 = (3 : Int32)
        · have h := h.2.2.2.1 c7
          refine lv_tableIn (off := 64) (tgt := 65) hx hb dX10_clerkOf_1 (by rw [c7]; decide) (by rw [c7]; decide) (by rw [c7]; rfl) (by decide) ?_
          refine lv_aload_n hx hb dX10_clerkOf_65 rfl (lv_at hl 0 rfl) ?_
          refine lv_iload_n hx hb dX10_clerkOf_66 rfl (lv_at hl 1 rfl) ?_
          refine gCi wd (gRunV (y := yX10_firmOf) (k := 0) (As := [.int x1]) (rest := []) C wd (cmX10_firmOf h) ⟨rfl, rfl⟩ gd_X10_194 nk_X10_firmOf ⟨Nat.le_of_ble_eq_true rfl, Nat.le_of_ble_eq_true rfl⟩ (by decide) mc_X10 rfl rfl hl.1 (Nat.le_of_ble_eq_true rfl) dX10_clerkOf_67 rfl) (fun r9 t8 H locs h wd => ?_)
          try dsimp only at h
          exact retI C wd h dX10_clerkOf_70
        · skip
          by_cases c10 : x2 = (4 : Int32)
          · have h := h.2.2.2.2.1 c10
            refine lv_tableIn (off := 70) (tgt := 71) hx hb dX10_clerkOf_1 (by rw [c10]; decide) (by rw [c10]; decide) (by rw [c10]; rfl) (by decide) ?_
            refine lv_aload_n hx hb dX10_clerkOf_71 rfl (lv_at hl 0 rfl) ?_
            refine getF C wd (k := 0) (Cn := RX10) (T := TX10) (N := 26) (v := .ref (ad 4)) (by decide) mc_X10 rfl 4 (by decide) rfl inX10 tw4_30 dX10_clerkOf_72 ?_
            refine lv_iload_n hx hb dX10_clerkOf_75 rfl (lv_at hl 1 rfl) ?_
            obtain ⟨hi11, h⟩ := h
            refine ldI C wd (k := 4) (N := 5) (by decide) mc_A4 hi11 dX10_clerkOf_76 ?_
            exact retI C wd h dX10_clerkOf_77
          · skip
            by_cases c12 : x2 = (5 : Int32)
            · have h := h.2.2.2.2.2.1 c12
              refine lv_tableIn (off := 77) (tgt := 78) hx hb dX10_clerkOf_1 (by rw [c12]; decide) (by rw [c12]; decide) (by rw [c12]; rfl) (by decide) ?_
              refine lv_aload_n hx hb dX10_clerkOf_78 rfl (lv_at hl 0 rfl) ?_
              refine getF C wd (k := 0) (Cn := RX10) (T := TX10) (N := 26) (v := .ref (ad 7)) (by decide) mc_X10 rfl 7 (by decide) rfl inX10 tw4_33 dX10_clerkOf_79 ?_
              refine lv_iload_n hx hb dX10_clerkOf_82 rfl (lv_at hl 1 rfl) ?_
              refine lv_aload_n hx hb dX10_clerkOf_83 rfl (lv_at hl 0 rfl) ?_
              refine getF C wd (k := 0) (Cn := RX10) (T := TX10) (N := 26) (v := .ref (ad 2)) (by decide) mc_X10 rfl 2 (by decide) rfl inX10 tw4_28 dX10_clerkOf_84 ?_
              refine lv_iload_n hx hb dX10_clerkOf_87 rfl (lv_at hl 1 rfl) ?_
              obtain ⟨hi13, h⟩ := h
              refine ldI C wd (k := 2) (N := 5) (by decide) mc_A2 hi13 dX10_clerkOf_88 ?_
              refine gCi wd (gRunS (y := yX10_pageOf) (As := [.int x1, .int (rd σ 2 x1)]) (rest := [.ref (ad 7)]) C wd (cmX10_pageOf h) ⟨rfl, rfl⟩ gd_X10_63 nk_X10_pageOf ⟨Nat.le_of_ble_eq_true rfl, Nat.le_of_ble_eq_true rfl⟩ hl.1 (Nat.le_of_ble_eq_true rfl) dX10_clerkOf_89 rfl) (fun r15 t14 H locs h wd => ?_)
              try dsimp only at h
              obtain ⟨hi16, h⟩ := h
              refine ldI C wd (k := 7) (N := 120) (by decide) mc_A7 hi16 dX10_clerkOf_92 ?_
              exact retI C wd h dX10_clerkOf_93
            · skip
              by_cases c17 : x2 = (6 : Int32)
              · have h := h.2.2.2.2.2.2.1 c17
                refine lv_tableIn (off := 93) (tgt := 94) hx hb dX10_clerkOf_1 (by rw [c17]; decide) (by rw [c17]; decide) (by rw [c17]; rfl) (by decide) ?_
                refine lv_aload_n hx hb dX10_clerkOf_94 rfl (lv_at hl 0 rfl) ?_
                refine lv_iload_n hx hb dX10_clerkOf_95 rfl (lv_at hl 1 rfl) ?_
                refine gCi wd (gRunV (y := yX10_lettersTo) (k := 0) (As := [.int x1]) (rest := []) C wd (cmX10_lettersTo h) ⟨rfl, rfl⟩ gd_X10_197 nk_X10_lettersTo ⟨Nat.le_of_ble_eq_true rfl, Nat.le_of_ble_eq_true rfl⟩ (by decide) mc_X10 rfl rfl hl.1 (Nat.le_of_ble_eq_true rfl) dX10_clerkOf_96 rfl) (fun r19 t18 H locs h wd => ?_)
                try dsimp only at h
                exact retI C wd h dX10_clerkOf_99
              · skip
                have h := h.2.2.2.2.2.2.2 c1 c3 c5 c7 c10 c12 c17
                refine lv_tableD (tgt := 100) C dX10_clerkOf_1 ?_ (by decide) ?_
                · by_cases a1 : x2.toInt < 0
                  · exact Or.inl a1
                  by_cases a2 : 6 < x2.toInt
                  · exact Or.inr (Or.inl a2)
                  have b0 : x2.toInt ≠ 0 := fun q => c1 (Int32.toInt_inj.mp q)
                  have b1 : x2.toInt ≠ 1 := fun q => c3 (Int32.toInt_inj.mp q)
                  have b2 : x2.toInt ≠ 2 := fun q => c5 (Int32.toInt_inj.mp q)
                  have b3 : x2.toInt ≠ 3 := fun q => c7 (Int32.toInt_inj.mp q)
                  have b4 : x2.toInt ≠ 4 := fun q => c10 (Int32.toInt_inj.mp q)
                  have b5 : x2.toInt ≠ 5 := fun q => c12 (Int32.toInt_inj.mp q)
                  have b6 : x2.toInt ≠ 6 := fun q => c17 (Int32.toInt_inj.mp q)
                  exact absurd a1 (by omega)
                · refine lv_aload_n hx hb dX10_clerkOf_100 rfl (lv_at hl 0 rfl) ?_
                  refine lv_iload_n hx hb dX10_clerkOf_101 rfl (lv_at hl 1 rfl) ?_
                  refine gCi wd (gRunV (y := yX10_heldOf) (k := 0) (As := [.int x1]) (rest := []) C wd (cmX10_heldOf h) ⟨rfl, rfl⟩ gd_X10_200 nk_X10_heldOf ⟨Nat.le_of_ble_eq_true rfl, Nat.le_of_ble_eq_true rfl⟩ (by decide) mc_X10 rfl rfl hl.1 (Nat.le_of_ble_eq_true rfl) dX10_clerkOf_102 rfl) (fun r21 t20 H locs h wd => ?_)
                  try dsimp only at h
                  exact retI C wd h dX10_clerkOf_105
abbrev rmX10_of : Room := rmOf 5 111
def wbX10_of_29 (Φ : Int32 → St → Prop) (σ : St) : Prop :=
  wpX10_bad σ (fun r2 t1 => Φ r2 t1)
set_option maxHeartbeats 4000000 in
set_option maxRecDepth 100000 in
theorem blX10_of_29 {p : Program} {l : Launch} {e : Env} {s : State} {m : MethodId} {args : Array Value} {below : List Frame} {meth : Method} {c : Code} (C : Cx p s m args meth c cX10_of 3 (some .int) RX10) {Φ : Int32 → St → Prop} {σ : St} {H : Heap} {locs : List Loc} {ls : Array Slot} (h : wbX10_of_29 Φ σ) (wd : gWd D (tyL cyI cyO) (mCell ad cyI cyO) ad 16 s H locs σ) (hl : lv_has ls 3 [(0, .ref (ad 0))]) : W p l e rmX10_of s m args below meth c H locs 0 0 (MQ below (gQi D (mCell ad cyI cyO) ad 16 s.heap.size Φ) args s 0 0 (gA ad 16 s.heap.size)) (F0 m 29 ls []) := by
  obtain ⟨hx, hb, hr, hml, hown, hts, hlk⟩ := id C
  unfold wbX10_of_29 at h
  refine lv_aload_n hx hb dX10_of_29 rfl (lv_at hl 0 rfl) ?_
  refine gCi wd (gRunV (y := yX10_bad) (k := 0) (As := []) (rest := []) C wd (cmX10_bad h) ⟨rfl, rfl⟩ gd_X10_87 nk_X10_bad ⟨Nat.le_of_ble_eq_true rfl, Nat.le_of_ble_eq_true rfl⟩ (by decide) mc_X10 rfl rfl hl.1 (Nat.le_of_ble_eq_true rfl) dX10_of_30 rfl) (fun r2 t1 H locs h wd => ?_)
  try dsimp only at h
  exact retI C wd h dX10_of_33
def wpX10_of (x1 : Int32) (x2 : Int32) (σ : St) (Φ : Int32 → St → Prop) : Prop :=
  wpX10_isClerk x1 σ (fun r2 t1 => ((r2 = 0 → wbX10_of_29 Φ t1) ∧ (¬ r2 = 0 → wpX10_in x2.toInt64 (0 : Int64) (7 : Int64) t1 (fun r5 t4 => ((r5 = 0 → wbX10_of_29 Φ t4) ∧ (¬ r5 = 0 → wpX10_clerkOf x1 x2 t4 (fun r8 t7 => Φ r8 t7)))))))
set_option maxHeartbeats 4000000 in
set_option maxRecDepth 100000 in
theorem cmX10_of {D : va_G} {cyI cyO : ClassId} {ad : Nat → Nat} {l : Launch} {x1 : Int32} {x2 : Int32} {σ : St} {sz : Nat} {Φ : Int32 → St → Prop} (h : wpX10_of x1 x2 σ Φ) : gMet D (tyL cyI cyO) (mCell ad cyI cyO) ad 16 l yX10_of cX10_of 3 (some .int) rmX10_of [.ref (ad 0), .int x1, .int x2] σ sz (gQi D (mCell ad cyI cyO) ad 16 sz Φ) := by
  refine gMet.of (by decide) (Nat.le_of_ble_eq_true rfl) ?_
  intro p e s m below meth c ls hsz C hl wd
  subst hsz
  have C : Cx p s m _ meth c cX10_of 3 (some .int) RX10 := C
  obtain ⟨hx, hb, hr, hml, hown, hts, hlk⟩ := id C
  have hl : lv_has ls 3 [(0, .ref (ad 0)), (1, .int x1), (2, .int x2)] := hl
  unfold wpX10_of at h
  refine lv_aload_n hx hb dX10_of_0 rfl (lv_at hl 0 rfl) ?_
  refine lv_iload_n hx hb dX10_of_1 rfl (lv_at hl 1 rfl) ?_
  refine gCi wd (gRunV (y := yX10_isClerk) (k := 0) (As := [.int x1]) (rest := []) C wd (cmX10_isClerk h) ⟨rfl, rfl⟩ gd_X10_98 nk_X10_isClerk ⟨Nat.le_of_ble_eq_true rfl, Nat.le_of_ble_eq_true rfl⟩ (by decide) mc_X10 rfl rfl hl.1 (Nat.le_of_ble_eq_true rfl) dX10_of_2 rfl) (fun r2 t1 H locs h wd => ?_)
  try dsimp only at h
  refine lv_if_eq (tgt := 29) hx hb dX10_of_5 (by decide) (fun c3 => ?_) (fun c3 => ?_)
  · have h := h.1 c3
    exact blX10_of_29 C h wd (lv_sub hl [0] rfl)
  · have h := h.2 c3
    refine lv_iload_n hx hb dX10_of_8 rfl (lv_at hl 2 rfl) ?_
    refine lv_i2l hx hb dX10_of_9 rfl ?_
    refine lv_lconst (v := (0 : Int64)) hx hb dX10_of_10 (by decide) ?_
    refine lv_ldc2 (v := (7 : Int64)) hx hb hown (hts _ tw5_18) dX10_of_11 ?_
    refine gCi wd (gRunS (y := yX10_in) (As := [.long x2.toInt64, .long (0 : Int64), .long (7 : Int64)]) (rest := []) C wd (cmX10_in h) ⟨rfl, rfl⟩ gd_X10_59 nk_X10_in ⟨Nat.le_of_ble_eq_true rfl, Nat.le_of_ble_eq_true rfl⟩ hl.1 (Nat.le_of_ble_eq_true rfl) dX10_of_14 rfl) (fun r5 t4 H locs h wd => ?_)
    try dsimp only at h
    refine lv_if_eq (tgt := 29) hx hb dX10_of_17 (by decide) (fun c6 => ?_) (fun c6 => ?_)
    · have h := h.1 c6
      exact blX10_of_29 C h wd (lv_sub hl [0] rfl)
    · have h := h.2 c6
      refine lv_aload_n hx hb dX10_of_20 rfl (lv_at hl 0 rfl) ?_
      refine lv_iload_n hx hb dX10_of_21 rfl (lv_at hl 1 rfl) ?_
      refine lv_iload_n hx hb dX10_of_22 rfl (lv_at hl 2 rfl) ?_
      refine gCi wd (gRunV (y := yX10_clerkOf) (k := 0) (As := [.int x1, .int x2]) (rest := []) C wd (cmX10_clerkOf h) ⟨rfl, rfl⟩ gd_X10_205 nk_X10_clerkOf ⟨Nat.le_of_ble_eq_true rfl, Nat.le_of_ble_eq_true rfl⟩ (by decide) mc_X10 rfl rfl hl.1 (Nat.le_of_ble_eq_true rfl) dX10_of_23 rfl) (fun r8 t7 H locs h wd => ?_)
      try dsimp only at h
      refine lv_goto (tgt := 33) hx hb dX10_of_26 (by decide) ?_
      exact retI C wd h dX10_of_33
abbrev rmX10_page : Room := rmOf 2 46
def wbX10_page_33 (Φ : Int32 → St → Prop) (σ : St) : Prop :=
  wpX10_bad σ (fun r2 t1 => Φ r2 t1)
set_option maxHeartbeats 4000000 in
set_option maxRecDepth 100000 in
theorem blX10_page_33 {p : Program} {l : Launch} {e : Env} {s : State} {m : MethodId} {args : Array Value} {below : List Frame} {meth : Method} {c : Code} (C : Cx p s m args meth c cX10_page 5 (some .int) RX10) {Φ : Int32 → St → Prop} {σ : St} {H : Heap} {locs : List Loc} {ls : Array Slot} (h : wbX10_page_33 Φ σ) (wd : gWd D (tyL cyI cyO) (mCell ad cyI cyO) ad 16 s H locs σ) (hl : lv_has ls 5 [(0, .ref (ad 0))]) : W p l e rmX10_page s m args below meth c H locs 0 0 (MQ below (gQi D (mCell ad cyI cyO) ad 16 s.heap.size Φ) args s 0 0 (gA ad 16 s.heap.size)) (F0 m 33 ls []) := by
  obtain ⟨hx, hb, hr, hml, hown, hts, hlk⟩ := id C
  unfold wbX10_page_33 at h
  refine lv_aload_n hx hb dX10_page_33 rfl (lv_at hl 0 rfl) ?_
  refine gCi wd (gRunV (y := yX10_bad) (k := 0) (As := []) (rest := []) C wd (cmX10_bad h) ⟨rfl, rfl⟩ gd_X10_87 nk_X10_bad ⟨Nat.le_of_ble_eq_true rfl, Nat.le_of_ble_eq_true rfl⟩ (by decide) mc_X10 rfl rfl hl.1 (Nat.le_of_ble_eq_true rfl) dX10_page_34 rfl) (fun r2 t1 H locs h wd => ?_)
  try dsimp only at h
  exact retI C wd h dX10_page_37
def wpX10_page (x1 : Int32) (x2 : Int32) (x3 : Int32) (x4 : Int32) (σ : St) (Φ : Int32 → St → Prop) : Prop :=
  wpX10_isClerk x1 σ (fun r2 t1 => ((r2 = 0 → wbX10_page_33 Φ t1) ∧ (¬ r2 = 0 → ((x2 < 0 → wbX10_page_33 Φ t1) ∧ (¬ x2 < 0 → wpX10_isClerk x3 t1 (fun r6 t5 => ((r6 = 0 → wbX10_page_33 Φ t5) ∧ (¬ r6 = 0 → wpX10_in x4.toInt64 (0 : Int64) (3 : Int64) t5 (fun r9 t8 => ((r9 = 0 → wbX10_page_33 Φ t8) ∧ (¬ r9 = 0 → (vp_in x1 5 ∧ (vp_in x1 5 ∧ wpX10_in x2.toInt64 ((rd t8 4 x1).toInt64) ((rd t8 2 x1).toInt64) t8 (fun r14 t13 => ((r14 = 0 → wpX10_no t13 (fun r32 t31 => Φ r32 t31)) ∧ (¬ r14 = 0 → ((x4 = 0 → wpX10_pageOf x1 x2 t13 (fun r29 t28 => (vp_in r29 120 ∧ Φ (rd t28 6 r29) t28))) ∧ (¬ x4 = 0 → ((x4 = (1 : Int32) → wpX10_pageOf x1 x2 t13 (fun r26 t25 => (vp_in r26 120 ∧ Φ (rd t25 7 r26) t25))) ∧ (¬ x4 = (1 : Int32) → ((x4 = (2 : Int32) → wpX10_restOf x1 x2 x3 t13 (fun r23 t22 => (vp_in r23 600 ∧ Φ (rd t22 8 r23) t22))) ∧ (¬ x4 = (2 : Int32) → wpX10_restOf x1 x2 x3 t13 (fun r20 t19 => (vp_in r20 600 ∧ Φ (rd t19 9 r20) t19))))))))))))))))))))))))
set_option maxHeartbeats 4000000 in
set_option maxRecDepth 100000 in
theorem cmX10_page {D : va_G} {cyI cyO : ClassId} {ad : Nat → Nat} {l : Launch} {x1 : Int32} {x2 : Int32} {x3 : Int32} {x4 : Int32} {σ : St} {sz : Nat} {Φ : Int32 → St → Prop} (h : wpX10_page x1 x2 x3 x4 σ Φ) : gMet D (tyL cyI cyO) (mCell ad cyI cyO) ad 16 l yX10_page cX10_page 5 (some .int) rmX10_page [.ref (ad 0), .int x1, .int x2, .int x3, .int x4] σ sz (gQi D (mCell ad cyI cyO) ad 16 sz Φ) := by
  refine gMet.of (by decide) (Nat.le_of_ble_eq_true rfl) ?_
  intro p e s m below meth c ls hsz C hl wd
  subst hsz
  have C : Cx p s m _ meth c cX10_page 5 (some .int) RX10 := C
  obtain ⟨hx, hb, hr, hml, hown, hts, hlk⟩ := id C
  have hl : lv_has ls 5 [(0, .ref (ad 0)), (1, .int x1), (2, .int x2), (3, .int x3), (4, .int x4)] := hl
  unfold wpX10_page at h
  refine lv_aload_n hx hb dX10_page_0 rfl (lv_at hl 0 rfl) ?_
  refine lv_iload_n hx hb dX10_page_1 rfl (lv_at hl 1 rfl) ?_
  refine gCi wd (gRunV (y := yX10_isClerk) (k := 0) (As := [.int x1]) (rest := []) C wd (cmX10_isClerk h) ⟨rfl, rfl⟩ gd_X10_98 nk_X10_isClerk ⟨Nat.le_of_ble_eq_true rfl, Nat.le_of_ble_eq_true rfl⟩ (by decide) mc_X10 rfl rfl hl.1 (Nat.le_of_ble_eq_true rfl) dX10_page_2 rfl) (fun r2 t1 H locs h wd => ?_)
  try dsimp only at h
  refine lv_if_eq (tgt := 33) hx hb dX10_page_5 (by decide) (fun c3 => ?_) (fun c3 => ?_)
  · have h := h.1 c3
    exact blX10_page_33 C h wd (lv_sub hl [0] rfl)
  · have h := h.2 c3
    refine lv_iload_n hx hb dX10_page_8 rfl (lv_at hl 2 rfl) ?_
    refine lv_if_lt (tgt := 33) hx hb dX10_page_9 (by decide) (fun c4 => ?_) (fun c4 => ?_)
    · have h := h.1 c4
      exact blX10_page_33 C h wd (lv_sub hl [0] rfl)
    · have h := h.2 c4
      refine lv_aload_n hx hb dX10_page_12 rfl (lv_at hl 0 rfl) ?_
      refine lv_iload_n hx hb dX10_page_13 rfl (lv_at hl 3 rfl) ?_
      refine gCi wd (gRunV (y := yX10_isClerk) (k := 0) (As := [.int x3]) (rest := []) C wd (cmX10_isClerk h) ⟨rfl, rfl⟩ gd_X10_98 nk_X10_isClerk ⟨Nat.le_of_ble_eq_true rfl, Nat.le_of_ble_eq_true rfl⟩ (by decide) mc_X10 rfl rfl hl.1 (Nat.le_of_ble_eq_true rfl) dX10_page_14 rfl) (fun r6 t5 H locs h wd => ?_)
      try dsimp only at h
      refine lv_if_eq (tgt := 33) hx hb dX10_page_17 (by decide) (fun c7 => ?_) (fun c7 => ?_)
      · have h := h.1 c7
        exact blX10_page_33 C h wd (lv_sub hl [0] rfl)
      · have h := h.2 c7
        refine lv_iload hx hb dX10_page_20 (lv_at hl 4 rfl) ?_
        refine lv_i2l hx hb dX10_page_22 rfl ?_
        refine lv_lconst (v := (0 : Int64)) hx hb dX10_page_23 (by decide) ?_
        refine lv_ldc2 (v := (3 : Int64)) hx hb hown (hts _ tw4_141) dX10_page_24 ?_
        refine gCi wd (gRunS (y := yX10_in) (As := [.long x4.toInt64, .long (0 : Int64), .long (3 : Int64)]) (rest := []) C wd (cmX10_in h) ⟨rfl, rfl⟩ gd_X10_59 nk_X10_in ⟨Nat.le_of_ble_eq_true rfl, Nat.le_of_ble_eq_true rfl⟩ hl.1 (Nat.le_of_ble_eq_true rfl) dX10_page_27 rfl) (fun r9 t8 H locs h wd => ?_)
        try dsimp only at h
        refine lv_if_ne (tgt := 38) hx hb dX10_page_30 (by decide) (fun c10 => ?_) (fun c10 => ?_)
        · have h := h.2 c10
          refine lv_iload_n hx hb dX10_page_38 rfl (lv_at hl 2 rfl) ?_
          refine lv_i2l hx hb dX10_page_39 rfl ?_
          refine lv_aload_n hx hb dX10_page_40 rfl (lv_at hl 0 rfl) ?_
          refine getF C wd (k := 0) (Cn := RX10) (T := TX10) (N := 26) (v := .ref (ad 4)) (by decide) mc_X10 rfl 4 (by decide) rfl inX10 tw4_30 dX10_page_41 ?_
          refine lv_iload_n hx hb dX10_page_44 rfl (lv_at hl 1 rfl) ?_
          obtain ⟨hi11, h⟩ := h
          refine ldI C wd (k := 4) (N := 5) (by decide) mc_A4 hi11 dX10_page_45 ?_
          refine lv_i2l hx hb dX10_page_46 rfl ?_
          refine lv_aload_n hx hb dX10_page_47 rfl (lv_at hl 0 rfl) ?_
          refine getF C wd (k := 0) (Cn := RX10) (T := TX10) (N := 26) (v := .ref (ad 2)) (by decide) mc_X10 rfl 2 (by decide) rfl inX10 tw4_28 dX10_page_48 ?_
          refine lv_iload_n hx hb dX10_page_51 rfl (lv_at hl 1 rfl) ?_
          obtain ⟨hi12, h⟩ := h
          refine ldI C wd (k := 2) (N := 5) (by decide) mc_A2 hi12 dX10_page_52 ?_
          refine lv_i2l hx hb dX10_page_53 rfl ?_
          refine gCi wd (gRunS (y := yX10_in) (As := [.long x2.toInt64, .long ((rd t8 4 x1).toInt64), .long ((rd t8 2 x1).toInt64)]) (rest := []) C wd (cmX10_in h) ⟨rfl, rfl⟩ gd_X10_59 nk_X10_in ⟨Nat.le_of_ble_eq_true rfl, Nat.le_of_ble_eq_true rfl⟩ hl.1 (Nat.le_of_ble_eq_true rfl) dX10_page_54 rfl) (fun r14 t13 H locs h wd => ?_)
          try dsimp only at h
          refine lv_if_ne (tgt := 65) hx hb dX10_page_57 (by decide) (fun c15 => ?_) (fun c15 => ?_)
          · have h := h.2 c15
            refine lv_iload hx hb dX10_page_65 (lv_at hl 4 rfl) ?_
            refine lv_if_ne (tgt := 83) hx hb dX10_page_67 (by decide) (fun c16 => ?_) (fun c16 => ?_)
            · have h := h.2 c16
              refine lv_iload hx hb dX10_page_83 (lv_at hl 4 rfl) ?_
              refine lv_iconst (v := (1 : Int32)) hx hb dX10_page_85 (by decide) ?_
              refine lv_icmp_ne (tgt := 102) hx hb dX10_page_86 (by decide) (fun c17 => ?_) (fun c17 => ?_)
              · have h := h.2 c17
                refine lv_iload hx hb dX10_page_102 (lv_at hl 4 rfl) ?_
                refine lv_iconst (v := (2 : Int32)) hx hb dX10_page_104 (by decide) ?_
                refine lv_icmp_ne (tgt := 122) hx hb dX10_page_105 (by decide) (fun c18 => ?_) (fun c18 => ?_)
                · have h := h.2 c18
                  refine lv_aload_n hx hb dX10_page_122 rfl (lv_at hl 0 rfl) ?_
                  refine getF C wd (k := 0) (Cn := RX10) (T := TX10) (N := 26) (v := .ref (ad 9)) (by decide) mc_X10 rfl 9 (by decide) rfl inX10 tw4_35 dX10_page_123 ?_
                  refine lv_iload_n hx hb dX10_page_126 rfl (lv_at hl 1 rfl) ?_
                  refine lv_iload_n hx hb dX10_page_127 rfl (lv_at hl 2 rfl) ?_
                  refine lv_iload_n hx hb dX10_page_128 rfl (lv_at hl 3 rfl) ?_
                  refine gCi wd (gRunS (y := yX10_restOf) (As := [.int x1, .int x2, .int x3]) (rest := [.ref (ad 9)]) C wd (cmX10_restOf h) ⟨rfl, rfl⟩ gd_X10_67 nk_X10_restOf ⟨Nat.le_of_ble_eq_true rfl, Nat.le_of_ble_eq_true rfl⟩ hl.1 (Nat.le_of_ble_eq_true rfl) dX10_page_129 rfl) (fun r20 t19 H locs h wd => ?_)
                  try dsimp only at h
                  obtain ⟨hi21, h⟩ := h
                  refine ldI C wd (k := 9) (N := 600) (by decide) mc_A9 hi21 dX10_page_132 ?_
                  exact retI C wd h dX10_page_133
                · have h := h.1 c18
                  refine lv_aload_n hx hb dX10_page_108 rfl (lv_at hl 0 rfl) ?_
                  refine getF C wd (k := 0) (Cn := RX10) (T := TX10) (N := 26) (v := .ref (ad 8)) (by decide) mc_X10 rfl 8 (by decide) rfl inX10 tw4_34 dX10_page_109 ?_
                  refine lv_iload_n hx hb dX10_page_112 rfl (lv_at hl 1 rfl) ?_
                  refine lv_iload_n hx hb dX10_page_113 rfl (lv_at hl 2 rfl) ?_
                  refine lv_iload_n hx hb dX10_page_114 rfl (lv_at hl 3 rfl) ?_
                  refine gCi wd (gRunS (y := yX10_restOf) (As := [.int x1, .int x2, .int x3]) (rest := [.ref (ad 8)]) C wd (cmX10_restOf h) ⟨rfl, rfl⟩ gd_X10_67 nk_X10_restOf ⟨Nat.le_of_ble_eq_true rfl, Nat.le_of_ble_eq_true rfl⟩ hl.1 (Nat.le_of_ble_eq_true rfl) dX10_page_115 rfl) (fun r23 t22 H locs h wd => ?_)
                  try dsimp only at h
                  obtain ⟨hi24, h⟩ := h
                  refine ldI C wd (k := 8) (N := 600) (by decide) mc_A8 hi24 dX10_page_118 ?_
                  refine lv_goto (tgt := 133) hx hb dX10_page_119 (by decide) ?_
                  exact retI C wd h dX10_page_133
              · have h := h.1 c17
                refine lv_aload_n hx hb dX10_page_89 rfl (lv_at hl 0 rfl) ?_
                refine getF C wd (k := 0) (Cn := RX10) (T := TX10) (N := 26) (v := .ref (ad 7)) (by decide) mc_X10 rfl 7 (by decide) rfl inX10 tw4_33 dX10_page_90 ?_
                refine lv_iload_n hx hb dX10_page_93 rfl (lv_at hl 1 rfl) ?_
                refine lv_iload_n hx hb dX10_page_94 rfl (lv_at hl 2 rfl) ?_
                refine gCi wd (gRunS (y := yX10_pageOf) (As := [.int x1, .int x2]) (rest := [.ref (ad 7)]) C wd (cmX10_pageOf h) ⟨rfl, rfl⟩ gd_X10_63 nk_X10_pageOf ⟨Nat.le_of_ble_eq_true rfl, Nat.le_of_ble_eq_true rfl⟩ hl.1 (Nat.le_of_ble_eq_true rfl) dX10_page_95 rfl) (fun r26 t25 H locs h wd => ?_)
                try dsimp only at h
                obtain ⟨hi27, h⟩ := h
                refine ldI C wd (k := 7) (N := 120) (by decide) mc_A7 hi27 dX10_page_98 ?_
                refine lv_goto (tgt := 133) hx hb dX10_page_99 (by decide) ?_
                exact retI C wd h dX10_page_133
            · have h := h.1 c16
              refine lv_aload_n hx hb dX10_page_70 rfl (lv_at hl 0 rfl) ?_
              refine getF C wd (k := 0) (Cn := RX10) (T := TX10) (N := 26) (v := .ref (ad 6)) (by decide) mc_X10 rfl 6 (by decide) rfl inX10 tw4_32 dX10_page_71 ?_
              refine lv_iload_n hx hb dX10_page_74 rfl (lv_at hl 1 rfl) ?_
              refine lv_iload_n hx hb dX10_page_75 rfl (lv_at hl 2 rfl) ?_
              refine gCi wd (gRunS (y := yX10_pageOf) (As := [.int x1, .int x2]) (rest := [.ref (ad 6)]) C wd (cmX10_pageOf h) ⟨rfl, rfl⟩ gd_X10_63 nk_X10_pageOf ⟨Nat.le_of_ble_eq_true rfl, Nat.le_of_ble_eq_true rfl⟩ hl.1 (Nat.le_of_ble_eq_true rfl) dX10_page_76 rfl) (fun r29 t28 H locs h wd => ?_)
              try dsimp only at h
              obtain ⟨hi30, h⟩ := h
              refine ldI C wd (k := 6) (N := 120) (by decide) mc_A6 hi30 dX10_page_79 ?_
              refine lv_goto (tgt := 133) hx hb dX10_page_80 (by decide) ?_
              exact retI C wd h dX10_page_133
          · have h := h.1 c15
            refine lv_aload_n hx hb dX10_page_60 rfl (lv_at hl 0 rfl) ?_
            refine gCi wd (gRunV (y := yX10_no) (k := 0) (As := []) (rest := []) C wd (cmX10_no h) ⟨rfl, rfl⟩ gd_X10_208 nk_X10_no ⟨Nat.le_of_ble_eq_true rfl, Nat.le_of_ble_eq_true rfl⟩ (by decide) mc_X10 rfl rfl hl.1 (Nat.le_of_ble_eq_true rfl) dX10_page_61 rfl) (fun r32 t31 H locs h wd => ?_)
            try dsimp only at h
            exact retI C wd h dX10_page_64
        · have h := h.1 c10
          exact blX10_page_33 C h wd (lv_sub hl [0] rfl)
end
