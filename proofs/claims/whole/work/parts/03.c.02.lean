section
variable {D : va_G} {cyI cyO : ClassId} {ad : Nat → Nat} {n : Nat}
abbrev rmX2_sendLetter : Room := rmOf 4 92
def wpX2_sendLetter (x1 : Int32) (x2 : Int32) (σ : St) (Φ : Int32 → St → Prop) : Prop :=
  (((σ.1 64) < (40 : Int32) → wpX2_clerk x1 σ (fun r3 t2 => wpX3_add r3 x2 t2 (fun t4 => Φ (t4.1 64) t4))) ∧ (¬ (σ.1 64) < (40 : Int32) → Φ (-4 : Int32) σ))
set_option maxHeartbeats 4000000 in
set_option maxRecDepth 100000 in
theorem cmX2_sendLetter {D : va_G} {cyI cyO : ClassId} {ad : Nat → Nat} {n : Nat} {l : Launch} (hn : 52 ≤ n) {x1 : Int32} {x2 : Int32} {σ : St} {sz : Nat} {Φ : Int32 → St → Prop} (h : wpX2_sendLetter x1 x2 σ Φ) : gMet D (tyL cyI cyO) (cCell ad cyI cyO) ad n l yX2_sendLetter cX2_sendLetter 3 (some .int) rmX2_sendLetter [.ref (ad 0), .int x1, .int x2] σ sz (gQi D (cCell ad cyI cyO) ad n sz Φ) := by
  refine gMet.of (by decide) (Nat.le_of_ble_eq_true rfl) ?_
  intro p e s m below meth c ls hsz C hl wd
  subst hsz
  have C : Cx p s m _ meth c cX2_sendLetter 3 (some .int) RX2 := C
  obtain ⟨hx, hb, hr, hml, hown, hts, hlk⟩ := id C
  have hl : lv_has ls 3 [(0, .ref (ad 0)), (1, .int x1), (2, .int x2)] := hl
  unfold wpX2_sendLetter at h
  refine lv_aload_n hx hb dX2_sendLetter_0 rfl (lv_at hl 0 rfl) ?_
  refine getF C wd (k := 0) (Cn := RX2) (T := TX2) (N := 6) (v := .ref (ad 2)) (by omega) cc_X2 rfl 3 (by decide) rfl inX2 tw1_201 dX2_sendLetter_1 ?_
  refine getN C wd (k := 2) (Cn := RX3) (T := TX3) (N := 5) (v := .int (σ.1 64)) (by omega) cc_X3 rfl 0 (by decide) rfl inX3 ns_1 dX2_sendLetter_4 ?_
  refine lv_bipush (v := (40 : Int32)) hx hb dX2_sendLetter_7 (by decide) ?_
  refine lv_icmp_lt (tgt := 15) hx hb dX2_sendLetter_9 (by decide) (fun c1 => ?_) (fun c1 => ?_)
  · have h := h.1 c1
    refine lv_aload_n hx hb dX2_sendLetter_15 rfl (lv_at hl 0 rfl) ?_
    refine getF C wd (k := 0) (Cn := RX2) (T := TX2) (N := 6) (v := .ref (ad 2)) (by omega) cc_X2 rfl 3 (by decide) rfl inX2 tw1_201 dX2_sendLetter_16 ?_
    refine lv_aload_n hx hb dX2_sendLetter_19 rfl (lv_at hl 0 rfl) ?_
    refine lv_iload_n hx hb dX2_sendLetter_20 rfl (lv_at hl 1 rfl) ?_
    refine gCr wd (gRunV (y := yX2_clerk) (k := 0) (As := [.int x1]) (rest := [.ref (ad 2)]) C wd (cmX2_clerk (by omega) h) ⟨rfl, rfl⟩ gd_X2_57 nk_X2_clerk ⟨Nat.le_of_ble_eq_true rfl, Nat.le_of_ble_eq_true rfl⟩ (by omega) cc_X2 rfl rfl hl.1 (Nat.le_of_ble_eq_true rfl) dX2_sendLetter_21 rfl) (fun r3 t2 H locs hr3a hr3b h wd => ?_)
    try dsimp only at h
    refine lv_iload_n hx hb dX2_sendLetter_24 rfl (lv_at hl 2 rfl) ?_
    refine gCv wd (gRunV (y := yX3_add) (k := 2) (As := [.ref (ad r3), .int x2]) (rest := []) C wd (cmX3_add (by omega) (by omega) (by omega) h) ⟨rfl, rfl⟩ gd_X2_69 nk_X3_add ⟨Nat.le_of_ble_eq_true rfl, Nat.le_of_ble_eq_true rfl⟩ (by omega) cc_X3 rfl rfl hl.1 (Nat.le_of_ble_eq_true rfl) dX2_sendLetter_25 rfl) (fun t4 H locs h wd => ?_)
    try dsimp only at h
    refine lv_aload_n hx hb dX2_sendLetter_28 rfl (lv_at hl 0 rfl) ?_
    refine getF C wd (k := 0) (Cn := RX2) (T := TX2) (N := 6) (v := .ref (ad 2)) (by omega) cc_X2 rfl 3 (by decide) rfl inX2 tw1_201 dX2_sendLetter_29 ?_
    refine getN C wd (k := 2) (Cn := RX3) (T := TX3) (N := 5) (v := .int (t4.1 64)) (by omega) cc_X3 rfl 0 (by decide) rfl inX3 ns_1 dX2_sendLetter_32 ?_
    exact retI C wd h dX2_sendLetter_35
  · have h := h.2 c1
    refine lv_bipush (v := (-4 : Int32)) hx hb dX2_sendLetter_12 (by decide) ?_
    exact retI C wd h dX2_sendLetter_14
abbrev rmX3_find : Room := rmOf 1 21
def wbX3_find_41 (Φ : Int32 → St → Prop) (k_5 : Int32 → Int32 → Int32 → Int32 → St → Prop) (x1 : Int32) (x2 : Int32) (x3 : Int32) (x4 : Int32) (σ : St) : Prop :=
  (∀ y1 : Int32, y1 = x4 + (1 : Int32) → k_5 x1 x2 x3 y1 σ)
set_option maxHeartbeats 4000000 in
set_option maxRecDepth 100000 in
theorem blX3_find_41 {p : Program} {l : Launch} {e : Env} {s : State} {m : MethodId} {args : Array Value} {below : List Frame} {meth : Method} {c : Code} (hn : 52 ≤ n) (C : Cx p s m args meth c cX3_find 5 (some .int) RX3) {Φ : Int32 → St → Prop} {k_5 : Int32 → Int32 → Int32 → Int32 → St → Prop} (hk_5 : ∀ (x1 : Int32) (x2 : Int32) (x3 : Int32) (x4 : Int32) (σ : St) (H : Heap) (locs : List Loc) (ls : Array Slot), k_5 x1 x2 x3 x4 σ → gWd D (tyL cyI cyO) (cCell ad cyI cyO) ad n s H locs σ → lv_has ls 5 [(0, .ref (ad 2)), (1, .int x1), (2, .int x2), (3, .int x3), (4, .int x4)] → W p l e rmX3_find s m args below meth c H locs 0 0 (MQ below (gQi D (cCell ad cyI cyO) ad n s.heap.size Φ) args s 0 0 (gA ad n s.heap.size)) (F0 m 5 ls [])) {x1 : Int32} {x2 : Int32} {x3 : Int32} {x4 : Int32} {σ : St} {H : Heap} {locs : List Loc} {ls : Array Slot} (h : wbX3_find_41 Φ k_5 x1 x2 x3 x4 σ) (wd : gWd D (tyL cyI cyO) (cCell ad cyI cyO) ad n s H locs σ) (hl : lv_has ls 5 [(0, .ref (ad 2)), (1, .int x1), (2, .int x2), (3, .int x3), (4, .int x4)]) : W p l e rmX3_find s m args below meth c H locs 0 0 (MQ below (gQi D (cCell ad cyI cyO) ad n s.heap.size Φ) args s 0 0 (gA ad n s.heap.size)) (F0 m 41 ls []) := by
  obtain ⟨hx, hb, hr, hml, hown, hts, hlk⟩ := id C
  unfold wbX3_find_41 at h
  obtain ⟨y1, ey1⟩ : ∃ y : Int32, y = x4 + (1 : Int32) := ⟨_, rfl⟩
  refine lv_iinc (v := y1) (lv' := [(4, .int y1), (0, .ref (ad 2)), (1, .int x1), (2, .int x2), (3, .int x3)]) hx hb dX3_find_41 hl (k := 4) rfl (by rw [ey1]; rfl) (by decide) rfl (fun ls hl => ?_)
  have h := h y1 ey1
  refine lv_goto (tgt := 5) hx hb dX3_find_44 (by decide) ?_
  exact hk_5 _ _ _ _ _ _ _ _ h wd (lv_sub hl [1, 2, 3, 4, 0] rfl)
def wlX3_find_5_body (Φ : Int32 → St → Prop) (k_5 : Int32 → Int32 → Int32 → Int32 → St → Prop) (x1 : Int32) (x2 : Int32) (x3 : Int32) (x4 : Int32) (σ : St) : Prop :=
  (((σ.1 64) ≤ x4 → Φ (-1 : Int32) σ) ∧ (¬ (σ.1 64) ≤ x4 → wpX9_at 44 x4 σ (fun r3 t2 => ((r3 = x1 → ((x3 = x2 → Φ x4 t2) ∧ (¬ x3 = x2 → (∀ y6 : Int32, y6 = x3 + (1 : Int32) → wbX3_find_41 Φ k_5 x1 x2 y6 x4 t2)))) ∧ (¬ r3 = x1 → wbX3_find_41 Φ k_5 x1 x2 x3 x4 t2)))))
def wlX3_find_5 (Φ : Int32 → St → Prop) : Nat → Int32 → Int32 → Int32 → Int32 → St → Prop
  | 0 => fun _ _ _ _ _ => False
  | N + 1 => fun x1 x2 x3 x4 σ => wlX3_find_5_body Φ (wlX3_find_5 Φ N) x1 x2 x3 x4 σ
set_option maxHeartbeats 4000000 in
set_option maxRecDepth 100000 in
theorem llX3_find_5 {p : Program} {l : Launch} {e : Env} {s : State} {m : MethodId} {args : Array Value} {below : List Frame} {meth : Method} {c : Code} (hn : 52 ≤ n) (C : Cx p s m args meth c cX3_find 5 (some .int) RX3) {Φ : Int32 → St → Prop} : ∀ (N : Nat) (x1 : Int32) (x2 : Int32) (x3 : Int32) (x4 : Int32) (σ : St) (H : Heap) (locs : List Loc) (ls : Array Slot), wlX3_find_5 Φ N x1 x2 x3 x4 σ → gWd D (tyL cyI cyO) (cCell ad cyI cyO) ad n s H locs σ → lv_has ls 5 [(0, .ref (ad 2)), (1, .int x1), (2, .int x2), (3, .int x3), (4, .int x4)] → W p l e rmX3_find s m args below meth c H locs 0 0 (MQ below (gQi D (cCell ad cyI cyO) ad n s.heap.size Φ) args s 0 0 (gA ad n s.heap.size)) (F0 m 5 ls []) := by
  obtain ⟨hx, hb, hr, hml, hown, hts, hlk⟩ := id C
  intro N
  induction N with
  | zero =>
    intro x1 x2 x3 x4 σ H locs ls h
    exact False.elim h
  | succ N ih =>
    intro x1 x2 x3 x4 σ H locs ls h wd hl
    have h : wlX3_find_5_body Φ (wlX3_find_5 Φ N) x1 x2 x3 x4 σ := h
    have hk_5 := ih
    unfold wlX3_find_5_body at h
    refine lv_iload hx hb dX3_find_5 (lv_at hl 4 rfl) ?_
    refine lv_aload_n hx hb dX3_find_7 rfl (lv_at hl 0 rfl) ?_
    refine getF C wd (k := 2) (Cn := RX3) (T := TX3) (N := 5) (v := .int (σ.1 64)) (by omega) cc_X3 rfl 0 (by decide) rfl inX3 tw1_55 dX3_find_8 ?_
    refine lv_icmp_ge (tgt := 47) hx hb dX3_find_11 (by decide) (fun c1 => ?_) (fun c1 => ?_)
    · have h := h.1 c1
      refine lv_iconst (v := (-1 : Int32)) hx hb dX3_find_47 (by decide) ?_
      exact retI C wd h dX3_find_48
    · have h := h.2 c1
      refine lv_aload_n hx hb dX3_find_14 rfl (lv_at hl 0 rfl) ?_
      refine getF C wd (k := 2) (Cn := RX3) (T := TX3) (N := 5) (v := .ref (ad 44)) (by omega) cc_X3 rfl 2 (by decide) rfl inX3 tw1_60 dX3_find_15 ?_
      refine lv_iload hx hb dX3_find_18 (lv_at hl 4 rfl) ?_
      refine gCi wd (gRunSN (y := yX9_at) (As := [.ref (ad 44), .int x4]) (rest := []) C wd (cmX9_at (by omega) (by omega) (by omega) h) ⟨rfl, rfl⟩ gc_X9_at ns_51 tw1_1 tw2_92 nk_X9_at ⟨Nat.le_of_ble_eq_true rfl, Nat.le_of_ble_eq_true rfl⟩ hl.1 (Nat.le_of_ble_eq_true rfl) dX3_find_20 rfl) (fun r3 t2 H locs h wd => ?_)
      try dsimp only at h
      refine lv_iload_n hx hb dX3_find_23 rfl (lv_at hl 1 rfl) ?_
      refine lv_icmp_eq (tgt := 30) hx hb dX3_find_24 (by decide) (fun c4 => ?_) (fun c4 => ?_)
      · have h := h.1 c4
        refine lv_iload_n hx hb dX3_find_30 rfl (lv_at hl 3 rfl) ?_
        refine lv_iload_n hx hb dX3_find_31 rfl (lv_at hl 2 rfl) ?_
        refine lv_icmp_ne (tgt := 38) hx hb dX3_find_32 (by decide) (fun c5 => ?_) (fun c5 => ?_)
        · have h := h.2 c5
          obtain ⟨y6, ey6⟩ : ∃ y : Int32, y = x3 + (1 : Int32) := ⟨_, rfl⟩
          refine lv_iinc (v := y6) (lv' := [(3, .int y6), (0, .ref (ad 2)), (1, .int x1), (2, .int x2), (4, .int x4)]) hx hb dX3_find_38 hl (k := 3) rfl (by rw [ey6]; rfl) (by decide) rfl (fun ls hl => ?_)
          have h := h y6 ey6
          exact blX3_find_41 hn C hk_5 h wd (lv_sub hl [1, 2, 3, 0, 4] rfl)
        · have h := h.1 c5
          refine lv_iload hx hb dX3_find_35 (lv_at hl 4 rfl) ?_
          exact retI C wd h dX3_find_37
      · have h := h.2 c4
        refine lv_goto (tgt := 41) hx hb dX3_find_27 (by decide) ?_
        exact blX3_find_41 hn C hk_5 h wd (lv_sub hl [0, 1, 2, 3, 4] rfl)
def wpX3_find (x1 : Int32) (x2 : Int32) (σ : St) (Φ : Int32 → St → Prop) : Prop :=
  (∃ N, wlX3_find_5 Φ N x1 x2 (0 : Int32) (0 : Int32) σ)
set_option maxHeartbeats 4000000 in
set_option maxRecDepth 100000 in
theorem cmX3_find {D : va_G} {cyI cyO : ClassId} {ad : Nat → Nat} {n : Nat} {l : Launch} (hn : 52 ≤ n) {x1 : Int32} {x2 : Int32} {σ : St} {sz : Nat} {Φ : Int32 → St → Prop} (h : wpX3_find x1 x2 σ Φ) : gMet D (tyL cyI cyO) (cCell ad cyI cyO) ad n l yX3_find cX3_find 5 (some .int) rmX3_find [.ref (ad 2), .int x1, .int x2] σ sz (gQi D (cCell ad cyI cyO) ad n sz Φ) := by
  refine gMet.of (by decide) (Nat.le_of_ble_eq_true rfl) ?_
  intro p e s m below meth c ls hsz C hl wd
  subst hsz
  have C : Cx p s m _ meth c cX3_find 5 (some .int) RX3 := C
  obtain ⟨hx, hb, hr, hml, hown, hts, hlk⟩ := id C
  have hl : lv_has ls 5 [(0, .ref (ad 2)), (1, .int x1), (2, .int x2)] := hl
  unfold wpX3_find at h
  refine lv_iconst (v := (0 : Int32)) hx hb dX3_find_0 (by decide) ?_
  refine lv_istore_n (lv' := [(3, .int (0 : Int32)), (0, .ref (ad 2)), (1, .int x1), (2, .int x2)]) hx hb dX3_find_1 rfl hl (by decide) rfl (fun ls hl => ?_)
  refine lv_iconst (v := (0 : Int32)) hx hb dX3_find_2 (by decide) ?_
  refine lv_istore (lv' := [(4, .int (0 : Int32)), (3, .int (0 : Int32)), (0, .ref (ad 2)), (1, .int x1), (2, .int x2)]) hx hb dX3_find_3 hl (by decide) rfl (fun ls hl => ?_)
  obtain ⟨N, h⟩ := h
  exact llX3_find_5 hn C N _ _ _ _ _ _ _ _ h wd (lv_sub hl [2, 3, 4, 1, 0] rfl)
abbrev rmX2_isDeadLetter : Room := rmOf 2 44
def wlX2_isDeadLetter_2_body (Φ : Int32 → St → Prop) (k_2 : Int32 → Int32 → St → Prop) (x1 : Int32) (x2 : Int32) (σ : St) : Prop :=
  (((σ.1 0) ≤ x2 → Φ (0 : Int32) σ) ∧ (¬ (σ.1 0) ≤ x2 → wpX2_clerk x2 σ (fun r3 t2 => wpX5_lifeOf 15 x1 x2 t2 (fun r5 t4 => wpX5_pageOf 15 x1 x2 t4 (fun r7 t6 => wpX0_isDeadRest r3 r5 r7 t6 (fun r9 t8 => ((r9 = 0 → (∀ y11 : Int32, y11 = x2 + (1 : Int32) → k_2 x1 y11 t8)) ∧ (¬ r9 = 0 → Φ (1 : Int32) t8))))))))
def wlX2_isDeadLetter_2 (Φ : Int32 → St → Prop) : Nat → Int32 → Int32 → St → Prop
  | 0 => fun _ _ _ => False
  | N + 1 => fun x1 x2 σ => wlX2_isDeadLetter_2_body Φ (wlX2_isDeadLetter_2 Φ N) x1 x2 σ
set_option maxHeartbeats 4000000 in
set_option maxRecDepth 100000 in
theorem llX2_isDeadLetter_2 {p : Program} {l : Launch} {e : Env} {s : State} {m : MethodId} {args : Array Value} {below : List Frame} {meth : Method} {c : Code} (hn : 52 ≤ n) (C : Cx p s m args meth c cX2_isDeadLetter 3 (some .boolean) RX2) {Φ : Int32 → St → Prop} : ∀ (N : Nat) (x1 : Int32) (x2 : Int32) (σ : St) (H : Heap) (locs : List Loc) (ls : Array Slot), wlX2_isDeadLetter_2 Φ N x1 x2 σ → gWd D (tyL cyI cyO) (cCell ad cyI cyO) ad n s H locs σ → lv_has ls 3 [(0, .ref (ad 0)), (1, .int x1), (2, .int x2)] → W p l e rmX2_isDeadLetter s m args below meth c H locs 0 0 (MQ below (gQi D (cCell ad cyI cyO) ad n s.heap.size Φ) args s 0 0 (gA ad n s.heap.size)) (F0 m 2 ls []) := by
  obtain ⟨hx, hb, hr, hml, hown, hts, hlk⟩ := id C
  intro N
  induction N with
  | zero =>
    intro x1 x2 σ H locs ls h
    exact False.elim h
  | succ N ih =>
    intro x1 x2 σ H locs ls h wd hl
    have h : wlX2_isDeadLetter_2_body Φ (wlX2_isDeadLetter_2 Φ N) x1 x2 σ := h
    have hk_2 := ih
    unfold wlX2_isDeadLetter_2_body at h
    refine lv_iload_n hx hb dX2_isDeadLetter_2 rfl (lv_at hl 2 rfl) ?_
    refine lv_aload_n hx hb dX2_isDeadLetter_3 rfl (lv_at hl 0 rfl) ?_
    refine getF C wd (k := 0) (Cn := RX2) (T := TX2) (N := 6) (v := .int (σ.1 0)) (by omega) cc_X2 rfl 0 (by decide) rfl inX2 tw1_195 dX2_isDeadLetter_4 ?_
    refine lv_icmp_ge (tgt := 53) hx hb dX2_isDeadLetter_7 (by decide) (fun c1 => ?_) (fun c1 => ?_)
    · have h := h.1 c1
      refine lv_iconst (v := (0 : Int32)) hx hb dX2_isDeadLetter_53 (by decide) ?_
      exact retZ C wd rfl h dX2_isDeadLetter_54
    · have h := h.2 c1
      refine lv_aload_n hx hb dX2_isDeadLetter_10 rfl (lv_at hl 0 rfl) ?_
      refine lv_iload_n hx hb dX2_isDeadLetter_11 rfl (lv_at hl 2 rfl) ?_
      refine gCr wd (gRunV (y := yX2_clerk) (k := 0) (As := [.int x2]) (rest := []) C wd (cmX2_clerk (by omega) h) ⟨rfl, rfl⟩ gd_X2_57 nk_X2_clerk ⟨Nat.le_of_ble_eq_true rfl, Nat.le_of_ble_eq_true rfl⟩ (by omega) cc_X2 rfl rfl hl.1 (Nat.le_of_ble_eq_true rfl) dX2_isDeadLetter_12 rfl) (fun r3 t2 H locs hr3a hr3b h wd => ?_)
      try dsimp only at h
      refine lv_aload_n hx hb dX2_isDeadLetter_15 rfl (lv_at hl 0 rfl) ?_
      refine getF C wd (k := 0) (Cn := RX2) (T := TX2) (N := 6) (v := .ref (ad 2)) (by omega) cc_X2 rfl 3 (by decide) rfl inX2 tw1_201 dX2_isDeadLetter_16 ?_
      refine getN C wd (k := 2) (Cn := RX3) (T := TX3) (N := 5) (v := .ref (ad 15)) (by omega) cc_X3 rfl 4 (by decide) rfl inX3 ns_5 dX2_isDeadLetter_19 ?_
      refine lv_iload_n hx hb dX2_isDeadLetter_22 rfl (lv_at hl 1 rfl) ?_
      refine lv_iload_n hx hb dX2_isDeadLetter_23 rfl (lv_at hl 2 rfl) ?_
      refine gCi wd (gRunV (y := yX5_lifeOf) (k := 15) (As := [.int x1, .int x2]) (rest := [.ref (ad r3)]) C wd (cmX5_lifeOf (by omega) (by omega) (by omega) h) ⟨rfl, rfl⟩ gd_X2_100 nk_X5_lifeOf ⟨Nat.le_of_ble_eq_true rfl, Nat.le_of_ble_eq_true rfl⟩ (by omega) (cc_X5 (k := 15) (by omega) (by omega)) rfl rfl hl.1 (Nat.le_of_ble_eq_true rfl) dX2_isDeadLetter_24 rfl) (fun r5 t4 H locs h wd => ?_)
      try dsimp only at h
      refine lv_aload_n hx hb dX2_isDeadLetter_27 rfl (lv_at hl 0 rfl) ?_
      refine getF C wd (k := 0) (Cn := RX2) (T := TX2) (N := 6) (v := .ref (ad 2)) (by omega) cc_X2 rfl 3 (by decide) rfl inX2 tw1_201 dX2_isDeadLetter_28 ?_
      refine getN C wd (k := 2) (Cn := RX3) (T := TX3) (N := 5) (v := .ref (ad 15)) (by omega) cc_X3 rfl 4 (by decide) rfl inX3 ns_5 dX2_isDeadLetter_31 ?_
      refine lv_iload_n hx hb dX2_isDeadLetter_34 rfl (lv_at hl 1 rfl) ?_
      refine lv_iload_n hx hb dX2_isDeadLetter_35 rfl (lv_at hl 2 rfl) ?_
      refine gCi wd (gRunV (y := yX5_pageOf) (k := 15) (As := [.int x1, .int x2]) (rest := [.int r5, .ref (ad r3)]) C wd (cmX5_pageOf (by omega) (by omega) (by omega) h) ⟨rfl, rfl⟩ gd_X2_105 nk_X5_pageOf ⟨Nat.le_of_ble_eq_true rfl, Nat.le_of_ble_eq_true rfl⟩ (by omega) (cc_X5 (k := 15) (by omega) (by omega)) rfl rfl hl.1 (Nat.le_of_ble_eq_true rfl) dX2_isDeadLetter_36 rfl) (fun r7 t6 H locs h wd => ?_)
      try dsimp only at h
      refine gCi wd (gRunV (y := yX0_isDeadRest) (k := r3) (As := [.int r5, .int r7]) (rest := []) C wd (cmX0_isDeadRest (by omega) (by omega) (by omega) h) ⟨rfl, rfl⟩ gd_X2_108 nk_X0_isDeadRest ⟨Nat.le_of_ble_eq_true rfl, Nat.le_of_ble_eq_true rfl⟩ (by omega) (cc_X0 (k := r3) (by omega) (by omega)) rfl rfl hl.1 (Nat.le_of_ble_eq_true rfl) dX2_isDeadLetter_39 rfl) (fun r9 t8 H locs h wd => ?_)
      try dsimp only at h
      refine lv_if_eq (tgt := 47) hx hb dX2_isDeadLetter_42 (by decide) (fun c10 => ?_) (fun c10 => ?_)
      · have h := h.1 c10
        obtain ⟨y11, ey11⟩ : ∃ y : Int32, y = x2 + (1 : Int32) := ⟨_, rfl⟩
        refine lv_iinc (v := y11) (lv' := [(2, .int y11), (0, .ref (ad 0)), (1, .int x1)]) hx hb dX2_isDeadLetter_47 hl (k := 2) rfl (by rw [ey11]; rfl) (by decide) rfl (fun ls hl => ?_)
        have h := h y11 ey11
        refine lv_goto (tgt := 2) hx hb dX2_isDeadLetter_50 (by decide) ?_
        exact hk_2 _ _ _ _ _ _ h wd (lv_sub hl [1, 2, 0] rfl)
      · have h := h.2 c10
        refine lv_iconst (v := (1 : Int32)) hx hb dX2_isDeadLetter_45 (by decide) ?_
        exact retZ C wd rfl h dX2_isDeadLetter_46
def wpX2_isDeadLetter (x1 : Int32) (σ : St) (Φ : Int32 → St → Prop) : Prop :=
  (∃ N, wlX2_isDeadLetter_2 Φ N x1 (0 : Int32) σ)
set_option maxHeartbeats 4000000 in
set_option maxRecDepth 100000 in
theorem cmX2_isDeadLetter {D : va_G} {cyI cyO : ClassId} {ad : Nat → Nat} {n : Nat} {l : Launch} (hn : 52 ≤ n) {x1 : Int32} {σ : St} {sz : Nat} {Φ : Int32 → St → Prop} (h : wpX2_isDeadLetter x1 σ Φ) : gMet D (tyL cyI cyO) (cCell ad cyI cyO) ad n l yX2_isDeadLetter cX2_isDeadLetter 3 (some .boolean) rmX2_isDeadLetter [.ref (ad 0), .int x1] σ sz (gQi D (cCell ad cyI cyO) ad n sz Φ) := by
  refine gMet.of (by decide) (Nat.le_of_ble_eq_true rfl) ?_
  intro p e s m below meth c ls hsz C hl wd
  subst hsz
  have C : Cx p s m _ meth c cX2_isDeadLetter 3 (some .boolean) RX2 := C
  obtain ⟨hx, hb, hr, hml, hown, hts, hlk⟩ := id C
  have hl : lv_has ls 3 [(0, .ref (ad 0)), (1, .int x1)] := hl
  unfold wpX2_isDeadLetter at h
  refine lv_iconst (v := (0 : Int32)) hx hb dX2_isDeadLetter_0 (by decide) ?_
  refine lv_istore_n (lv' := [(2, .int (0 : Int32)), (0, .ref (ad 0)), (1, .int x1)]) hx hb dX2_isDeadLetter_1 rfl hl (by decide) rfl (fun ls hl => ?_)
  obtain ⟨N, h⟩ := h
  exact llX2_isDeadLetter_2 hn C N _ _ _ _ _ _ h wd (lv_sub hl [1, 2, 0] rfl)
abbrev rmX3_remove : Room := rmOf 3 70
def wlX3_remove_4_body (Φ : St → Prop) (k_4 : Int32 → St → Prop) (x2 : Int32) (σ : St) : Prop :=
  (((σ.1 64) ≤ x2 → (∀ t2 : St, t2 = setI σ 64 ((σ.1 64) - (1 : Int32)) → Φ t2)) ∧ (¬ (σ.1 64) ≤ x2 → wpX9_at 43 x2 σ (fun r4 t3 => wpX9_put 43 (x2 - (1 : Int32)) r4 t3 (fun t5 => wpX9_at 44 x2 t5 (fun r7 t6 => wpX9_put 44 (x2 - (1 : Int32)) r7 t6 (fun t8 => wpX9_at 45 x2 t8 (fun r10 t9 => wpX9_put 45 (x2 - (1 : Int32)) r10 t9 (fun t11 => wpX5_copyRow 15 15 x2 (x2 - (1 : Int32)) t11 (fun t12 => (∀ y13 : Int32, y13 = x2 + (1 : Int32) → k_4 y13 t12))))))))))
def wlX3_remove_4 (Φ : St → Prop) : Nat → Int32 → St → Prop
  | 0 => fun _ _ => False
  | N + 1 => fun x2 σ => wlX3_remove_4_body Φ (wlX3_remove_4 Φ N) x2 σ
set_option maxHeartbeats 4000000 in
set_option maxRecDepth 100000 in
theorem llX3_remove_4 {p : Program} {l : Launch} {e : Env} {s : State} {m : MethodId} {args : Array Value} {below : List Frame} {meth : Method} {c : Code} (hn : 52 ≤ n) (C : Cx p s m args meth c cX3_remove 3 none RX3) {Φ : St → Prop} : ∀ (N : Nat) (x2 : Int32) (σ : St) (H : Heap) (locs : List Loc) (ls : Array Slot), wlX3_remove_4 Φ N x2 σ → gWd D (tyL cyI cyO) (cCell ad cyI cyO) ad n s H locs σ → lv_has ls 3 [(0, .ref (ad 2)), (2, .int x2)] → W p l e rmX3_remove s m args below meth c H locs 0 0 (MQ below (gQv D (cCell ad cyI cyO) ad n s.heap.size Φ) args s 0 0 (gA ad n s.heap.size)) (F0 m 4 ls []) := by
  obtain ⟨hx, hb, hr, hml, hown, hts, hlk⟩ := id C
  intro N
  induction N with
  | zero =>
    intro x2 σ H locs ls h
    exact False.elim h
  | succ N ih =>
    intro x2 σ H locs ls h wd hl
    have h : wlX3_remove_4_body Φ (wlX3_remove_4 Φ N) x2 σ := h
    have hk_4 := ih
    unfold wlX3_remove_4_body at h
    refine lv_iload_n hx hb dX3_remove_4 rfl (lv_at hl 1 rfl) ?_
    refine lv_aload_n hx hb dX3_remove_5 rfl (lv_at hl 0 rfl) ?_
    refine getF C wd (k := 2) (Cn := RX3) (T := TX3) (N := 5) (v := .int (σ.1 64)) (by omega) cc_X3 rfl 0 (by decide) rfl inX3 tw1_55 dX3_remove_6 ?_
    refine lv_icmp_ge (tgt := 87) hx hb dX3_remove_9 (by decide) (fun c1 => ?_) (fun c1 => ?_)
    · have h := h.1 c1
      refine lv_aload_n hx hb dX3_remove_87 rfl (lv_at hl 0 rfl) ?_
      refine lv_dup hx hb dX3_remove_88 rfl ?_
      refine getF C wd (k := 2) (Cn := RX3) (T := TX3) (N := 5) (v := .int (σ.1 64)) (by omega) cc_X3 rfl 0 (by decide) rfl inX3 tw1_55 dX3_remove_89 ?_
      refine lv_iconst (v := (1 : Int32)) hx hb dX3_remove_92 (by decide) ?_
      refine lv_isub hx hb dX3_remove_93 ?_
      refine putF C wd (k := 2) (Cn := RX3) (T := TX3) (N := 5) (σ' := setI σ 64 ((σ.1 64) - (1 : Int32))) (by omega) cc_X3 rfl tyX3_ok nmX3 0 (by decide) rfl (by decide +kernel) (Nat.le_of_ble_eq_true rfl) inX3 tw1_55 cs_X3_count dX3_remove_94 (fun H locs wd => ?_)
      obtain ⟨t2, et2⟩ : ∃ z : St, z = setI σ 64 ((σ.1 64) - (1 : Int32)) := ⟨_, rfl⟩
      rw [← et2] at wd
      have h := h t2 et2
      exact retV C wd h dX3_remove_97
    · have h := h.2 c1
      refine lv_aload_n hx hb dX3_remove_12 rfl (lv_at hl 0 rfl) ?_
      refine getF C wd (k := 2) (Cn := RX3) (T := TX3) (N := 5) (v := .ref (ad 43)) (by omega) cc_X3 rfl 1 (by decide) rfl inX3 tw1_58 dX3_remove_13 ?_
      refine lv_iload_n hx hb dX3_remove_16 rfl (lv_at hl 1 rfl) ?_
      refine lv_iconst (v := (1 : Int32)) hx hb dX3_remove_17 (by decide) ?_
      refine lv_isub hx hb dX3_remove_18 ?_
      refine lv_aload_n hx hb dX3_remove_19 rfl (lv_at hl 0 rfl) ?_
      refine getF C wd (k := 2) (Cn := RX3) (T := TX3) (N := 5) (v := .ref (ad 43)) (by omega) cc_X3 rfl 1 (by decide) rfl inX3 tw1_58 dX3_remove_20 ?_
      refine lv_iload_n hx hb dX3_remove_23 rfl (lv_at hl 1 rfl) ?_
      refine gCi wd (gRunSN (y := yX9_at) (As := [.ref (ad 43), .int x2]) (rest := [.int (x2 - (1 : Int32)), .ref (ad 43)]) C wd (cmX9_at (by omega) (by omega) (by omega) h) ⟨rfl, rfl⟩ gc_X9_at ns_51 tw1_1 tw2_92 nk_X9_at ⟨Nat.le_of_ble_eq_true rfl, Nat.le_of_ble_eq_true rfl⟩ hl.1 (Nat.le_of_ble_eq_true rfl) dX3_remove_24 rfl) (fun r4 t3 H locs h wd => ?_)
      try dsimp only at h
      refine gCv wd (gRunSN (y := yX9_put) (As := [.ref (ad 43), .int (x2 - (1 : Int32)), .int r4]) (rest := []) C wd (cmX9_put (by omega) (by omega) (by omega) h) ⟨rfl, rfl⟩ gc_X9_put ns_50 tw1_1 tw1_188 nk_X9_put ⟨Nat.le_of_ble_eq_true rfl, Nat.le_of_ble_eq_true rfl⟩ hl.1 (Nat.le_of_ble_eq_true rfl) dX3_remove_27 rfl) (fun t5 H locs h wd => ?_)
      try dsimp only at h
      refine lv_aload_n hx hb dX3_remove_30 rfl (lv_at hl 0 rfl) ?_
      refine getF C wd (k := 2) (Cn := RX3) (T := TX3) (N := 5) (v := .ref (ad 44)) (by omega) cc_X3 rfl 2 (by decide) rfl inX3 tw1_60 dX3_remove_31 ?_
      refine lv_iload_n hx hb dX3_remove_34 rfl (lv_at hl 1 rfl) ?_
      refine lv_iconst (v := (1 : Int32)) hx hb dX3_remove_35 (by decide) ?_
      refine lv_isub hx hb dX3_remove_36 ?_
      refine lv_aload_n hx hb dX3_remove_37 rfl (lv_at hl 0 rfl) ?_
      refine getF C wd (k := 2) (Cn := RX3) (T := TX3) (N := 5) (v := .ref (ad 44)) (by omega) cc_X3 rfl 2 (by decide) rfl inX3 tw1_60 dX3_remove_38 ?_
      refine lv_iload_n hx hb dX3_remove_41 rfl (lv_at hl 1 rfl) ?_
      refine gCi wd (gRunSN (y := yX9_at) (As := [.ref (ad 44), .int x2]) (rest := [.int (x2 - (1 : Int32)), .ref (ad 44)]) C wd (cmX9_at (by omega) (by omega) (by omega) h) ⟨rfl, rfl⟩ gc_X9_at ns_51 tw1_1 tw2_92 nk_X9_at ⟨Nat.le_of_ble_eq_true rfl, Nat.le_of_ble_eq_true rfl⟩ hl.1 (Nat.le_of_ble_eq_true rfl) dX3_remove_42 rfl) (fun r7 t6 H locs h wd => ?_)
      try dsimp only at h
      refine gCv wd (gRunSN (y := yX9_put) (As := [.ref (ad 44), .int (x2 - (1 : Int32)), .int r7]) (rest := []) C wd (cmX9_put (by omega) (by omega) (by omega) h) ⟨rfl, rfl⟩ gc_X9_put ns_50 tw1_1 tw1_188 nk_X9_put ⟨Nat.le_of_ble_eq_true rfl, Nat.le_of_ble_eq_true rfl⟩ hl.1 (Nat.le_of_ble_eq_true rfl) dX3_remove_45 rfl) (fun t8 H locs h wd => ?_)
      try dsimp only at h
      refine lv_aload_n hx hb dX3_remove_48 rfl (lv_at hl 0 rfl) ?_
      refine getF C wd (k := 2) (Cn := RX3) (T := TX3) (N := 5) (v := .ref (ad 45)) (by omega) cc_X3 rfl 3 (by decide) rfl inX3 tw1_61 dX3_remove_49 ?_
      refine lv_iload_n hx hb dX3_remove_52 rfl (lv_at hl 1 rfl) ?_
      refine lv_iconst (v := (1 : Int32)) hx hb dX3_remove_53 (by decide) ?_
      refine lv_isub hx hb dX3_remove_54 ?_
      refine lv_aload_n hx hb dX3_remove_55 rfl (lv_at hl 0 rfl) ?_
      refine getF C wd (k := 2) (Cn := RX3) (T := TX3) (N := 5) (v := .ref (ad 45)) (by omega) cc_X3 rfl 3 (by decide) rfl inX3 tw1_61 dX3_remove_56 ?_
      refine lv_iload_n hx hb dX3_remove_59 rfl (lv_at hl 1 rfl) ?_
      refine gCi wd (gRunSN (y := yX9_at) (As := [.ref (ad 45), .int x2]) (rest := [.int (x2 - (1 : Int32)), .ref (ad 45)]) C wd (cmX9_at (by omega) (by omega) (by omega) h) ⟨rfl, rfl⟩ gc_X9_at ns_51 tw1_1 tw2_92 nk_X9_at ⟨Nat.le_of_ble_eq_true rfl, Nat.le_of_ble_eq_true rfl⟩ hl.1 (Nat.le_of_ble_eq_true rfl) dX3_remove_60 rfl) (fun r10 t9 H locs h wd => ?_)
      try dsimp only at h
      refine gCv wd (gRunSN (y := yX9_put) (As := [.ref (ad 45), .int (x2 - (1 : Int32)), .int r10]) (rest := []) C wd (cmX9_put (by omega) (by omega) (by omega) h) ⟨rfl, rfl⟩ gc_X9_put ns_50 tw1_1 tw1_188 nk_X9_put ⟨Nat.le_of_ble_eq_true rfl, Nat.le_of_ble_eq_true rfl⟩ hl.1 (Nat.le_of_ble_eq_true rfl) dX3_remove_63 rfl) (fun t11 H locs h wd => ?_)
      try dsimp only at h
      refine lv_aload_n hx hb dX3_remove_66 rfl (lv_at hl 0 rfl) ?_
      refine getF C wd (k := 2) (Cn := RX3) (T := TX3) (N := 5) (v := .ref (ad 15)) (by omega) cc_X3 rfl 4 (by decide) rfl inX3 tw1_63 dX3_remove_67 ?_
      refine lv_aload_n hx hb dX3_remove_70 rfl (lv_at hl 0 rfl) ?_
      refine getF C wd (k := 2) (Cn := RX3) (T := TX3) (N := 5) (v := .ref (ad 15)) (by omega) cc_X3 rfl 4 (by decide) rfl inX3 tw1_63 dX3_remove_71 ?_
      refine lv_iload_n hx hb dX3_remove_74 rfl (lv_at hl 1 rfl) ?_
      refine lv_iload_n hx hb dX3_remove_75 rfl (lv_at hl 1 rfl) ?_
      refine lv_iconst (v := (1 : Int32)) hx hb dX3_remove_76 (by decide) ?_
      refine lv_isub hx hb dX3_remove_77 ?_
      refine gCv wd (gRunV (y := yX5_copyRow) (k := 15) (As := [.ref (ad 15), .int x2, .int (x2 - (1 : Int32))]) (rest := []) C wd (cmX5_copyRow (by omega) (by omega) (by omega) (by omega) (by omega) h) ⟨rfl, rfl⟩ gd_X3_51 nk_X5_copyRow ⟨Nat.le_of_ble_eq_true rfl, Nat.le_of_ble_eq_true rfl⟩ (by omega) (cc_X5 (k := 15) (by omega) (by omega)) rfl rfl hl.1 (Nat.le_of_ble_eq_true rfl) dX3_remove_78 rfl) (fun t12 H locs h wd => ?_)
      try dsimp only at h
      obtain ⟨y13, ey13⟩ : ∃ y : Int32, y = x2 + (1 : Int32) := ⟨_, rfl⟩
      refine lv_iinc (v := y13) (lv' := [(2, .int y13), (0, .ref (ad 2))]) hx hb dX3_remove_81 hl (k := 1) rfl (by rw [ey13]; rfl) (by decide) rfl (fun ls hl => ?_)
      have h := h y13 ey13
      refine lv_goto (tgt := 4) hx hb dX3_remove_84 (by decide) ?_
      exact hk_4 _ _ _ _ _ h wd (lv_sub hl [1, 0] rfl)
def wpX3_remove (x1 : Int32) (σ : St) (Φ : St → Prop) : Prop :=
  (∀ y1 : Int32, y1 = x1 + (1 : Int32) → (∃ N, wlX3_remove_4 Φ N y1 σ))
set_option maxHeartbeats 4000000 in
set_option maxRecDepth 100000 in
theorem cmX3_remove {D : va_G} {cyI cyO : ClassId} {ad : Nat → Nat} {n : Nat} {l : Launch} (hn : 52 ≤ n) {x1 : Int32} {σ : St} {sz : Nat} {Φ : St → Prop} (h : wpX3_remove x1 σ Φ) : gMet D (tyL cyI cyO) (cCell ad cyI cyO) ad n l yX3_remove cX3_remove 3 none rmX3_remove [.ref (ad 2), .int x1] σ sz (gQv D (cCell ad cyI cyO) ad n sz Φ) := by
  refine gMet.of (by decide) (Nat.le_of_ble_eq_true rfl) ?_
  intro p e s m below meth c ls hsz C hl wd
  subst hsz
  have C : Cx p s m _ meth c cX3_remove 3 none RX3 := C
  obtain ⟨hx, hb, hr, hml, hown, hts, hlk⟩ := id C
  have hl : lv_has ls 3 [(0, .ref (ad 2)), (1, .int x1)] := hl
  unfold wpX3_remove at h
  refine lv_iload_n hx hb dX3_remove_0 rfl (lv_at hl 1 rfl) ?_
  refine lv_iconst (v := (1 : Int32)) hx hb dX3_remove_1 (by decide) ?_
  refine lv_iadd hx hb dX3_remove_2 ?_
  refine lv_topi (fun y1 ey1 => ?_)
  have h := h y1 ey1
  refine lv_istore_n (lv' := [(2, .int y1), (0, .ref (ad 2)), (1, .int x1)]) hx hb dX3_remove_3 rfl hl (by decide) rfl (fun ls hl => ?_)
  obtain ⟨N, h⟩ := h
  exact llX3_remove_4 hn C N _ _ _ _ _ h wd (lv_sub hl [1, 0] rfl)
abbrev rmX2_takeLetter : Room := rmOf 4 95
def wbX2_takeLetter_89 (Φ : Int32 → St → Prop) (x3 : Int32) (x5 : Int32) (σ : St) : Prop :=
  wpX3_remove x3 σ (fun t1 => Φ x5 t1)
set_option maxHeartbeats 4000000 in
set_option maxRecDepth 100000 in
theorem blX2_takeLetter_89 {p : Program} {l : Launch} {e : Env} {s : State} {m : MethodId} {args : Array Value} {below : List Frame} {meth : Method} {c : Code} (hn : 52 ≤ n) (C : Cx p s m args meth c cX2_takeLetter 6 (some .int) RX2) {Φ : Int32 → St → Prop} {x3 : Int32} {x5 : Int32} {σ : St} {H : Heap} {locs : List Loc} {ls : Array Slot} (h : wbX2_takeLetter_89 Φ x3 x5 σ) (wd : gWd D (tyL cyI cyO) (cCell ad cyI cyO) ad n s H locs σ) (hl : lv_has ls 6 [(0, .ref (ad 0)), (3, .int x3), (5, .int x5)]) : W p l e rmX2_takeLetter s m args below meth c H locs 0 0 (MQ below (gQi D (cCell ad cyI cyO) ad n s.heap.size Φ) args s 0 0 (gA ad n s.heap.size)) (F0 m 89 ls []) := by
  obtain ⟨hx, hb, hr, hml, hown, hts, hlk⟩ := id C
  unfold wbX2_takeLetter_89 at h
  refine lv_aload_n hx hb dX2_takeLetter_89 rfl (lv_at hl 0 rfl) ?_
  refine getF C wd (k := 0) (Cn := RX2) (T := TX2) (N := 6) (v := .ref (ad 2)) (by omega) cc_X2 rfl 3 (by decide) rfl inX2 tw1_201 dX2_takeLetter_90 ?_
  refine lv_iload_n hx hb dX2_takeLetter_93 rfl (lv_at hl 1 rfl) ?_
  refine gCv wd (gRunV (y := yX3_remove) (k := 2) (As := [.int x3]) (rest := []) C wd (cmX3_remove (by omega) h) ⟨rfl, rfl⟩ gd_X2_97 nk_X3_remove ⟨Nat.le_of_ble_eq_true rfl, Nat.le_of_ble_eq_true rfl⟩ (by omega) cc_X3 rfl rfl hl.1 (Nat.le_of_ble_eq_true rfl) dX2_takeLetter_94 rfl) (fun t1 H locs h wd => ?_)
  try dsimp only at h
  refine lv_iload hx hb dX2_takeLetter_97 (lv_at hl 2 rfl) ?_
  exact retI C wd h dX2_takeLetter_99
def wbX2_takeLetter_44 (Φ : Int32 → St → Prop) (x1 : Int32) (x3 : Int32) (x4 : Int32) (σ : St) : Prop :=
  ((x4 = 0 → wpX2_clerk x1 σ (fun r3 t2 => wpX9_at 45 x3 t2 (fun r5 t4 => wpX0_addPage r3 r5 t4 (fun r7 t6 => wpX2_clerk x1 t6 (fun r9 t8 => wpX0_restAlsoOn r9 15 x3 t8 (fun t10 => wbX2_takeLetter_89 Φ x3 r7 t10)))))) ∧ (¬ x4 = 0 → wbX2_takeLetter_89 Φ x3 (-1 : Int32) σ))
set_option maxHeartbeats 4000000 in
set_option maxRecDepth 100000 in
theorem blX2_takeLetter_44 {p : Program} {l : Launch} {e : Env} {s : State} {m : MethodId} {args : Array Value} {below : List Frame} {meth : Method} {c : Code} (hn : 52 ≤ n) (C : Cx p s m args meth c cX2_takeLetter 6 (some .int) RX2) {Φ : Int32 → St → Prop} {x1 : Int32} {x3 : Int32} {x4 : Int32} {σ : St} {H : Heap} {locs : List Loc} {ls : Array Slot} (h : wbX2_takeLetter_44 Φ x1 x3 x4 σ) (wd : gWd D (tyL cyI cyO) (cCell ad cyI cyO) ad n s H locs σ) (hl : lv_has ls 6 [(0, .ref (ad 0)), (1, .int x1), (3, .int x3), (4, .int x4)]) : W p l e rmX2_takeLetter s m args below meth c H locs 0 0 (MQ below (gQi D (cCell ad cyI cyO) ad n s.heap.size Φ) args s 0 0 (gA ad n s.heap.size)) (F0 m 44 ls []) := by
  obtain ⟨hx, hb, hr, hml, hown, hts, hlk⟩ := id C
  unfold wbX2_takeLetter_44 at h
  refine lv_iconst (v := (-1 : Int32)) hx hb dX2_takeLetter_44 (by decide) ?_
  refine lv_istore (lv' := [(5, .int (-1 : Int32)), (0, .ref (ad 0)), (1, .int x1), (3, .int x3), (4, .int x4)]) hx hb dX2_takeLetter_45 hl (by decide) rfl (fun ls hl => ?_)
  refine lv_iload hx hb dX2_takeLetter_47 (lv_at hl 4 rfl) ?_
  refine lv_if_ne (tgt := 89) hx hb dX2_takeLetter_49 (by decide) (fun c1 => ?_) (fun c1 => ?_)
  · have h := h.2 c1
    exact blX2_takeLetter_89 hn C h wd (lv_sub hl [1, 3, 0] rfl)
  · have h := h.1 c1
    refine lv_aload_n hx hb dX2_takeLetter_52 rfl (lv_at hl 1 rfl) ?_
    refine lv_iload_n hx hb dX2_takeLetter_53 rfl (lv_at hl 2 rfl) ?_
    refine gCr wd (gRunV (y := yX2_clerk) (k := 0) (As := [.int x1]) (rest := []) C wd (cmX2_clerk (by omega) h) ⟨rfl, rfl⟩ gd_X2_57 nk_X2_clerk ⟨Nat.le_of_ble_eq_true rfl, Nat.le_of_ble_eq_true rfl⟩ (by omega) cc_X2 rfl rfl hl.1 (Nat.le_of_ble_eq_true rfl) dX2_takeLetter_54 rfl) (fun r3 t2 H locs hr3a hr3b h wd => ?_)
    try dsimp only at h
    refine lv_aload_n hx hb dX2_takeLetter_57 rfl (lv_at hl 1 rfl) ?_
    refine getF C wd (k := 0) (Cn := RX2) (T := TX2) (N := 6) (v := .ref (ad 2)) (by omega) cc_X2 rfl 3 (by decide) rfl inX2 tw1_201 dX2_takeLetter_58 ?_
    refine getN C wd (k := 2) (Cn := RX3) (T := TX3) (N := 5) (v := .ref (ad 45)) (by omega) cc_X3 rfl 3 (by decide) rfl inX3 ns_4 dX2_takeLetter_61 ?_
    refine lv_iload_n hx hb dX2_takeLetter_64 rfl (lv_at hl 3 rfl) ?_
    refine gCi wd (gRunSN (y := yX9_at) (As := [.ref (ad 45), .int x3]) (rest := [.ref (ad r3)]) C wd (cmX9_at (by omega) (by omega) (by omega) h) ⟨rfl, rfl⟩ gc_X9_at ns_52 tw1_1 tw2_92 nk_X9_at ⟨Nat.le_of_ble_eq_true rfl, Nat.le_of_ble_eq_true rfl⟩ hl.1 (Nat.le_of_ble_eq_true rfl) dX2_takeLetter_65 rfl) (fun r5 t4 H locs h wd => ?_)
    try dsimp only at h
    refine gCi wd (gRunV (y := yX0_addPage) (k := r3) (As := [.int r5]) (rest := []) C wd (cmX0_addPage (by omega) (by omega) (by omega) h) ⟨rfl, rfl⟩ gd_X2_65 nk_X0_addPage ⟨Nat.le_of_ble_eq_true rfl, Nat.le_of_ble_eq_true rfl⟩ (by omega) (cc_X0 (k := r3) (by omega) (by omega)) rfl rfl hl.1 (Nat.le_of_ble_eq_true rfl) dX2_takeLetter_68 rfl) (fun r7 t6 H locs h wd => ?_)
    try dsimp only at h
    refine lv_istore (lv' := [(5, .int r7), (0, .ref (ad 0)), (1, .int x1), (3, .int x3), (4, .int x4)]) hx hb dX2_takeLetter_71 hl (by decide) rfl (fun ls hl => ?_)
    refine lv_aload_n hx hb dX2_takeLetter_73 rfl (lv_at hl 1 rfl) ?_
    refine lv_iload_n hx hb dX2_takeLetter_74 rfl (lv_at hl 2 rfl) ?_
    refine gCr wd (gRunV (y := yX2_clerk) (k := 0) (As := [.int x1]) (rest := []) C wd (cmX2_clerk (by omega) h) ⟨rfl, rfl⟩ gd_X2_57 nk_X2_clerk ⟨Nat.le_of_ble_eq_true rfl, Nat.le_of_ble_eq_true rfl⟩ (by omega) cc_X2 rfl rfl hl.1 (Nat.le_of_ble_eq_true rfl) dX2_takeLetter_75 rfl) (fun r9 t8 H locs hr9a hr9b h wd => ?_)
    try dsimp only at h
    refine lv_aload_n hx hb dX2_takeLetter_78 rfl (lv_at hl 1 rfl) ?_
    refine getF C wd (k := 0) (Cn := RX2) (T := TX2) (N := 6) (v := .ref (ad 2)) (by omega) cc_X2 rfl 3 (by decide) rfl inX2 tw1_201 dX2_takeLetter_79 ?_
    refine getN C wd (k := 2) (Cn := RX3) (T := TX3) (N := 5) (v := .ref (ad 15)) (by omega) cc_X3 rfl 4 (by decide) rfl inX3 ns_5 dX2_takeLetter_82 ?_
    refine lv_iload_n hx hb dX2_takeLetter_85 rfl (lv_at hl 3 rfl) ?_
    refine gCv wd (gRunV (y := yX0_restAlsoOn) (k := r9) (As := [.ref (ad 15), .int x3]) (rest := []) C wd (cmX0_restAlsoOn (by omega) (by omega) (by omega) (by omega) (by omega) h) ⟨rfl, rfl⟩ gd_X2_93 nk_X0_restAlsoOn ⟨Nat.le_of_ble_eq_true rfl, Nat.le_of_ble_eq_true rfl⟩ (by omega) (cc_X0 (k := r9) (by omega) (by omega)) rfl rfl hl.1 (Nat.le_of_ble_eq_true rfl) dX2_takeLetter_86 rfl) (fun t10 H locs h wd => ?_)
    try dsimp only at h
    exact blX2_takeLetter_89 hn C h wd (lv_sub hl [1, 3, 0] rfl)
def wpX2_takeLetter (x1 : Int32) (x2 : Int32) (σ : St) (Φ : Int32 → St → Prop) : Prop :=
  wpX3_find x1 x2 σ (fun r2 t1 => ((r2 = (-1 : Int32) → Φ (-3 : Int32) t1) ∧ (¬ r2 = (-1 : Int32) → wpX2_isDeadLetter r2 t1 (fun r5 t4 => ((r5 = 0 → wpX2_clerk x1 t4 (fun r8 t7 => wpX0_isFull r8 t7 (fun r10 t9 => ((r10 = 0 → wbX2_takeLetter_44 Φ x1 r2 r5 t9) ∧ (¬ r10 = 0 → Φ (-4 : Int32) t9))))) ∧ (¬ r5 = 0 → wbX2_takeLetter_44 Φ x1 r2 r5 t4))))))
set_option maxHeartbeats 4000000 in
set_option maxRecDepth 100000 in
theorem cmX2_takeLetter {D : va_G} {cyI cyO : ClassId} {ad : Nat → Nat} {n : Nat} {l : Launch} (hn : 52 ≤ n) {x1 : Int32} {x2 : Int32} {σ : St} {sz : Nat} {Φ : Int32 → St → Prop} (h : wpX2_takeLetter x1 x2 σ Φ) : gMet D (tyL cyI cyO) (cCell ad cyI cyO) ad n l yX2_takeLetter cX2_takeLetter 6 (some .int) rmX2_takeLetter [.ref (ad 0), .int x1, .int x2] σ sz (gQi D (cCell ad cyI cyO) ad n sz Φ) := by
  refine gMet.of (by decide) (Nat.le_of_ble_eq_true rfl) ?_
  intro p e s m below meth c ls hsz C hl wd
  subst hsz
  have C : Cx p s m _ meth c cX2_takeLetter 6 (some .int) RX2 := C
  obtain ⟨hx, hb, hr, hml, hown, hts, hlk⟩ := id C
  have hl : lv_has ls 6 [(0, .ref (ad 0)), (1, .int x1), (2, .int x2)] := hl
  unfold wpX2_takeLetter at h
  refine lv_aload_n hx hb dX2_takeLetter_0 rfl (lv_at hl 0 rfl) ?_
  refine getF C wd (k := 0) (Cn := RX2) (T := TX2) (N := 6) (v := .ref (ad 2)) (by omega) cc_X2 rfl 3 (by decide) rfl inX2 tw1_201 dX2_takeLetter_1 ?_
  refine lv_iload_n hx hb dX2_takeLetter_4 rfl (lv_at hl 1 rfl) ?_
  refine lv_iload_n hx hb dX2_takeLetter_5 rfl (lv_at hl 2 rfl) ?_
  refine gCi wd (gRunV (y := yX3_find) (k := 2) (As := [.int x1, .int x2]) (rest := []) C wd (cmX3_find (by omega) h) ⟨rfl, rfl⟩ gd_X2_73 nk_X3_find ⟨Nat.le_of_ble_eq_true rfl, Nat.le_of_ble_eq_true rfl⟩ (by omega) cc_X3 rfl rfl hl.1 (Nat.le_of_ble_eq_true rfl) dX2_takeLetter_6 rfl) (fun r2 t1 H locs h wd => ?_)
  try dsimp only at h
  refine lv_istore_n (lv' := [(3, .int r2), (0, .ref (ad 0)), (1, .int x1), (2, .int x2)]) hx hb dX2_takeLetter_9 rfl hl (by decide) rfl (fun ls hl => ?_)
  refine lv_iload_n hx hb dX2_takeLetter_10 rfl (lv_at hl 0 rfl) ?_
  refine lv_iconst (v := (-1 : Int32)) hx hb dX2_takeLetter_11 (by decide) ?_
  refine lv_icmp_ne (tgt := 18) hx hb dX2_takeLetter_12 (by decide) (fun c3 => ?_) (fun c3 => ?_)
  · have h := h.2 c3
    refine lv_aload_n hx hb dX2_takeLetter_18 rfl (lv_at hl 1 rfl) ?_
    refine lv_iload_n hx hb dX2_takeLetter_19 rfl (lv_at hl 0 rfl) ?_
    refine gCi wd (gRunV (y := yX2_isDeadLetter) (k := 0) (As := [.int r2]) (rest := []) C wd (cmX2_isDeadLetter (by omega) h) ⟨rfl, rfl⟩ gd_X2_77 nk_X2_isDeadLetter ⟨Nat.le_of_ble_eq_true rfl, Nat.le_of_ble_eq_true rfl⟩ (by omega) cc_X2 rfl rfl hl.1 (Nat.le_of_ble_eq_true rfl) dX2_takeLetter_20 rfl) (fun r5 t4 H locs h wd => ?_)
    try dsimp only at h
    refine lv_istore (lv' := [(4, .int r5), (3, .int r2), (0, .ref (ad 0)), (1, .int x1), (2, .int x2)]) hx hb dX2_takeLetter_23 hl (by decide) rfl (fun ls hl => ?_)
    refine lv_iload hx hb dX2_takeLetter_25 (lv_at hl 0 rfl) ?_
    refine lv_if_ne (tgt := 44) hx hb dX2_takeLetter_27 (by decide) (fun c6 => ?_) (fun c6 => ?_)
    · have h := h.2 c6
      exact blX2_takeLetter_44 hn C h wd (lv_sub hl [2, 3, 1, 0] rfl)
    · have h := h.1 c6
      refine lv_aload_n hx hb dX2_takeLetter_30 rfl (lv_at hl 2 rfl) ?_
      refine lv_iload_n hx hb dX2_takeLetter_31 rfl (lv_at hl 3 rfl) ?_
      refine gCr wd (gRunV (y := yX2_clerk) (k := 0) (As := [.int x1]) (rest := []) C wd (cmX2_clerk (by omega) h) ⟨rfl, rfl⟩ gd_X2_57 nk_X2_clerk ⟨Nat.le_of_ble_eq_true rfl, Nat.le_of_ble_eq_true rfl⟩ (by omega) cc_X2 rfl rfl hl.1 (Nat.le_of_ble_eq_true rfl) dX2_takeLetter_32 rfl) (fun r8 t7 H locs hr8a hr8b h wd => ?_)
      try dsimp only at h
      refine gCi wd (gRunV (y := yX0_isFull) (k := r8) (As := []) (rest := []) C wd (cmX0_isFull (by omega) (by omega) (by omega) h) ⟨rfl, rfl⟩ gd_X2_61 nk_X0_isFull ⟨Nat.le_of_ble_eq_true rfl, Nat.le_of_ble_eq_true rfl⟩ (by omega) (cc_X0 (k := r8) (by omega) (by omega)) rfl rfl hl.1 (Nat.le_of_ble_eq_true rfl) dX2_takeLetter_35 rfl) (fun r10 t9 H locs h wd => ?_)
      try dsimp only at h
      refine lv_if_eq (tgt := 44) hx hb dX2_takeLetter_38 (by decide) (fun c11 => ?_) (fun c11 => ?_)
      · have h := h.1 c11
        exact blX2_takeLetter_44 hn C h wd (lv_sub hl [2, 3, 1, 0] rfl)
      · have h := h.2 c11
        refine lv_bipush (v := (-4 : Int32)) hx hb dX2_takeLetter_41 (by decide) ?_
        exact retI C wd h dX2_takeLetter_43
  · have h := h.1 c3
    refine lv_bipush (v := (-3 : Int32)) hx hb dX2_takeLetter_15 (by decide) ?_
    exact retI C wd h dX2_takeLetter_17
abbrev rmX2_sweepLetters : Room := rmOf 4 92
def wbX2_sweepLetters_35 (Φ : Int32 → St → Prop) (k_12 : Int32 → Int32 → St → Prop) (x1 : Int32) (x2 : Int32) (σ : St) : Prop :=
  (∀ y1 : Int32, y1 = x2 + (-1 : Int32) → k_12 x1 y1 σ)
set_option maxHeartbeats 4000000 in
set_option maxRecDepth 100000 in
theorem blX2_sweepLetters_35 {p : Program} {l : Launch} {e : Env} {s : State} {m : MethodId} {args : Array Value} {below : List Frame} {meth : Method} {c : Code} (hn : 52 ≤ n) (C : Cx p s m args meth c cX2_sweepLetters 3 (some .int) RX2) {Φ : Int32 → St → Prop} {k_12 : Int32 → Int32 → St → Prop} (hk_12 : ∀ (x1 : Int32) (x2 : Int32) (σ : St) (H : Heap) (locs : List Loc) (ls : Array Slot), k_12 x1 x2 σ → gWd D (tyL cyI cyO) (cCell ad cyI cyO) ad n s H locs σ → lv_has ls 3 [(0, .ref (ad 0)), (1, .int x1), (2, .int x2)] → W p l e rmX2_sweepLetters s m args below meth c H locs 0 0 (MQ below (gQi D (cCell ad cyI cyO) ad n s.heap.size Φ) args s 0 0 (gA ad n s.heap.size)) (F0 m 12 ls [])) {x1 : Int32} {x2 : Int32} {σ : St} {H : Heap} {locs : List Loc} {ls : Array Slot} (h : wbX2_sweepLetters_35 Φ k_12 x1 x2 σ) (wd : gWd D (tyL cyI cyO) (cCell ad cyI cyO) ad n s H locs σ) (hl : lv_has ls 3 [(0, .ref (ad 0)), (1, .int x1), (2, .int x2)]) : W p l e rmX2_sweepLetters s m args below meth c H locs 0 0 (MQ below (gQi D (cCell ad cyI cyO) ad n s.heap.size Φ) args s 0 0 (gA ad n s.heap.size)) (F0 m 35 ls []) := by
  obtain ⟨hx, hb, hr, hml, hown, hts, hlk⟩ := id C
  unfold wbX2_sweepLetters_35 at h
  obtain ⟨y1, ey1⟩ : ∃ y : Int32, y = x2 + (-1 : Int32) := ⟨_, rfl⟩
  refine lv_iinc (v := y1) (lv' := [(2, .int y1), (0, .ref (ad 0)), (1, .int x1)]) hx hb dX2_sweepLetters_35 hl (k := 2) rfl (by rw [ey1]; rfl) (by decide) rfl (fun ls hl => ?_)
  have h := h y1 ey1
  refine lv_goto (tgt := 12) hx hb dX2_sweepLetters_38 (by decide) ?_
  exact hk_12 _ _ _ _ _ _ h wd (lv_sub hl [1, 2, 0] rfl)
def wlX2_sweepLetters_12_body (Φ : Int32 → St → Prop) (k_12 : Int32 → Int32 → St → Prop) (x1 : Int32) (x2 : Int32) (σ : St) : Prop :=
  ((x2 < 0 → Φ x1 σ) ∧ (¬ x2 < 0 → wpX2_isDeadLetter x2 σ (fun r3 t2 => ((r3 = 0 → wbX2_sweepLetters_35 Φ k_12 x1 x2 t2) ∧ (¬ r3 = 0 → wpX3_remove x2 t2 (fun t5 => (∀ y6 : Int32, y6 = x1 + (1 : Int32) → wbX2_sweepLetters_35 Φ k_12 y6 x2 t5)))))))
def wlX2_sweepLetters_12 (Φ : Int32 → St → Prop) : Nat → Int32 → Int32 → St → Prop
  | 0 => fun _ _ _ => False
  | N + 1 => fun x1 x2 σ => wlX2_sweepLetters_12_body Φ (wlX2_sweepLetters_12 Φ N) x1 x2 σ
set_option maxHeartbeats 4000000 in
set_option maxRecDepth 100000 in
theorem llX2_sweepLetters_12 {p : Program} {l : Launch} {e : Env} {s : State} {m : MethodId} {args : Array Value} {below : List Frame} {meth : Method} {c : Code} (hn : 52 ≤ n) (C : Cx p s m args meth c cX2_sweepLetters 3 (some .int) RX2) {Φ : Int32 → St → Prop} : ∀ (N : Nat) (x1 : Int32) (x2 : Int32) (σ : St) (H : Heap) (locs : List Loc) (ls : Array Slot), wlX2_sweepLetters_12 Φ N x1 x2 σ → gWd D (tyL cyI cyO) (cCell ad cyI cyO) ad n s H locs σ → lv_has ls 3 [(0, .ref (ad 0)), (1, .int x1), (2, .int x2)] → W p l e rmX2_sweepLetters s m args below meth c H locs 0 0 (MQ below (gQi D (cCell ad cyI cyO) ad n s.heap.size Φ) args s 0 0 (gA ad n s.heap.size)) (F0 m 12 ls []) := by
  obtain ⟨hx, hb, hr, hml, hown, hts, hlk⟩ := id C
  intro N
  induction N with
  | zero =>
    intro x1 x2 σ H locs ls h
    exact False.elim h
  | succ N ih =>
    intro x1 x2 σ H locs ls h wd hl
    have h : wlX2_sweepLetters_12_body Φ (wlX2_sweepLetters_12 Φ N) x1 x2 σ := h
    have hk_12 := ih
    unfold wlX2_sweepLetters_12_body at h
    refine lv_iload_n hx hb dX2_sweepLetters_12 rfl (lv_at hl 2 rfl) ?_
    refine lv_if_lt (tgt := 41) hx hb dX2_sweepLetters_13 (by decide) (fun c1 => ?_) (fun c1 => ?_)
    · have h := h.1 c1
      refine lv_iload_n hx hb dX2_sweepLetters_41 rfl (lv_at hl 1 rfl) ?_
      exact retI C wd h dX2_sweepLetters_42
    · have h := h.2 c1
      refine lv_aload_n hx hb dX2_sweepLetters_16 rfl (lv_at hl 0 rfl) ?_
      refine lv_iload_n hx hb dX2_sweepLetters_17 rfl (lv_at hl 2 rfl) ?_
      refine gCi wd (gRunV (y := yX2_isDeadLetter) (k := 0) (As := [.int x2]) (rest := []) C wd (cmX2_isDeadLetter (by omega) h) ⟨rfl, rfl⟩ gd_X2_77 nk_X2_isDeadLetter ⟨Nat.le_of_ble_eq_true rfl, Nat.le_of_ble_eq_true rfl⟩ (by omega) cc_X2 rfl rfl hl.1 (Nat.le_of_ble_eq_true rfl) dX2_sweepLetters_18 rfl) (fun r3 t2 H locs h wd => ?_)
      try dsimp only at h
      refine lv_if_eq (tgt := 35) hx hb dX2_sweepLetters_21 (by decide) (fun c4 => ?_) (fun c4 => ?_)
      · have h := h.1 c4
        exact blX2_sweepLetters_35 hn C hk_12 h wd (lv_sub hl [0, 1, 2] rfl)
      · have h := h.2 c4
        refine lv_aload_n hx hb dX2_sweepLetters_24 rfl (lv_at hl 0 rfl) ?_
        refine getF C wd (k := 0) (Cn := RX2) (T := TX2) (N := 6) (v := .ref (ad 2)) (by omega) cc_X2 rfl 3 (by decide) rfl inX2 tw1_201 dX2_sweepLetters_25 ?_
        refine lv_iload_n hx hb dX2_sweepLetters_28 rfl (lv_at hl 2 rfl) ?_
        refine gCv wd (gRunV (y := yX3_remove) (k := 2) (As := [.int x2]) (rest := []) C wd (cmX3_remove (by omega) h) ⟨rfl, rfl⟩ gd_X2_97 nk_X3_remove ⟨Nat.le_of_ble_eq_true rfl, Nat.le_of_ble_eq_true rfl⟩ (by omega) cc_X3 rfl rfl hl.1 (Nat.le_of_ble_eq_true rfl) dX2_sweepLetters_29 rfl) (fun t5 H locs h wd => ?_)
        try dsimp only at h
        obtain ⟨y6, ey6⟩ : ∃ y : Int32, y = x1 + (1 : Int32) := ⟨_, rfl⟩
        refine lv_iinc (v := y6) (lv' := [(1, .int y6), (0, .ref (ad 0)), (2, .int x2)]) hx hb dX2_sweepLetters_32 hl (k := 1) rfl (by rw [ey6]; rfl) (by decide) rfl (fun ls hl => ?_)
        have h := h y6 ey6
        exact blX2_sweepLetters_35 hn C hk_12 h wd (lv_sub hl [1, 0, 2] rfl)
def wpX2_sweepLetters (σ : St) (Φ : Int32 → St → Prop) : Prop :=
  (∀ y1 : Int32, y1 = (σ.1 64) - (1 : Int32) → (∃ N, wlX2_sweepLetters_12 Φ N (0 : Int32) y1 σ))
set_option maxHeartbeats 4000000 in
set_option maxRecDepth 100000 in
theorem cmX2_sweepLetters {D : va_G} {cyI cyO : ClassId} {ad : Nat → Nat} {n : Nat} {l : Launch} (hn : 52 ≤ n) {σ : St} {sz : Nat} {Φ : Int32 → St → Prop} (h : wpX2_sweepLetters σ Φ) : gMet D (tyL cyI cyO) (cCell ad cyI cyO) ad n l yX2_sweepLetters cX2_sweepLetters 3 (some .int) rmX2_sweepLetters [.ref (ad 0)] σ sz (gQi D (cCell ad cyI cyO) ad n sz Φ) := by
  refine gMet.of (by decide) (Nat.le_of_ble_eq_true rfl) ?_
  intro p e s m below meth c ls hsz C hl wd
  subst hsz
  have C : Cx p s m _ meth c cX2_sweepLetters 3 (some .int) RX2 := C
  obtain ⟨hx, hb, hr, hml, hown, hts, hlk⟩ := id C
  have hl : lv_has ls 3 [(0, .ref (ad 0))] := hl
  unfold wpX2_sweepLetters at h
  refine lv_iconst (v := (0 : Int32)) hx hb dX2_sweepLetters_0 (by decide) ?_
  refine lv_istore_n (lv' := [(1, .int (0 : Int32)), (0, .ref (ad 0))]) hx hb dX2_sweepLetters_1 rfl hl (by decide) rfl (fun ls hl => ?_)
  refine lv_aload_n hx hb dX2_sweepLetters_2 rfl (lv_at hl 1 rfl) ?_
  refine getF C wd (k := 0) (Cn := RX2) (T := TX2) (N := 6) (v := .ref (ad 2)) (by omega) cc_X2 rfl 3 (by decide) rfl inX2 tw1_201 dX2_sweepLetters_3 ?_
  refine getN C wd (k := 2) (Cn := RX3) (T := TX3) (N := 5) (v := .int (σ.1 64)) (by omega) cc_X3 rfl 0 (by decide) rfl inX3 ns_1 dX2_sweepLetters_6 ?_
  refine lv_iconst (v := (1 : Int32)) hx hb dX2_sweepLetters_9 (by decide) ?_
  refine lv_isub hx hb dX2_sweepLetters_10 ?_
  refine lv_topi (fun y1 ey1 => ?_)
  have h := h y1 ey1
  refine lv_istore_n (lv' := [(2, .int y1), (1, .int (0 : Int32)), (0, .ref (ad 0))]) hx hb dX2_sweepLetters_11 rfl hl (by decide) rfl (fun ls hl => ?_)
  obtain ⟨N, h⟩ := h
  exact llX2_sweepLetters_12 hn C N _ _ _ _ _ _ h wd (lv_sub hl [2, 1, 0] rfl)
abbrev rmX2_writePages : Room := rmOf 2 42
def wpX2_writePages (x1 : Int32) (x2 : Int32) (σ : St) (Φ : Int32 → St → Prop) : Prop :=
  wpX2_clerk x1 σ (fun r2 t1 => wpX0_writeMore r2 x2 t1 (fun r4 t3 => Φ r4 t3))
set_option maxHeartbeats 4000000 in
set_option maxRecDepth 100000 in
theorem cmX2_writePages {D : va_G} {cyI cyO : ClassId} {ad : Nat → Nat} {n : Nat} {l : Launch} (hn : 52 ≤ n) {x1 : Int32} {x2 : Int32} {σ : St} {sz : Nat} {Φ : Int32 → St → Prop} (h : wpX2_writePages x1 x2 σ Φ) : gMet D (tyL cyI cyO) (cCell ad cyI cyO) ad n l yX2_writePages cX2_writePages 3 (some .int) rmX2_writePages [.ref (ad 0), .int x1, .int x2] σ sz (gQi D (cCell ad cyI cyO) ad n sz Φ) := by
  refine gMet.of (by decide) (Nat.le_of_ble_eq_true rfl) ?_
  intro p e s m below meth c ls hsz C hl wd
  subst hsz
  have C : Cx p s m _ meth c cX2_writePages 3 (some .int) RX2 := C
  obtain ⟨hx, hb, hr, hml, hown, hts, hlk⟩ := id C
  have hl : lv_has ls 3 [(0, .ref (ad 0)), (1, .int x1), (2, .int x2)] := hl
  unfold wpX2_writePages at h
  refine lv_aload_n hx hb dX2_writePages_0 rfl (lv_at hl 0 rfl) ?_
  refine lv_iload_n hx hb dX2_writePages_1 rfl (lv_at hl 1 rfl) ?_
  refine gCr wd (gRunV (y := yX2_clerk) (k := 0) (As := [.int x1]) (rest := []) C wd (cmX2_clerk (by omega) h) ⟨rfl, rfl⟩ gd_X2_57 nk_X2_clerk ⟨Nat.le_of_ble_eq_true rfl, Nat.le_of_ble_eq_true rfl⟩ (by omega) cc_X2 rfl rfl hl.1 (Nat.le_of_ble_eq_true rfl) dX2_writePages_2 rfl) (fun r2 t1 H locs hr2a hr2b h wd => ?_)
  try dsimp only at h
  refine lv_iload_n hx hb dX2_writePages_5 rfl (lv_at hl 2 rfl) ?_
  refine gCi wd (gRunV (y := yX0_writeMore) (k := r2) (As := [.int x2]) (rest := []) C wd (cmX0_writeMore (by omega) (by omega) (by omega) h) ⟨rfl, rfl⟩ gd_X2_112 nk_X0_writeMore ⟨Nat.le_of_ble_eq_true rfl, Nat.le_of_ble_eq_true rfl⟩ (by omega) (cc_X0 (k := r2) (by omega) (by omega)) rfl rfl hl.1 (Nat.le_of_ble_eq_true rfl) dX2_writePages_6 rfl) (fun r4 t3 H locs h wd => ?_)
  try dsimp only at h
  exact retI C wd h dX2_writePages_9
abbrev rmX6_isHeld : Room := rmOf 1 21
def wpX6_isHeld (x1 : Int32) (σ : St) (Φ : Int32 → St → Prop) : Prop :=
  ((x1 < 0 → Φ (0 : Int32) σ) ∧ (¬ x1 < 0 → (((σ.1 96) ≤ x1 → Φ (0 : Int32) σ) ∧ (¬ (σ.1 96) ≤ x1 → wpX9_at 48 x1 σ (fun r4 t3 => ((r4 = 0 → Φ (1 : Int32) t3) ∧ (¬ r4 = 0 → Φ (0 : Int32) t3)))))))
set_option maxHeartbeats 4000000 in
set_option maxRecDepth 100000 in
theorem cmX6_isHeld {D : va_G} {cyI cyO : ClassId} {ad : Nat → Nat} {n : Nat} {l : Launch} (hn : 52 ≤ n) {x1 : Int32} {σ : St} {sz : Nat} {Φ : Int32 → St → Prop} (h : wpX6_isHeld x1 σ Φ) : gMet D (tyL cyI cyO) (cCell ad cyI cyO) ad n l yX6_isHeld cX6_isHeld 2 (some .boolean) rmX6_isHeld [.ref (ad 3), .int x1] σ sz (gQi D (cCell ad cyI cyO) ad n sz Φ) := by
  refine gMet.of (by decide) (Nat.le_of_ble_eq_true rfl) ?_
  intro p e s m below meth c ls hsz C hl wd
  subst hsz
  have C : Cx p s m _ meth c cX6_isHeld 2 (some .boolean) RX6 := C
  obtain ⟨hx, hb, hr, hml, hown, hts, hlk⟩ := id C
  have hl : lv_has ls 2 [(0, .ref (ad 3)), (1, .int x1)] := hl
  unfold wpX6_isHeld at h
  refine lv_iload_n hx hb dX6_isHeld_0 rfl (lv_at hl 1 rfl) ?_
  refine lv_if_lt (tgt := 27) hx hb dX6_isHeld_1 (by decide) (fun c1 => ?_) (fun c1 => ?_)
  · have h := h.1 c1
    refine lv_iconst (v := (0 : Int32)) hx hb dX6_isHeld_27 (by decide) ?_
    exact retZ C wd rfl h dX6_isHeld_28
  · have h := h.2 c1
    refine lv_iload_n hx hb dX6_isHeld_4 rfl (lv_at hl 1 rfl) ?_
    refine lv_aload_n hx hb dX6_isHeld_5 rfl (lv_at hl 0 rfl) ?_
    refine getF C wd (k := 3) (Cn := RX6) (T := TX6) (N := 6) (v := .int (σ.1 96)) (by omega) cc_X6 rfl 0 (by decide) rfl inX6 tw1_82 dX6_isHeld_6 ?_
    refine lv_icmp_ge (tgt := 27) hx hb dX6_isHeld_9 (by decide) (fun c2 => ?_) (fun c2 => ?_)
    · have h := h.1 c2
      refine lv_iconst (v := (0 : Int32)) hx hb dX6_isHeld_27 (by decide) ?_
      exact retZ C wd rfl h dX6_isHeld_28
    · have h := h.2 c2
      refine lv_aload_n hx hb dX6_isHeld_12 rfl (lv_at hl 0 rfl) ?_
      refine getF C wd (k := 3) (Cn := RX6) (T := TX6) (N := 6) (v := .ref (ad 48)) (by omega) cc_X6 rfl 4 (by decide) rfl inX6 tw1_91 dX6_isHeld_13 ?_
      refine lv_iload_n hx hb dX6_isHeld_16 rfl (lv_at hl 1 rfl) ?_
      refine gCi wd (gRunSN (y := yX9_at) (As := [.ref (ad 48), .int x1]) (rest := []) C wd (cmX9_at (by omega) (by omega) (by omega) h) ⟨rfl, rfl⟩ gc_X9_at ns_55 tw1_1 tw2_92 nk_X9_at ⟨Nat.le_of_ble_eq_true rfl, Nat.le_of_ble_eq_true rfl⟩ hl.1 (Nat.le_of_ble_eq_true rfl) dX6_isHeld_17 rfl) (fun r4 t3 H locs h wd => ?_)
      try dsimp only at h
      refine lv_if_ne (tgt := 27) hx hb dX6_isHeld_20 (by decide) (fun c5 => ?_) (fun c5 => ?_)
      · have h := h.2 c5
        refine lv_iconst (v := (0 : Int32)) hx hb dX6_isHeld_27 (by decide) ?_
        exact retZ C wd rfl h dX6_isHeld_28
      · have h := h.1 c5
        refine lv_iconst (v := (1 : Int32)) hx hb dX6_isHeld_23 (by decide) ?_
        refine lv_goto (tgt := 28) hx hb dX6_isHeld_24 (by decide) ?_
        exact retZ C wd rfl h dX6_isHeld_28
abbrev rmX6_isHeldBehind : Room := rmOf 2 42
def wpX6_isHeldBehind (x1 : Int32) (x2 : Int32) (x3 : Int32) (σ : St) (Φ : Int32 → St → Prop) : Prop :=
  wpX6_isHeld x1 σ (fun r2 t1 => ((r2 = 0 → Φ (0 : Int32) t1) ∧ (¬ r2 = 0 → wpX9_at 46 x1 t1 (fun r5 t4 => ((r5 = x2 → wpX9_at 47 x1 t4 (fun r8 t7 => ((r8 ≤ x3 → Φ (0 : Int32) t7) ∧ (¬ r8 ≤ x3 → Φ (1 : Int32) t7)))) ∧ (¬ r5 = x2 → Φ (0 : Int32) t4))))))
set_option maxHeartbeats 4000000 in
set_option maxRecDepth 100000 in
theorem cmX6_isHeldBehind {D : va_G} {cyI cyO : ClassId} {ad : Nat → Nat} {n : Nat} {l : Launch} (hn : 52 ≤ n) {x1 : Int32} {x2 : Int32} {x3 : Int32} {σ : St} {sz : Nat} {Φ : Int32 → St → Prop} (h : wpX6_isHeldBehind x1 x2 x3 σ Φ) : gMet D (tyL cyI cyO) (cCell ad cyI cyO) ad n l yX6_isHeldBehind cX6_isHeldBehind 4 (some .boolean) rmX6_isHeldBehind [.ref (ad 3), .int x1, .int x2, .int x3] σ sz (gQi D (cCell ad cyI cyO) ad n sz Φ) := by
  refine gMet.of (by decide) (Nat.le_of_ble_eq_true rfl) ?_
  intro p e s m below meth c ls hsz C hl wd
  subst hsz
  have C : Cx p s m _ meth c cX6_isHeldBehind 4 (some .boolean) RX6 := C
  obtain ⟨hx, hb, hr, hml, hown, hts, hlk⟩ := id C
  have hl : lv_has ls 4 [(0, .ref (ad 3)), (1, .int x1), (2, .int x2), (3, .int x3)] := hl
  unfold wpX6_isHeldBehind at h
  refine lv_aload_n hx hb dX6_isHeldBehind_0 rfl (lv_at hl 0 rfl) ?_
  refine lv_iload_n hx hb dX6_isHeldBehind_1 rfl (lv_at hl 1 rfl) ?_
  refine gCi wd (gRunV (y := yX6_isHeld) (k := 3) (As := [.int x1]) (rest := []) C wd (cmX6_isHeld (by omega) h) ⟨rfl, rfl⟩ gd_X6_39 nk_X6_isHeld ⟨Nat.le_of_ble_eq_true rfl, Nat.le_of_ble_eq_true rfl⟩ (by omega) cc_X6 rfl rfl hl.1 (Nat.le_of_ble_eq_true rfl) dX6_isHeldBehind_2 rfl) (fun r2 t1 H locs h wd => ?_)
  try dsimp only at h
  refine lv_if_eq (tgt := 36) hx hb dX6_isHeldBehind_5 (by decide) (fun c3 => ?_) (fun c3 => ?_)
  · have h := h.1 c3
    refine lv_iconst (v := (0 : Int32)) hx hb dX6_isHeldBehind_36 (by decide) ?_
    exact retZ C wd rfl h dX6_isHeldBehind_37
  · have h := h.2 c3
    refine lv_aload_n hx hb dX6_isHeldBehind_8 rfl (lv_at hl 0 rfl) ?_
    refine getF C wd (k := 3) (Cn := RX6) (T := TX6) (N := 6) (v := .ref (ad 46)) (by omega) cc_X6 rfl 2 (by decide) rfl inX6 tw1_87 dX6_isHeldBehind_9 ?_
    refine lv_iload_n hx hb dX6_isHeldBehind_12 rfl (lv_at hl 1 rfl) ?_
    refine gCi wd (gRunSN (y := yX9_at) (As := [.ref (ad 46), .int x1]) (rest := []) C wd (cmX9_at (by omega) (by omega) (by omega) h) ⟨rfl, rfl⟩ gc_X9_at ns_55 tw1_1 tw2_92 nk_X9_at ⟨Nat.le_of_ble_eq_true rfl, Nat.le_of_ble_eq_true rfl⟩ hl.1 (Nat.le_of_ble_eq_true rfl) dX6_isHeldBehind_13 rfl) (fun r5 t4 H locs h wd => ?_)
    try dsimp only at h
    refine lv_iload_n hx hb dX6_isHeldBehind_16 rfl (lv_at hl 2 rfl) ?_
    refine lv_icmp_ne (tgt := 36) hx hb dX6_isHeldBehind_17 (by decide) (fun c6 => ?_) (fun c6 => ?_)
    · have h := h.2 c6
      refine lv_iconst (v := (0 : Int32)) hx hb dX6_isHeldBehind_36 (by decide) ?_
      exact retZ C wd rfl h dX6_isHeldBehind_37
    · have h := h.1 c6
      refine lv_aload_n hx hb dX6_isHeldBehind_20 rfl (lv_at hl 0 rfl) ?_
      refine getF C wd (k := 3) (Cn := RX6) (T := TX6) (N := 6) (v := .ref (ad 47)) (by omega) cc_X6 rfl 3 (by decide) rfl inX6 tw1_89 dX6_isHeldBehind_21 ?_
      refine lv_iload_n hx hb dX6_isHeldBehind_24 rfl (lv_at hl 1 rfl) ?_
      refine gCi wd (gRunSN (y := yX9_at) (As := [.ref (ad 47), .int x1]) (rest := []) C wd (cmX9_at (by omega) (by omega) (by omega) h) ⟨rfl, rfl⟩ gc_X9_at ns_55 tw1_1 tw2_92 nk_X9_at ⟨Nat.le_of_ble_eq_true rfl, Nat.le_of_ble_eq_true rfl⟩ hl.1 (Nat.le_of_ble_eq_true rfl) dX6_isHeldBehind_25 rfl) (fun r8 t7 H locs h wd => ?_)
      try dsimp only at h
      refine lv_iload_n hx hb dX6_isHeldBehind_28 rfl (lv_at hl 3 rfl) ?_
      refine lv_icmp_le (tgt := 36) hx hb dX6_isHeldBehind_29 (by decide) (fun c9 => ?_) (fun c9 => ?_)
      · have h := h.1 c9
        refine lv_iconst (v := (0 : Int32)) hx hb dX6_isHeldBehind_36 (by decide) ?_
        exact retZ C wd rfl h dX6_isHeldBehind_37
      · have h := h.2 c9
        refine lv_iconst (v := (1 : Int32)) hx hb dX6_isHeldBehind_32 (by decide) ?_
        refine lv_goto (tgt := 37) hx hb dX6_isHeldBehind_33 (by decide) ?_
        exact retZ C wd rfl h dX6_isHeldBehind_37
abbrev rmX6_loseBehind : Room := rmOf 3 65
def wbX6_loseBehind_29 (Φ : St → Prop) (k_2 : Int32 → Int32 → Int32 → St → Prop) (x1 : Int32) (x2 : Int32) (x3 : Int32) (σ : St) : Prop :=
  (∀ y1 : Int32, y1 = x3 + (1 : Int32) → k_2 x1 x2 y1 σ)
set_option maxHeartbeats 4000000 in
set_option maxRecDepth 100000 in
theorem blX6_loseBehind_29 {p : Program} {l : Launch} {e : Env} {s : State} {m : MethodId} {args : Array Value} {below : List Frame} {meth : Method} {c : Code} (hn : 52 ≤ n) (C : Cx p s m args meth c cX6_loseBehind 4 none RX6) {Φ : St → Prop} {k_2 : Int32 → Int32 → Int32 → St → Prop} (hk_2 : ∀ (x1 : Int32) (x2 : Int32) (x3 : Int32) (σ : St) (H : Heap) (locs : List Loc) (ls : Array Slot), k_2 x1 x2 x3 σ → gWd D (tyL cyI cyO) (cCell ad cyI cyO) ad n s H locs σ → lv_has ls 4 [(0, .ref (ad 3)), (1, .int x1), (2, .int x2), (3, .int x3)] → W p l e rmX6_loseBehind s m args below meth c H locs 0 0 (MQ below (gQv D (cCell ad cyI cyO) ad n s.heap.size Φ) args s 0 0 (gA ad n s.heap.size)) (F0 m 2 ls [])) {x1 : Int32} {x2 : Int32} {x3 : Int32} {σ : St} {H : Heap} {locs : List Loc} {ls : Array Slot} (h : wbX6_loseBehind_29 Φ k_2 x1 x2 x3 σ) (wd : gWd D (tyL cyI cyO) (cCell ad cyI cyO) ad n s H locs σ) (hl : lv_has ls 4 [(0, .ref (ad 3)), (1, .int x1), (2, .int x2), (3, .int x3)]) : W p l e rmX6_loseBehind s m args below meth c H locs 0 0 (MQ below (gQv D (cCell ad cyI cyO) ad n s.heap.size Φ) args s 0 0 (gA ad n s.heap.size)) (F0 m 29 ls []) := by
  obtain ⟨hx, hb, hr, hml, hown, hts, hlk⟩ := id C
  unfold wbX6_loseBehind_29 at h
  obtain ⟨y1, ey1⟩ : ∃ y : Int32, y = x3 + (1 : Int32) := ⟨_, rfl⟩
  refine lv_iinc (v := y1) (lv' := [(3, .int y1), (0, .ref (ad 3)), (1, .int x1), (2, .int x2)]) hx hb dX6_loseBehind_29 hl (k := 3) rfl (by rw [ey1]; rfl) (by decide) rfl (fun ls hl => ?_)
  have h := h y1 ey1
  refine lv_goto (tgt := 2) hx hb dX6_loseBehind_32 (by decide) ?_
  exact hk_2 _ _ _ _ _ _ _ h wd (lv_sub hl [1, 2, 3, 0] rfl)
def wlX6_loseBehind_2_body (Φ : St → Prop) (k_2 : Int32 → Int32 → Int32 → St → Prop) (x1 : Int32) (x2 : Int32) (x3 : Int32) (σ : St) : Prop :=
  (((σ.1 96) ≤ x3 → Φ σ) ∧ (¬ (σ.1 96) ≤ x3 → wpX6_isHeldBehind x3 x1 x2 σ (fun r3 t2 => ((r3 = 0 → wbX6_loseBehind_29 Φ k_2 x1 x2 x3 t2) ∧ (¬ r3 = 0 → wpX9_put 48 x3 (2 : Int32) t2 (fun t5 => wbX6_loseBehind_29 Φ k_2 x1 x2 x3 t5))))))
def wlX6_loseBehind_2 (Φ : St → Prop) : Nat → Int32 → Int32 → Int32 → St → Prop
  | 0 => fun _ _ _ _ => False
  | N + 1 => fun x1 x2 x3 σ => wlX6_loseBehind_2_body Φ (wlX6_loseBehind_2 Φ N) x1 x2 x3 σ
set_option maxHeartbeats 4000000 in
set_option maxRecDepth 100000 in
theorem llX6_loseBehind_2 {p : Program} {l : Launch} {e : Env} {s : State} {m : MethodId} {args : Array Value} {below : List Frame} {meth : Method} {c : Code} (hn : 52 ≤ n) (C : Cx p s m args meth c cX6_loseBehind 4 none RX6) {Φ : St → Prop} : ∀ (N : Nat) (x1 : Int32) (x2 : Int32) (x3 : Int32) (σ : St) (H : Heap) (locs : List Loc) (ls : Array Slot), wlX6_loseBehind_2 Φ N x1 x2 x3 σ → gWd D (tyL cyI cyO) (cCell ad cyI cyO) ad n s H locs σ → lv_has ls 4 [(0, .ref (ad 3)), (1, .int x1), (2, .int x2), (3, .int x3)] → W p l e rmX6_loseBehind s m args below meth c H locs 0 0 (MQ below (gQv D (cCell ad cyI cyO) ad n s.heap.size Φ) args s 0 0 (gA ad n s.heap.size)) (F0 m 2 ls []) := by
  obtain ⟨hx, hb, hr, hml, hown, hts, hlk⟩ := id C
  intro N
  induction N with
  | zero =>
    intro x1 x2 x3 σ H locs ls h
    exact False.elim h
  | succ N ih =>
    intro x1 x2 x3 σ H locs ls h wd hl
    have h : wlX6_loseBehind_2_body Φ (wlX6_loseBehind_2 Φ N) x1 x2 x3 σ := h
    have hk_2 := ih
    unfold wlX6_loseBehind_2_body at h
    refine lv_iload_n hx hb dX6_loseBehind_2 rfl (lv_at hl 3 rfl) ?_
    refine lv_aload_n hx hb dX6_loseBehind_3 rfl (lv_at hl 0 rfl) ?_
    refine getF C wd (k := 3) (Cn := RX6) (T := TX6) (N := 6) (v := .int (σ.1 96)) (by omega) cc_X6 rfl 0 (by decide) rfl inX6 tw1_82 dX6_loseBehind_4 ?_
    refine lv_icmp_ge (tgt := 35) hx hb dX6_loseBehind_7 (by decide) (fun c1 => ?_) (fun c1 => ?_)
    · have h := h.1 c1
      exact retV C wd h dX6_loseBehind_35
    · have h := h.2 c1
      refine lv_aload_n hx hb dX6_loseBehind_10 rfl (lv_at hl 0 rfl) ?_
      refine lv_iload_n hx hb dX6_loseBehind_11 rfl (lv_at hl 3 rfl) ?_
      refine lv_iload_n hx hb dX6_loseBehind_12 rfl (lv_at hl 1 rfl) ?_
      refine lv_iload_n hx hb dX6_loseBehind_13 rfl (lv_at hl 2 rfl) ?_
      refine gCi wd (gRunV (y := yX6_isHeldBehind) (k := 3) (As := [.int x3, .int x1, .int x2]) (rest := []) C wd (cmX6_isHeldBehind (by omega) h) ⟨rfl, rfl⟩ gd_X6_43 nk_X6_isHeldBehind ⟨Nat.le_of_ble_eq_true rfl, Nat.le_of_ble_eq_true rfl⟩ (by omega) cc_X6 rfl rfl hl.1 (Nat.le_of_ble_eq_true rfl) dX6_loseBehind_14 rfl) (fun r3 t2 H locs h wd => ?_)
      try dsimp only at h
      refine lv_if_eq (tgt := 29) hx hb dX6_loseBehind_17 (by decide) (fun c4 => ?_) (fun c4 => ?_)
      · have h := h.1 c4
        exact blX6_loseBehind_29 hn C hk_2 h wd (lv_sub hl [0, 1, 2, 3] rfl)
      · have h := h.2 c4
        refine lv_aload_n hx hb dX6_loseBehind_20 rfl (lv_at hl 0 rfl) ?_
        refine getF C wd (k := 3) (Cn := RX6) (T := TX6) (N := 6) (v := .ref (ad 48)) (by omega) cc_X6 rfl 4 (by decide) rfl inX6 tw1_91 dX6_loseBehind_21 ?_
        refine lv_iload_n hx hb dX6_loseBehind_24 rfl (lv_at hl 3 rfl) ?_
        refine lv_iconst (v := (2 : Int32)) hx hb dX6_loseBehind_25 (by decide) ?_
        refine gCv wd (gRunSN (y := yX9_put) (As := [.ref (ad 48), .int x3, .int (2 : Int32)]) (rest := []) C wd (cmX9_put (by omega) (by omega) (by omega) h) ⟨rfl, rfl⟩ gc_X9_put ns_56 tw1_1 tw1_188 nk_X9_put ⟨Nat.le_of_ble_eq_true rfl, Nat.le_of_ble_eq_true rfl⟩ hl.1 (Nat.le_of_ble_eq_true rfl) dX6_loseBehind_26 rfl) (fun t5 H locs h wd => ?_)
        try dsimp only at h
        exact blX6_loseBehind_29 hn C hk_2 h wd (lv_sub hl [0, 1, 2, 3] rfl)
def wpX6_loseBehind (x1 : Int32) (x2 : Int32) (σ : St) (Φ : St → Prop) : Prop :=
  (∃ N, wlX6_loseBehind_2 Φ N x1 x2 (0 : Int32) σ)
set_option maxHeartbeats 4000000 in
set_option maxRecDepth 100000 in
theorem cmX6_loseBehind {D : va_G} {cyI cyO : ClassId} {ad : Nat → Nat} {n : Nat} {l : Launch} (hn : 52 ≤ n) {x1 : Int32} {x2 : Int32} {σ : St} {sz : Nat} {Φ : St → Prop} (h : wpX6_loseBehind x1 x2 σ Φ) : gMet D (tyL cyI cyO) (cCell ad cyI cyO) ad n l yX6_loseBehind cX6_loseBehind 4 none rmX6_loseBehind [.ref (ad 3), .int x1, .int x2] σ sz (gQv D (cCell ad cyI cyO) ad n sz Φ) := by
  refine gMet.of (by decide) (Nat.le_of_ble_eq_true rfl) ?_
  intro p e s m below meth c ls hsz C hl wd
  subst hsz
  have C : Cx p s m _ meth c cX6_loseBehind 4 none RX6 := C
  obtain ⟨hx, hb, hr, hml, hown, hts, hlk⟩ := id C
  have hl : lv_has ls 4 [(0, .ref (ad 3)), (1, .int x1), (2, .int x2)] := hl
  unfold wpX6_loseBehind at h
  refine lv_iconst (v := (0 : Int32)) hx hb dX6_loseBehind_0 (by decide) ?_
  refine lv_istore_n (lv' := [(3, .int (0 : Int32)), (0, .ref (ad 3)), (1, .int x1), (2, .int x2)]) hx hb dX6_loseBehind_1 rfl hl (by decide) rfl (fun ls hl => ?_)
  obtain ⟨N, h⟩ := h
  exact llX6_loseBehind_2 hn C N _ _ _ _ _ _ _ h wd (lv_sub hl [1, 2, 3, 0] rfl)
abbrev rmX2_lose : Room := rmOf 4 92
def wbX2_lose_97 (Φ : Int32 → St → Prop) (k_43 : Int32 → St → Prop) (x2 : Int32) (σ : St) : Prop :=
  (∀ y1 : Int32, y1 = x2 + (1 : Int32) → k_43 y1 σ)
set_option maxHeartbeats 4000000 in
set_option maxRecDepth 100000 in
theorem blX2_lose_97 {p : Program} {l : Launch} {e : Env} {s : State} {m : MethodId} {args : Array Value} {below : List Frame} {meth : Method} {c : Code} (hn : 52 ≤ n) (C : Cx p s m args meth c cX2_lose 3 (some .int) RX2) {Φ : Int32 → St → Prop} {k_43 : Int32 → St → Prop} (hk_43 : ∀ (x2 : Int32) (σ : St) (H : Heap) (locs : List Loc) (ls : Array Slot), k_43 x2 σ → gWd D (tyL cyI cyO) (cCell ad cyI cyO) ad n s H locs σ → lv_has ls 3 [(0, .ref (ad 0)), (2, .int x2)] → W p l e rmX2_lose s m args below meth c H locs 0 0 (MQ below (gQi D (cCell ad cyI cyO) ad n s.heap.size Φ) args s 0 0 (gA ad n s.heap.size)) (F0 m 43 ls [])) {x2 : Int32} {σ : St} {H : Heap} {locs : List Loc} {ls : Array Slot} (h : wbX2_lose_97 Φ k_43 x2 σ) (wd : gWd D (tyL cyI cyO) (cCell ad cyI cyO) ad n s H locs σ) (hl : lv_has ls 3 [(0, .ref (ad 0)), (2, .int x2)]) : W p l e rmX2_lose s m args below meth c H locs 0 0 (MQ below (gQi D (cCell ad cyI cyO) ad n s.heap.size Φ) args s 0 0 (gA ad n s.heap.size)) (F0 m 97 ls []) := by
  obtain ⟨hx, hb, hr, hml, hown, hts, hlk⟩ := id C
  unfold wbX2_lose_97 at h
  obtain ⟨y1, ey1⟩ : ∃ y : Int32, y = x2 + (1 : Int32) := ⟨_, rfl⟩
  refine lv_iinc (v := y1) (lv' := [(2, .int y1), (0, .ref (ad 0))]) hx hb dX2_lose_97 hl (k := 1) rfl (by rw [ey1]; rfl) (by decide) rfl (fun ls hl => ?_)
  have h := h y1 ey1
  refine lv_goto (tgt := 43) hx hb dX2_lose_100 (by decide) ?_
  exact hk_43 _ _ _ _ _ h wd (lv_sub hl [1, 0] rfl)
def wlX2_lose_43_body (Φ : Int32 → St → Prop) (k_43 : Int32 → St → Prop) (x2 : Int32) (σ : St) : Prop :=
  (((σ.1 0) ≤ x2 → wpX1_pagesGone σ (fun r3 t2 => (∀ t4 : St, t4 = setI t2 1 ((σ.1 1) + r3) → wpX1_pagesGone t4 (fun r6 t5 => Φ r6 t5)))) ∧ (¬ (σ.1 0) ≤ x2 → wpX1_fells x2 σ (fun r8 t7 => ((r8 = 0 → wbX2_lose_97 Φ k_43 x2 t7) ∧ (¬ r8 = 0 → wpX2_clerk x2 t7 (fun r11 t10 => wpX1_keptBy x2 t10 (fun r13 t12 => wpX0_fallBack r11 r13 t12 (fun t14 => wpX1_keptBy x2 t14 (fun r16 t15 => wpX6_loseBehind x2 r16 t15 (fun t17 => wbX2_lose_97 Φ k_43 x2 t17))))))))))
def wlX2_lose_43 (Φ : Int32 → St → Prop) : Nat → Int32 → St → Prop
  | 0 => fun _ _ => False
  | N + 1 => fun x2 σ => wlX2_lose_43_body Φ (wlX2_lose_43 Φ N) x2 σ
set_option maxHeartbeats 4000000 in
set_option maxRecDepth 100000 in
theorem llX2_lose_43 {p : Program} {l : Launch} {e : Env} {s : State} {m : MethodId} {args : Array Value} {below : List Frame} {meth : Method} {c : Code} (hn : 52 ≤ n) (C : Cx p s m args meth c cX2_lose 3 (some .int) RX2) {Φ : Int32 → St → Prop} : ∀ (N : Nat) (x2 : Int32) (σ : St) (H : Heap) (locs : List Loc) (ls : Array Slot), wlX2_lose_43 Φ N x2 σ → gWd D (tyL cyI cyO) (cCell ad cyI cyO) ad n s H locs σ → lv_has ls 3 [(0, .ref (ad 0)), (2, .int x2)] → W p l e rmX2_lose s m args below meth c H locs 0 0 (MQ below (gQi D (cCell ad cyI cyO) ad n s.heap.size Φ) args s 0 0 (gA ad n s.heap.size)) (F0 m 43 ls []) := by
  obtain ⟨hx, hb, hr, hml, hown, hts, hlk⟩ := id C
  intro N
  induction N with
  | zero =>
    intro x2 σ H locs ls h
    exact False.elim h
  | succ N ih =>
    intro x2 σ H locs ls h wd hl
    have h : wlX2_lose_43_body Φ (wlX2_lose_43 Φ N) x2 σ := h
    have hk_43 := ih
    unfold wlX2_lose_43_body at h
    refine lv_iload_n hx hb dX2_lose_43 rfl (lv_at hl 1 rfl) ?_
    refine lv_aload_n hx hb dX2_lose_44 rfl (lv_at hl 0 rfl) ?_
    refine getF C wd (k := 0) (Cn := RX2) (T := TX2) (N := 6) (v := .int (σ.1 0)) (by omega) cc_X2 rfl 0 (by decide) rfl inX2 tw1_195 dX2_lose_45 ?_
    refine lv_icmp_ge (tgt := 103) hx hb dX2_lose_48 (by decide) (fun c1 => ?_) (fun c1 => ?_)
    · have h := h.1 c1
      refine lv_aload_n hx hb dX2_lose_103 rfl (lv_at hl 0 rfl) ?_
      refine lv_dup hx hb dX2_lose_104 rfl ?_
      refine getF C wd (k := 0) (Cn := RX2) (T := TX2) (N := 6) (v := .int (σ.1 1)) (by omega) cc_X2 rfl 1 (by decide) rfl inX2 tw1_198 dX2_lose_105 ?_
      refine lv_aload_n hx hb dX2_lose_108 rfl (lv_at hl 0 rfl) ?_
      refine getF C wd (k := 0) (Cn := RX2) (T := TX2) (N := 6) (v := .ref (ad 4)) (by omega) cc_X2 rfl 5 (by decide) rfl inX2 tw1_205 dX2_lose_109 ?_
      refine gCi wd (gRunV (y := yX1_pagesGone) (k := 4) (As := []) (rest := [.int (σ.1 1), .ref (ad 0)]) C wd (cmX1_pagesGone (by omega) h) ⟨rfl, rfl⟩ gd_X2_135 nk_X1_pagesGone ⟨Nat.le_of_ble_eq_true rfl, Nat.le_of_ble_eq_true rfl⟩ (by omega) cc_X1 rfl rfl hl.1 (Nat.le_of_ble_eq_true rfl) dX2_lose_112 rfl) (fun r3 t2 H locs h wd => ?_)
      try dsimp only at h
      refine lv_iadd hx hb dX2_lose_115 ?_
      refine putF C wd (k := 0) (Cn := RX2) (T := TX2) (N := 6) (σ' := setI t2 1 ((σ.1 1) + r3)) (by omega) cc_X2 rfl tyX2_ok nmX2 1 (by decide) rfl (by decide +kernel) (Nat.le_of_ble_eq_true rfl) inX2 tw1_198 cs_X2_gone dX2_lose_116 (fun H locs wd => ?_)
      obtain ⟨t4, et4⟩ : ∃ z : St, z = setI t2 1 ((σ.1 1) + r3) := ⟨_, rfl⟩
      rw [← et4] at wd
      have h := h t4 et4
      refine lv_aload_n hx hb dX2_lose_119 rfl (lv_at hl 0 rfl) ?_
      refine getF C wd (k := 0) (Cn := RX2) (T := TX2) (N := 6) (v := .ref (ad 4)) (by omega) cc_X2 rfl 5 (by decide) rfl inX2 tw1_205 dX2_lose_120 ?_
      refine gCi wd (gRunV (y := yX1_pagesGone) (k := 4) (As := []) (rest := []) C wd (cmX1_pagesGone (by omega) h) ⟨rfl, rfl⟩ gd_X2_135 nk_X1_pagesGone ⟨Nat.le_of_ble_eq_true rfl, Nat.le_of_ble_eq_true rfl⟩ (by omega) cc_X1 rfl rfl hl.1 (Nat.le_of_ble_eq_true rfl) dX2_lose_123 rfl) (fun r6 t5 H locs h wd => ?_)
      try dsimp only at h
      exact retI C wd h dX2_lose_126
    · have h := h.2 c1
      refine lv_aload_n hx hb dX2_lose_51 rfl (lv_at hl 0 rfl) ?_
      refine getF C wd (k := 0) (Cn := RX2) (T := TX2) (N := 6) (v := .ref (ad 4)) (by omega) cc_X2 rfl 5 (by decide) rfl inX2 tw1_205 dX2_lose_52 ?_
      refine lv_iload_n hx hb dX2_lose_55 rfl (lv_at hl 1 rfl) ?_
      refine gCi wd (gRunV (y := yX1_fells) (k := 4) (As := [.int x2]) (rest := []) C wd (cmX1_fells (by omega) h) ⟨rfl, rfl⟩ gd_X2_122 nk_X1_fells ⟨Nat.le_of_ble_eq_true rfl, Nat.le_of_ble_eq_true rfl⟩ (by omega) cc_X1 rfl rfl hl.1 (Nat.le_of_ble_eq_true rfl) dX2_lose_56 rfl) (fun r8 t7 H locs h wd => ?_)
      try dsimp only at h
      refine lv_if_ne (tgt := 65) hx hb dX2_lose_59 (by decide) (fun c9 => ?_) (fun c9 => ?_)
      · have h := h.2 c9
        refine lv_aload_n hx hb dX2_lose_65 rfl (lv_at hl 0 rfl) ?_
        refine lv_iload_n hx hb dX2_lose_66 rfl (lv_at hl 1 rfl) ?_
        refine gCr wd (gRunV (y := yX2_clerk) (k := 0) (As := [.int x2]) (rest := []) C wd (cmX2_clerk (by omega) h) ⟨rfl, rfl⟩ gd_X2_57 nk_X2_clerk ⟨Nat.le_of_ble_eq_true rfl, Nat.le_of_ble_eq_true rfl⟩ (by omega) cc_X2 rfl rfl hl.1 (Nat.le_of_ble_eq_true rfl) dX2_lose_67 rfl) (fun r11 t10 H locs hr11a hr11b h wd => ?_)
        try dsimp only at h
        refine lv_aload_n hx hb dX2_lose_70 rfl (lv_at hl 0 rfl) ?_
        refine getF C wd (k := 0) (Cn := RX2) (T := TX2) (N := 6) (v := .ref (ad 4)) (by omega) cc_X2 rfl 5 (by decide) rfl inX2 tw1_205 dX2_lose_71 ?_
        refine lv_iload_n hx hb dX2_lose_74 rfl (lv_at hl 1 rfl) ?_
        refine gCi wd (gRunV (y := yX1_keptBy) (k := 4) (As := [.int x2]) (rest := [.ref (ad r11)]) C wd (cmX1_keptBy (by omega) h) ⟨rfl, rfl⟩ gd_X2_125 nk_X1_keptBy ⟨Nat.le_of_ble_eq_true rfl, Nat.le_of_ble_eq_true rfl⟩ (by omega) cc_X1 rfl rfl hl.1 (Nat.le_of_ble_eq_true rfl) dX2_lose_75 rfl) (fun r13 t12 H locs h wd => ?_)
        try dsimp only at h
        refine gCv wd (gRunV (y := yX0_fallBack) (k := r11) (As := [.int r13]) (rest := []) C wd (cmX0_fallBack (by omega) (by omega) (by omega) h) ⟨rfl, rfl⟩ gd_X2_128 nk_X0_fallBack ⟨Nat.le_of_ble_eq_true rfl, Nat.le_of_ble_eq_true rfl⟩ (by omega) (cc_X0 (k := r11) (by omega) (by omega)) rfl rfl hl.1 (Nat.le_of_ble_eq_true rfl) dX2_lose_78 rfl) (fun t14 H locs h wd => ?_)
        try dsimp only at h
        refine lv_aload_n hx hb dX2_lose_81 rfl (lv_at hl 0 rfl) ?_
        refine getF C wd (k := 0) (Cn := RX2) (T := TX2) (N := 6) (v := .ref (ad 3)) (by omega) cc_X2 rfl 4 (by decide) rfl inX2 tw1_203 dX2_lose_82 ?_
        refine lv_iload_n hx hb dX2_lose_85 rfl (lv_at hl 1 rfl) ?_
        refine lv_aload_n hx hb dX2_lose_86 rfl (lv_at hl 0 rfl) ?_
        refine getF C wd (k := 0) (Cn := RX2) (T := TX2) (N := 6) (v := .ref (ad 4)) (by omega) cc_X2 rfl 5 (by decide) rfl inX2 tw1_205 dX2_lose_87 ?_
        refine lv_iload_n hx hb dX2_lose_90 rfl (lv_at hl 1 rfl) ?_
        refine gCi wd (gRunV (y := yX1_keptBy) (k := 4) (As := [.int x2]) (rest := [.int x2, .ref (ad 3)]) C wd (cmX1_keptBy (by omega) h) ⟨rfl, rfl⟩ gd_X2_125 nk_X1_keptBy ⟨Nat.le_of_ble_eq_true rfl, Nat.le_of_ble_eq_true rfl⟩ (by omega) cc_X1 rfl rfl hl.1 (Nat.le_of_ble_eq_true rfl) dX2_lose_91 rfl) (fun r16 t15 H locs h wd => ?_)
        try dsimp only at h
        refine gCv wd (gRunV (y := yX6_loseBehind) (k := 3) (As := [.int x2, .int r16]) (rest := []) C wd (cmX6_loseBehind (by omega) h) ⟨rfl, rfl⟩ gd_X2_131 nk_X6_loseBehind ⟨Nat.le_of_ble_eq_true rfl, Nat.le_of_ble_eq_true rfl⟩ (by omega) cc_X6 rfl rfl hl.1 (Nat.le_of_ble_eq_true rfl) dX2_lose_94 rfl) (fun t17 H locs h wd => ?_)
        try dsimp only at h
        exact blX2_lose_97 hn C hk_43 h wd (lv_sub hl [0, 1] rfl)
      · have h := h.1 c9
        refine lv_goto (tgt := 97) hx hb dX2_lose_62 (by decide) ?_
        exact blX2_lose_97 hn C hk_43 h wd (lv_sub hl [0, 1] rfl)
def wlX2_lose_2_body (Φ : Int32 → St → Prop) (k_2 : Int32 → Int32 → St → Prop) (x1 : Int32) (x2 : Int32) (σ : St) : Prop :=
  (((σ.1 0) ≤ x2 → wpX1_foresee x1 σ (fun t2 => (∃ N, wlX2_lose_43 Φ N (0 : Int32) t2))) ∧ (¬ (σ.1 0) ≤ x2 → wpX2_clerk x2 σ (fun r4 t3 => (((t3.1 (32 * r4 + 1)) < (60 : Int32) → (∀ y6 : Int32, y6 = x2 + (1 : Int32) → k_2 x1 y6 t3)) ∧ (¬ (t3.1 (32 * r4 + 1)) < (60 : Int32) → Φ (-4 : Int32) t3)))))
def wlX2_lose_2 (Φ : Int32 → St → Prop) : Nat → Int32 → Int32 → St → Prop
  | 0 => fun _ _ _ => False
  | N + 1 => fun x1 x2 σ => wlX2_lose_2_body Φ (wlX2_lose_2 Φ N) x1 x2 σ
set_option maxHeartbeats 4000000 in
set_option maxRecDepth 100000 in
theorem llX2_lose_2 {p : Program} {l : Launch} {e : Env} {s : State} {m : MethodId} {args : Array Value} {below : List Frame} {meth : Method} {c : Code} (hn : 52 ≤ n) (C : Cx p s m args meth c cX2_lose 3 (some .int) RX2) {Φ : Int32 → St → Prop} : ∀ (N : Nat) (x1 : Int32) (x2 : Int32) (σ : St) (H : Heap) (locs : List Loc) (ls : Array Slot), wlX2_lose_2 Φ N x1 x2 σ → gWd D (tyL cyI cyO) (cCell ad cyI cyO) ad n s H locs σ → lv_has ls 3 [(0, .ref (ad 0)), (1, .int x1), (2, .int x2)] → W p l e rmX2_lose s m args below meth c H locs 0 0 (MQ below (gQi D (cCell ad cyI cyO) ad n s.heap.size Φ) args s 0 0 (gA ad n s.heap.size)) (F0 m 2 ls []) := by
  obtain ⟨hx, hb, hr, hml, hown, hts, hlk⟩ := id C
  intro N
  induction N with
  | zero =>
    intro x1 x2 σ H locs ls h
    exact False.elim h
  | succ N ih =>
    intro x1 x2 σ H locs ls h wd hl
    have h : wlX2_lose_2_body Φ (wlX2_lose_2 Φ N) x1 x2 σ := h
    have hk_2 := ih
    unfold wlX2_lose_2_body at h
    refine lv_iload_n hx hb dX2_lose_2 rfl (lv_at hl 2 rfl) ?_
    refine lv_aload_n hx hb dX2_lose_3 rfl (lv_at hl 0 rfl) ?_
    refine getF C wd (k := 0) (Cn := RX2) (T := TX2) (N := 6) (v := .int (σ.1 0)) (by omega) cc_X2 rfl 0 (by decide) rfl inX2 tw1_195 dX2_lose_4 ?_
    refine lv_icmp_ge (tgt := 32) hx hb dX2_lose_7 (by decide) (fun c1 => ?_) (fun c1 => ?_)
    · have h := h.1 c1
      refine lv_aload_n hx hb dX2_lose_32 rfl (lv_at hl 0 rfl) ?_
      refine getF C wd (k := 0) (Cn := RX2) (T := TX2) (N := 6) (v := .ref (ad 4)) (by omega) cc_X2 rfl 5 (by decide) rfl inX2 tw1_205 dX2_lose_33 ?_
      refine lv_aload_n hx hb dX2_lose_36 rfl (lv_at hl 0 rfl) ?_
      refine lv_iload_n hx hb dX2_lose_37 rfl (lv_at hl 1 rfl) ?_
      refine gCv wd (gRunV (y := yX1_foresee) (k := 4) (As := [.ref (ad 0), .int x1]) (rest := []) C wd (cmX1_foresee (by omega) h) ⟨rfl, rfl⟩ gd_X2_118 nk_X1_foresee ⟨Nat.le_of_ble_eq_true rfl, Nat.le_of_ble_eq_true rfl⟩ (by omega) cc_X1 rfl rfl hl.1 (Nat.le_of_ble_eq_true rfl) dX2_lose_38 rfl) (fun t2 H locs h wd => ?_)
      try dsimp only at h
      refine lv_iconst (v := (0 : Int32)) hx hb dX2_lose_41 (by decide) ?_
      refine lv_istore_n (lv' := [(2, .int (0 : Int32)), (0, .ref (ad 0)), (1, .int x1)]) hx hb dX2_lose_42 rfl hl (by decide) rfl (fun ls hl => ?_)
      obtain ⟨N, h⟩ := h
      exact llX2_lose_43 hn C N _ _ _ _ _ h wd (lv_sub hl [1, 0] rfl)
    · have h := h.2 c1
      refine lv_aload_n hx hb dX2_lose_10 rfl (lv_at hl 0 rfl) ?_
      refine lv_iload_n hx hb dX2_lose_11 rfl (lv_at hl 2 rfl) ?_
      refine gCr wd (gRunV (y := yX2_clerk) (k := 0) (As := [.int x2]) (rest := []) C wd (cmX2_clerk (by omega) h) ⟨rfl, rfl⟩ gd_X2_57 nk_X2_clerk ⟨Nat.le_of_ble_eq_true rfl, Nat.le_of_ble_eq_true rfl⟩ (by omega) cc_X2 rfl rfl hl.1 (Nat.le_of_ble_eq_true rfl) dX2_lose_12 rfl) (fun r4 t3 H locs hr4a hr4b h wd => ?_)
      try dsimp only at h
      refine getN C wd (k := r4) (Cn := RX0) (T := TX0) (N := 9) (v := .int (t3.1 (32 * r4 + 1))) (by omega) (cc_X0 (k := r4) (by omega) (by omega)) rfl 1 (by decide) rfl inX0 ns_15 dX2_lose_15 ?_
      refine lv_bipush (v := (60 : Int32)) hx hb dX2_lose_18 (by decide) ?_
      refine lv_icmp_lt (tgt := 26) hx hb dX2_lose_20 (by decide) (fun c5 => ?_) (fun c5 => ?_)
      · have h := h.1 c5
        obtain ⟨y6, ey6⟩ : ∃ y : Int32, y = x2 + (1 : Int32) := ⟨_, rfl⟩
        refine lv_iinc (v := y6) (lv' := [(2, .int y6), (0, .ref (ad 0)), (1, .int x1)]) hx hb dX2_lose_26 hl (k := 2) rfl (by rw [ey6]; rfl) (by decide) rfl (fun ls hl => ?_)
        have h := h y6 ey6
        refine lv_goto (tgt := 2) hx hb dX2_lose_29 (by decide) ?_
        exact hk_2 _ _ _ _ _ _ h wd (lv_sub hl [1, 2, 0] rfl)
      · have h := h.2 c5
        refine lv_bipush (v := (-4 : Int32)) hx hb dX2_lose_23 (by decide) ?_
        exact retI C wd h dX2_lose_25
def wpX2_lose (x1 : Int32) (σ : St) (Φ : Int32 → St → Prop) : Prop :=
  (∃ N, wlX2_lose_2 Φ N x1 (0 : Int32) σ)
set_option maxHeartbeats 4000000 in
set_option maxRecDepth 100000 in
theorem cmX2_lose {D : va_G} {cyI cyO : ClassId} {ad : Nat → Nat} {n : Nat} {l : Launch} (hn : 52 ≤ n) {x1 : Int32} {σ : St} {sz : Nat} {Φ : Int32 → St → Prop} (h : wpX2_lose x1 σ Φ) : gMet D (tyL cyI cyO) (cCell ad cyI cyO) ad n l yX2_lose cX2_lose 3 (some .int) rmX2_lose [.ref (ad 0), .int x1] σ sz (gQi D (cCell ad cyI cyO) ad n sz Φ) := by
  refine gMet.of (by decide) (Nat.le_of_ble_eq_true rfl) ?_
  intro p e s m below meth c ls hsz C hl wd
  subst hsz
  have C : Cx p s m _ meth c cX2_lose 3 (some .int) RX2 := C
  obtain ⟨hx, hb, hr, hml, hown, hts, hlk⟩ := id C
  have hl : lv_has ls 3 [(0, .ref (ad 0)), (1, .int x1)] := hl
  unfold wpX2_lose at h
  refine lv_iconst (v := (0 : Int32)) hx hb dX2_lose_0 (by decide) ?_
  refine lv_istore_n (lv' := [(2, .int (0 : Int32)), (0, .ref (ad 0)), (1, .int x1)]) hx hb dX2_lose_1 rfl hl (by decide) rfl (fun ls hl => ?_)
  obtain ⟨N, h⟩ := h
  exact llX2_lose_2 hn C N _ _ _ _ _ _ h wd (lv_sub hl [1, 2, 0] rfl)
end
