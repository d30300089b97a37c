section
variable {D : va_G} {cyI cyO : ClassId} {ad : Nat → Nat} {n : Nat}
abbrev rmX9_told : Room := rmOf 4 85
def wbX9_told_24 (Φ : Int32 → St → Prop) (z1 : Int32) (σ : St) : Prop :=
  wpX7_counted z1 σ (fun r2 t1 => Φ r2 t1)
set_option maxHeartbeats 4000000 in
set_option maxRecDepth 100000 in
theorem blX9_told_24 {p : Program} {l : Launch} {e : Env} {s : State} {m : MethodId} {args : Array Value} {below : List Frame} {meth : Method} {c : Code} (hn : 60 ≤ n) (C : Cx p s m args meth c cX9_told 2 (some .int) RX9) {Φ : Int32 → St → Prop} {z1 : Int32} {σ : St} {H : Heap} {locs : List Loc} {ls : Array Slot} (h : wbX9_told_24 Φ z1 σ) (wd : gWd D (tyL cyI cyO) (cCell ad cyI cyO) ad n s H locs σ) (hl : lv_has ls 2 []) : W p l e rmX9_told s m args below meth c H locs 0 0 (MQ below (gQi D (cCell ad cyI cyO) ad n s.heap.size Φ) args s 0 0 (gA ad n s.heap.size)) (F0 m 24 ls [.int z1, .ref (ad 59)]) := by
  obtain ⟨hx, hb, hr, hml, hown, hts, hlk⟩ := id C
  unfold wbX9_told_24 at h
  refine gCi wd (gRunV (y := yX7_counted) (k := 59) (As := [.int z1]) (rest := []) C wd (cmX7_counted (by omega) h) ⟨rfl, rfl⟩ gd_X9_41 nk_X7_counted ⟨Nat.le_of_ble_eq_true rfl, Nat.le_of_ble_eq_true rfl⟩ (by omega) cc_X7 rfl rfl hl.1 (Nat.le_of_ble_eq_true rfl) dX9_told_24 rfl) (fun r2 t1 H locs h wd => ?_)
  try dsimp only at h
  exact retI C wd h dX9_told_27
def wpX9_told (x1 : Int32) (σ : St) (Φ : Int32 → St → Prop) : Prop :=
  wpX9_within x1 (0 : Int32) (9 : Int32) σ (fun r2 t1 => ((r2 = 0 → wbX9_told_24 Φ (-2 : Int32) t1) ∧ (¬ r2 = 0 → wpX9_tell x1 t1 (fun r5 t4 => wbX9_told_24 Φ r5 t4))))
set_option maxHeartbeats 4000000 in
set_option maxRecDepth 100000 in
theorem cmX9_told {D : va_G} {cyI cyO : ClassId} {ad : Nat → Nat} {n : Nat} {l : Launch} (hn : 60 ≤ n) {x1 : Int32} {σ : St} {sz : Nat} {Φ : Int32 → St → Prop} (h : wpX9_told x1 σ Φ) : gMet D (tyL cyI cyO) (cCell ad cyI cyO) ad n l yX9_told cX9_told 2 (some .int) rmX9_told [.ref (ad 56), .int x1] σ sz (gQi D (cCell ad cyI cyO) ad n sz Φ) := by
  refine gMet.of (by decide) (Nat.le_of_ble_eq_true rfl) ?_
  intro p e s m below meth c ls hsz C hl wd
  subst hsz
  have C : Cx p s m _ meth c cX9_told 2 (some .int) RX9 := C
  obtain ⟨hx, hb, hr, hml, hown, hts, hlk⟩ := id C
  have hl : lv_has ls 2 [(0, .ref (ad 56)), (1, .int x1)] := hl
  unfold wpX9_told at h
  refine lv_aload_n hx hb dX9_told_0 rfl (lv_at hl 0 rfl) ?_
  refine getF C wd (k := 56) (Cn := RX9) (T := TX9) (N := 4) (v := .ref (ad 59)) (by omega) cc_X9 rfl 3 (by decide) rfl inX9 tw2_45 dX9_told_1 ?_
  refine lv_iload_n hx hb dX9_told_4 rfl (lv_at hl 1 rfl) ?_
  refine lv_iconst (v := (0 : Int32)) hx hb dX9_told_5 (by decide) ?_
  refine lv_bipush (v := (9 : Int32)) hx hb dX9_told_6 (by decide) ?_
  refine gCi wd (gRunS (y := yX9_within) (As := [.int x1, .int (0 : Int32), .int (9 : Int32)]) (rest := [.ref (ad 59)]) C wd (cmX9_within h) ⟨rfl, rfl⟩ gd_X9_37 nk_X9_within ⟨Nat.le_of_ble_eq_true rfl, Nat.le_of_ble_eq_true rfl⟩ hl.1 (Nat.le_of_ble_eq_true rfl) dX9_told_8 rfl) (fun r2 t1 H locs h wd => ?_)
  try dsimp only at h
  refine lv_if_eq (tgt := 22) hx hb dX9_told_11 (by decide) (fun c3 => ?_) (fun c3 => ?_)
  · have h := h.1 c3
    refine lv_bipush (v := (-2 : Int32)) hx hb dX9_told_22 (by decide) ?_
    exact blX9_told_24 hn C h wd (lv_sub hl [] rfl)
  · have h := h.2 c3
    refine lv_aload_n hx hb dX9_told_14 rfl (lv_at hl 0 rfl) ?_
    refine lv_iload_n hx hb dX9_told_15 rfl (lv_at hl 1 rfl) ?_
    refine gCi wd (gRunV (y := yX9_tell) (k := 56) (As := [.int x1]) (rest := [.ref (ad 59)]) C wd (cmX9_tell (by omega) h) ⟨rfl, rfl⟩ gd_X9_172 nk_X9_tell ⟨Nat.le_of_ble_eq_true rfl, Nat.le_of_ble_eq_true rfl⟩ (by omega) cc_X9 rfl rfl hl.1 (Nat.le_of_ble_eq_true rfl) dX9_told_16 rfl) (fun r5 t4 H locs h wd => ?_)
    try dsimp only at h
    refine lv_goto (tgt := 24) hx hb dX9_told_19 (by decide) ?_
    exact blX9_told_24 hn C h wd (lv_sub hl [] rfl)
abbrev rmX9_digest : Room := rmOf 5 111
def wlX9_digest_103_body (Φ : Int64 → St → Prop) (k_86 : Int64 → Int32 → St → Prop) (k_103 : Int64 → Int32 → Int32 → St → Prop) (x1 : Int64) (x3 : Int32) (x4 : Int32) (σ : St) : Prop :=
  (((4 : Int32) ≤ x4 → (∀ y2 : Int32, y2 = x3 + (1 : Int32) → k_86 x1 y2 σ)) ∧ (¬ (4 : Int32) ≤ x4 → wpX2_tellSaying x3 x4 σ (fun r4 t3 => (∀ y5 : Int64, y5 = ((31 : Int64) * x1) + r4.toInt64 → (∀ y6 : Int32, y6 = x4 + (1 : Int32) → k_103 y5 x3 y6 t3)))))
def wlX9_digest_103 (Φ : Int64 → St → Prop) (k_86 : Int64 → Int32 → St → Prop) : Nat → Int64 → Int32 → Int32 → St → Prop
  | 0 => fun _ _ _ _ => False
  | N + 1 => fun x1 x3 x4 σ => wlX9_digest_103_body Φ k_86 (wlX9_digest_103 Φ k_86 N) x1 x3 x4 σ
set_option maxHeartbeats 4000000 in
set_option maxRecDepth 100000 in
theorem llX9_digest_103 {p : Program} {l : Launch} {e : Env} {s : State} {m : MethodId} {args : Array Value} {below : List Frame} {meth : Method} {c : Code} (hn : 60 ≤ n) (C : Cx p s m args meth c cX9_digest 5 (some .long) RX9) {Φ : Int64 → St → Prop} {k_86 : Int64 → Int32 → St → Prop} (hk_86 : ∀ (x1 : Int64) (x3 : Int32) (σ : St) (H : Heap) (locs : List Loc) (ls : Array Slot), k_86 x1 x3 σ → gWd D (tyL cyI cyO) (cCell ad cyI cyO) ad n s H locs σ → lv_has ls 5 [(0, .ref (ad 56)), (1, .long x1), (3, .int x3)] → W p l e rmX9_digest s m args below meth c H locs 0 0 (MQ below (gQl D (cCell ad cyI cyO) ad n s.heap.size Φ) args s 0 0 (gA ad n s.heap.size)) (F0 m 86 ls [])) : ∀ (N : Nat) (x1 : Int64) (x3 : Int32) (x4 : Int32) (σ : St) (H : Heap) (locs : List Loc) (ls : Array Slot), wlX9_digest_103 Φ k_86 N x1 x3 x4 σ → gWd D (tyL cyI cyO) (cCell ad cyI cyO) ad n s H locs σ → lv_has ls 5 [(0, .ref (ad 56)), (1, .long x1), (3, .int x3), (4, .int x4)] → W p l e rmX9_digest s m args below meth c H locs 0 0 (MQ below (gQl D (cCell ad cyI cyO) ad n s.heap.size Φ) args s 0 0 (gA ad n s.heap.size)) (F0 m 103 ls []) := by
  obtain ⟨hx, hb, hr, hml, hown, hts, hlk⟩ := id C
  intro N
  induction N with
  | zero =>
    intro x1 x3 x4 σ H locs ls h
    exact False.elim h
  | succ N ih =>
    intro x1 x3 x4 σ H locs ls h wd hl
    have h : wlX9_digest_103_body Φ k_86 (wlX9_digest_103 Φ k_86 N) x1 x3 x4 σ := h
    have hk_103 := ih
    unfold wlX9_digest_103_body at h
    refine lv_iload hx hb dX9_digest_103 (lv_at hl 3 rfl) ?_
    refine lv_iconst (v := (4 : Int32)) hx hb dX9_digest_105 (by decide) ?_
    refine lv_icmp_ge (tgt := 133) hx hb dX9_digest_106 (by decide) (fun c1 => ?_) (fun c1 => ?_)
    · have h := h.1 c1
      obtain ⟨y2, ey2⟩ : ∃ y : Int32, y = x3 + (1 : Int32) := ⟨_, rfl⟩
      refine lv_iinc (v := y2) (lv' := [(3, .int y2), (0, .ref (ad 56)), (1, .long x1), (4, .int x4)]) hx hb dX9_digest_133 hl (k := 2) rfl (by rw [ey2]; rfl) (by decide) rfl (fun ls hl => ?_)
      have h := h y2 ey2
      refine lv_goto (tgt := 86) hx hb dX9_digest_136 (by decide) ?_
      exact hk_86 _ _ _ _ _ _ h wd (lv_sub hl [1, 2, 0] rfl)
    · have h := h.2 c1
      refine lv_ldc2 (v := (31 : Int64)) hx hb hown (hts _ tw4_19) dX9_digest_109 ?_
      refine lv_lload_n hx hb dX9_digest_112 rfl (lv_at hl 1 rfl) ?_
      refine lv_lmul hx hb dX9_digest_113 ?_
      refine lv_aload_n hx hb dX9_digest_114 rfl (lv_at hl 0 rfl) ?_
      refine getF C wd (k := 56) (Cn := RX9) (T := TX9) (N := 4) (v := .ref (ad 0)) (by omega) cc_X9 rfl 0 (by decide) rfl inX9 tw2_42 dX9_digest_115 ?_
      refine lv_iload_n hx hb dX9_digest_118 rfl (lv_at hl 2 rfl) ?_
      refine lv_iload hx hb dX9_digest_119 (lv_at hl 3 rfl) ?_
      refine gCi wd (gRunV (y := yX2_tellSaying) (k := 0) (As := [.int x3, .int x4]) (rest := [.long ((31 : Int64) * x1)]) C wd (cmX2_tellSaying (by omega) h) ⟨rfl, rfl⟩ gd_X9_121 nk_X2_tellSaying ⟨Nat.le_of_ble_eq_true rfl, Nat.le_of_ble_eq_true rfl⟩ (by omega) cc_X2 rfl rfl hl.1 (Nat.le_of_ble_eq_true rfl) dX9_digest_121 rfl) (fun r4 t3 H locs h wd => ?_)
      try dsimp only at h
      refine lv_i2l hx hb dX9_digest_124 rfl ?_
      refine lv_ladd hx hb dX9_digest_125 ?_
      refine lv_topl (fun y5 ey5 => ?_)
      have h := h y5 ey5
      refine lv_lstore_n (lv' := [(1, .long y5), (0, .ref (ad 56)), (3, .int x3), (4, .int x4)]) hx hb dX9_digest_126 rfl hl (by decide) rfl (fun ls hl => ?_)
      obtain ⟨y6, ey6⟩ : ∃ y : Int32, y = x4 + (1 : Int32) := ⟨_, rfl⟩
      refine lv_iinc (v := y6) (lv' := [(4, .int y6), (1, .long y5), (0, .ref (ad 56)), (3, .int x3)]) hx hb dX9_digest_127 hl (k := 3) rfl (by rw [ey6]; rfl) (by decide) rfl (fun ls hl => ?_)
      have h := h y6 ey6
      refine lv_goto (tgt := 103) hx hb dX9_digest_130 (by decide) ?_
      exact hk_103 _ _ _ _ _ _ _ h wd (lv_sub hl [2, 1, 3, 0] rfl)
def wlX9_digest_86_body (Φ : Int64 → St → Prop) (k_86 : Int64 → Int32 → St → Prop) (x1 : Int64) (x3 : Int32) (σ : St) : Prop :=
  (((σ.1 96) ≤ x3 → Φ x1 σ) ∧ (¬ (σ.1 96) ≤ x3 → (∃ N, wlX9_digest_103 Φ k_86 N x1 x3 (0 : Int32) σ)))
def wlX9_digest_86 (Φ : Int64 → St → Prop) : Nat → Int64 → Int32 → St → Prop
  | 0 => fun _ _ _ => False
  | N + 1 => fun x1 x3 σ => wlX9_digest_86_body Φ (wlX9_digest_86 Φ N) x1 x3 σ
set_option maxHeartbeats 4000000 in
set_option maxRecDepth 100000 in
theorem llX9_digest_86 {p : Program} {l : Launch} {e : Env} {s : State} {m : MethodId} {args : Array Value} {below : List Frame} {meth : Method} {c : Code} (hn : 60 ≤ n) (C : Cx p s m args meth c cX9_digest 5 (some .long) RX9) {Φ : Int64 → St → Prop} : ∀ (N : Nat) (x1 : Int64) (x3 : Int32) (σ : St) (H : Heap) (locs : List Loc) (ls : Array Slot), wlX9_digest_86 Φ N x1 x3 σ → gWd D (tyL cyI cyO) (cCell ad cyI cyO) ad n s H locs σ → lv_has ls 5 [(0, .ref (ad 56)), (1, .long x1), (3, .int x3)] → W p l e rmX9_digest s m args below meth c H locs 0 0 (MQ below (gQl D (cCell ad cyI cyO) ad n s.heap.size Φ) args s 0 0 (gA ad n s.heap.size)) (F0 m 86 ls []) := by
  obtain ⟨hx, hb, hr, hml, hown, hts, hlk⟩ := id C
  intro N
  induction N with
  | zero =>
    intro x1 x3 σ H locs ls h
    exact False.elim h
  | succ N ih =>
    intro x1 x3 σ H locs ls h wd hl
    have h : wlX9_digest_86_body Φ (wlX9_digest_86 Φ N) x1 x3 σ := h
    have hk_86 := ih
    unfold wlX9_digest_86_body at h
    refine lv_iload_n hx hb dX9_digest_86 rfl (lv_at hl 2 rfl) ?_
    refine lv_aload_n hx hb dX9_digest_87 rfl (lv_at hl 0 rfl) ?_
    refine getF C wd (k := 56) (Cn := RX9) (T := TX9) (N := 4) (v := .ref (ad 0)) (by omega) cc_X9 rfl 0 (by decide) rfl inX9 tw2_42 dX9_digest_88 ?_
    refine getN C wd (k := 0) (Cn := RX2) (T := TX2) (N := 6) (v := .ref (ad 3)) (by omega) cc_X2 rfl 4 (by decide) rfl inX2 ns_34 dX9_digest_91 ?_
    refine getN C wd (k := 3) (Cn := RX6) (T := TX6) (N := 6) (v := .int (σ.1 96)) (by omega) cc_X6 rfl 0 (by decide) rfl inX6 ns_8 dX9_digest_94 ?_
    refine lv_icmp_ge (tgt := 139) hx hb dX9_digest_97 (by decide) (fun c1 => ?_) (fun c1 => ?_)
    · have h := h.1 c1
      refine lv_lload_n hx hb dX9_digest_139 rfl (lv_at hl 1 rfl) ?_
      exact retL C wd h dX9_digest_140
    · have h := h.2 c1
      refine lv_iconst (v := (0 : Int32)) hx hb dX9_digest_100 (by decide) ?_
      refine lv_istore (lv' := [(4, .int (0 : Int32)), (0, .ref (ad 56)), (1, .long x1), (3, .int x3)]) hx hb dX9_digest_101 hl (by decide) rfl (fun ls hl => ?_)
      obtain ⟨N, h⟩ := h
      exact llX9_digest_103 hn C hk_86 N _ _ _ _ _ _ _ h wd (lv_sub hl [1, 2, 3, 0] rfl)
def wlX9_digest_47_body (Φ : Int64 → St → Prop) (k_33 : Int64 → Int32 → St → Prop) (k_47 : Int64 → Int32 → Int32 → St → Prop) (x1 : Int64) (x3 : Int32) (x4 : Int32) (σ : St) : Prop :=
  (((8 : Int32) ≤ x4 → (∀ y2 : Int32, y2 = x3 + (1 : Int32) → k_33 x1 y2 σ)) ∧ (¬ (8 : Int32) ≤ x4 → wpX2_tellClerk x3 x4 σ (fun r4 t3 => (∀ y5 : Int64, y5 = ((31 : Int64) * x1) + r4.toInt64 → (∀ y6 : Int32, y6 = x4 + (1 : Int32) → k_47 y5 x3 y6 t3)))))
def wlX9_digest_47 (Φ : Int64 → St → Prop) (k_33 : Int64 → Int32 → St → Prop) : Nat → Int64 → Int32 → Int32 → St → Prop
  | 0 => fun _ _ _ _ => False
  | N + 1 => fun x1 x3 x4 σ => wlX9_digest_47_body Φ k_33 (wlX9_digest_47 Φ k_33 N) x1 x3 x4 σ
set_option maxHeartbeats 4000000 in
set_option maxRecDepth 100000 in
theorem llX9_digest_47 {p : Program} {l : Launch} {e : Env} {s : State} {m : MethodId} {args : Array Value} {below : List Frame} {meth : Method} {c : Code} (hn : 60 ≤ n) (C : Cx p s m args meth c cX9_digest 5 (some .long) RX9) {Φ : Int64 → St → Prop} {k_33 : Int64 → Int32 → St → Prop} (hk_33 : ∀ (x1 : Int64) (x3 : Int32) (σ : St) (H : Heap) (locs : List Loc) (ls : Array Slot), k_33 x1 x3 σ → gWd D (tyL cyI cyO) (cCell ad cyI cyO) ad n s H locs σ → lv_has ls 5 [(0, .ref (ad 56)), (1, .long x1), (3, .int x3)] → W p l e rmX9_digest s m args below meth c H locs 0 0 (MQ below (gQl D (cCell ad cyI cyO) ad n s.heap.size Φ) args s 0 0 (gA ad n s.heap.size)) (F0 m 33 ls [])) : ∀ (N : Nat) (x1 : Int64) (x3 : Int32) (x4 : Int32) (σ : St) (H : Heap) (locs : List Loc) (ls : Array Slot), wlX9_digest_47 Φ k_33 N x1 x3 x4 σ → gWd D (tyL cyI cyO) (cCell ad cyI cyO) ad n s H locs σ → lv_has ls 5 [(0, .ref (ad 56)), (1, .long x1), (3, .int x3), (4, .int x4)] → W p l e rmX9_digest s m args below meth c H locs 0 0 (MQ below (gQl D (cCell ad cyI cyO) ad n s.heap.size Φ) args s 0 0 (gA ad n s.heap.size)) (F0 m 47 ls []) := by
  obtain ⟨hx, hb, hr, hml, hown, hts, hlk⟩ := id C
  intro N
  induction N with
  | zero =>
    intro x1 x3 x4 σ H locs ls h
    exact False.elim h
  | succ N ih =>
    intro x1 x3 x4 σ H locs ls h wd hl
    have h : wlX9_digest_47_body Φ k_33 (wlX9_digest_47 Φ k_33 N) x1 x3 x4 σ := h
    have hk_47 := ih
    unfold wlX9_digest_47_body at h
    refine lv_iload hx hb dX9_digest_47 (lv_at hl 3 rfl) ?_
    refine lv_bipush (v := (8 : Int32)) hx hb dX9_digest_49 (by decide) ?_
    refine lv_icmp_ge (tgt := 78) hx hb dX9_digest_51 (by decide) (fun c1 => ?_) (fun c1 => ?_)
    · have h := h.1 c1
      obtain ⟨y2, ey2⟩ : ∃ y : Int32, y = x3 + (1 : Int32) := ⟨_, rfl⟩
      refine lv_iinc (v := y2) (lv' := [(3, .int y2), (0, .ref (ad 56)), (1, .long x1), (4, .int x4)]) hx hb dX9_digest_78 hl (k := 2) rfl (by rw [ey2]; rfl) (by decide) rfl (fun ls hl => ?_)
      have h := h y2 ey2
      refine lv_goto (tgt := 33) hx hb dX9_digest_81 (by decide) ?_
      exact hk_33 _ _ _ _ _ _ h wd (lv_sub hl [1, 2, 0] rfl)
    · have h := h.2 c1
      refine lv_ldc2 (v := (31 : Int64)) hx hb hown (hts _ tw4_19) dX9_digest_54 ?_
      refine lv_lload_n hx hb dX9_digest_57 rfl (lv_at hl 1 rfl) ?_
      refine lv_lmul hx hb dX9_digest_58 ?_
      refine lv_aload_n hx hb dX9_digest_59 rfl (lv_at hl 0 rfl) ?_
      refine getF C wd (k := 56) (Cn := RX9) (T := TX9) (N := 4) (v := .ref (ad 0)) (by omega) cc_X9 rfl 0 (by decide) rfl inX9 tw2_42 dX9_digest_60 ?_
      refine lv_iload_n hx hb dX9_digest_63 rfl (lv_at hl 2 rfl) ?_
      refine lv_iload hx hb dX9_digest_64 (lv_at hl 3 rfl) ?_
      refine gCi wd (gRunV (y := yX2_tellClerk) (k := 0) (As := [.int x3, .int x4]) (rest := [.long ((31 : Int64) * x1)]) C wd (cmX2_tellClerk (by omega) h) ⟨rfl, rfl⟩ gd_X9_87 nk_X2_tellClerk ⟨Nat.le_of_ble_eq_true rfl, Nat.le_of_ble_eq_true rfl⟩ (by omega) cc_X2 rfl rfl hl.1 (Nat.le_of_ble_eq_true rfl) dX9_digest_66 rfl) (fun r4 t3 H locs h wd => ?_)
      try dsimp only at h
      refine lv_i2l hx hb dX9_digest_69 rfl ?_
      refine lv_ladd hx hb dX9_digest_70 ?_
      refine lv_topl (fun y5 ey5 => ?_)
      have h := h y5 ey5
      refine lv_lstore_n (lv' := [(1, .long y5), (0, .ref (ad 56)), (3, .int x3), (4, .int x4)]) hx hb dX9_digest_71 rfl hl (by decide) rfl (fun ls hl => ?_)
      obtain ⟨y6, ey6⟩ : ∃ y : Int32, y = x4 + (1 : Int32) := ⟨_, rfl⟩
      refine lv_iinc (v := y6) (lv' := [(4, .int y6), (1, .long y5), (0, .ref (ad 56)), (3, .int x3)]) hx hb dX9_digest_72 hl (k := 3) rfl (by rw [ey6]; rfl) (by decide) rfl (fun ls hl => ?_)
      have h := h y6 ey6
      refine lv_goto (tgt := 47) hx hb dX9_digest_75 (by decide) ?_
      exact hk_47 _ _ _ _ _ _ _ h wd (lv_sub hl [2, 1, 3, 0] rfl)
def wlX9_digest_33_body (Φ : Int64 → St → Prop) (k_33 : Int64 → Int32 → St → Prop) (x1 : Int64) (x3 : Int32) (σ : St) : Prop :=
  (((σ.1 0) ≤ x3 → (∃ N, wlX9_digest_86 Φ N x1 (0 : Int32) σ)) ∧ (¬ (σ.1 0) ≤ x3 → (∃ N, wlX9_digest_47 Φ k_33 N x1 x3 (0 : Int32) σ)))
def wlX9_digest_33 (Φ : Int64 → St → Prop) : Nat → Int64 → Int32 → St → Prop
  | 0 => fun _ _ _ => False
  | N + 1 => fun x1 x3 σ => wlX9_digest_33_body Φ (wlX9_digest_33 Φ N) x1 x3 σ
set_option maxHeartbeats 4000000 in
set_option maxRecDepth 100000 in
theorem llX9_digest_33 {p : Program} {l : Launch} {e : Env} {s : State} {m : MethodId} {args : Array Value} {below : List Frame} {meth : Method} {c : Code} (hn : 60 ≤ n) (C : Cx p s m args meth c cX9_digest 5 (some .long) RX9) {Φ : Int64 → St → Prop} : ∀ (N : Nat) (x1 : Int64) (x3 : Int32) (σ : St) (H : Heap) (locs : List Loc) (ls : Array Slot), wlX9_digest_33 Φ N x1 x3 σ → gWd D (tyL cyI cyO) (cCell ad cyI cyO) ad n s H locs σ → lv_has ls 5 [(0, .ref (ad 56)), (1, .long x1), (3, .int x3)] → W p l e rmX9_digest s m args below meth c H locs 0 0 (MQ below (gQl D (cCell ad cyI cyO) ad n s.heap.size Φ) args s 0 0 (gA ad n s.heap.size)) (F0 m 33 ls []) := by
  obtain ⟨hx, hb, hr, hml, hown, hts, hlk⟩ := id C
  intro N
  induction N with
  | zero =>
    intro x1 x3 σ H locs ls h
    exact False.elim h
  | succ N ih =>
    intro x1 x3 σ H locs ls h wd hl
    have h : wlX9_digest_33_body Φ (wlX9_digest_33 Φ N) x1 x3 σ := h
    have hk_33 := ih
    unfold wlX9_digest_33_body at h
    refine lv_iload_n hx hb dX9_digest_33 rfl (lv_at hl 2 rfl) ?_
    refine lv_aload_n hx hb dX9_digest_34 rfl (lv_at hl 0 rfl) ?_
    refine getF C wd (k := 56) (Cn := RX9) (T := TX9) (N := 4) (v := .ref (ad 0)) (by omega) cc_X9 rfl 0 (by decide) rfl inX9 tw2_42 dX9_digest_35 ?_
    refine getN C wd (k := 0) (Cn := RX2) (T := TX2) (N := 6) (v := .int (σ.1 0)) (by omega) cc_X2 rfl 0 (by decide) rfl inX2 ns_31 dX9_digest_38 ?_
    refine lv_icmp_ge (tgt := 84) hx hb dX9_digest_41 (by decide) (fun c1 => ?_) (fun c1 => ?_)
    · have h := h.1 c1
      refine lv_iconst (v := (0 : Int32)) hx hb dX9_digest_84 (by decide) ?_
      refine lv_istore_n (lv' := [(3, .int (0 : Int32)), (0, .ref (ad 56)), (1, .long x1)]) hx hb dX9_digest_85 rfl hl (by decide) rfl (fun ls hl => ?_)
      obtain ⟨N, h⟩ := h
      exact llX9_digest_86 hn C N _ _ _ _ _ _ h wd (lv_sub hl [1, 2, 0] rfl)
    · have h := h.2 c1
      refine lv_iconst (v := (0 : Int32)) hx hb dX9_digest_44 (by decide) ?_
      refine lv_istore (lv' := [(4, .int (0 : Int32)), (0, .ref (ad 56)), (1, .long x1), (3, .int x3)]) hx hb dX9_digest_45 hl (by decide) rfl (fun ls hl => ?_)
      obtain ⟨N, h⟩ := h
      exact llX9_digest_47 hn C hk_33 N _ _ _ _ _ _ _ h wd (lv_sub hl [1, 2, 3, 0] rfl)
def wlX9_digest_6_body (Φ : Int64 → St → Prop) (k_6 : Int64 → Int32 → St → Prop) (x1 : Int64) (x3 : Int32) (σ : St) : Prop :=
  (((10 : Int32) ≤ x3 → (∃ N, wlX9_digest_33 Φ N x1 (0 : Int32) σ)) ∧ (¬ (10 : Int32) ≤ x3 → wpX9_tell x3 σ (fun r3 t2 => (∀ y4 : Int64, y4 = ((31 : Int64) * x1) + r3.toInt64 → (∀ y5 : Int32, y5 = x3 + (1 : Int32) → k_6 y4 y5 t2)))))
def wlX9_digest_6 (Φ : Int64 → St → Prop) : Nat → Int64 → Int32 → St → Prop
  | 0 => fun _ _ _ => False
  | N + 1 => fun x1 x3 σ => wlX9_digest_6_body Φ (wlX9_digest_6 Φ N) x1 x3 σ
set_option maxHeartbeats 4000000 in
set_option maxRecDepth 100000 in
theorem llX9_digest_6 {p : Program} {l : Launch} {e : Env} {s : State} {m : MethodId} {args : Array Value} {below : List Frame} {meth : Method} {c : Code} (hn : 60 ≤ n) (C : Cx p s m args meth c cX9_digest 5 (some .long) RX9) {Φ : Int64 → St → Prop} : ∀ (N : Nat) (x1 : Int64) (x3 : Int32) (σ : St) (H : Heap) (locs : List Loc) (ls : Array Slot), wlX9_digest_6 Φ N x1 x3 σ → gWd D (tyL cyI cyO) (cCell ad cyI cyO) ad n s H locs σ → lv_has ls 5 [(0, .ref (ad 56)), (1, .long x1), (3, .int x3)] → W p l e rmX9_digest s m args below meth c H locs 0 0 (MQ below (gQl D (cCell ad cyI cyO) ad n s.heap.size Φ) args s 0 0 (gA ad n s.heap.size)) (F0 m 6 ls []) := by
  obtain ⟨hx, hb, hr, hml, hown, hts, hlk⟩ := id C
  intro N
  induction N with
  | zero =>
    intro x1 x3 σ H locs ls h
    exact False.elim h
  | succ N ih =>
    intro x1 x3 σ H locs ls h wd hl
    have h : wlX9_digest_6_body Φ (wlX9_digest_6 Φ N) x1 x3 σ := h
    have hk_6 := ih
    unfold wlX9_digest_6_body at h
    refine lv_iload_n hx hb dX9_digest_6 rfl (lv_at hl 2 rfl) ?_
    refine lv_bipush (v := (10 : Int32)) hx hb dX9_digest_7 (by decide) ?_
    refine lv_icmp_ge (tgt := 31) hx hb dX9_digest_9 (by decide) (fun c1 => ?_) (fun c1 => ?_)
    · have h := h.1 c1
      refine lv_iconst (v := (0 : Int32)) hx hb dX9_digest_31 (by decide) ?_
      refine lv_istore_n (lv' := [(3, .int (0 : Int32)), (0, .ref (ad 56)), (1, .long x1)]) hx hb dX9_digest_32 rfl hl (by decide) rfl (fun ls hl => ?_)
      obtain ⟨N, h⟩ := h
      exact llX9_digest_33 hn C N _ _ _ _ _ _ h wd (lv_sub hl [1, 2, 0] rfl)
    · have h := h.2 c1
      refine lv_ldc2 (v := (31 : Int64)) hx hb hown (hts _ tw4_19) dX9_digest_12 ?_
      refine lv_lload_n hx hb dX9_digest_15 rfl (lv_at hl 1 rfl) ?_
      refine lv_lmul hx hb dX9_digest_16 ?_
      refine lv_aload_n hx hb dX9_digest_17 rfl (lv_at hl 0 rfl) ?_
      refine lv_iload_n hx hb dX9_digest_18 rfl (lv_at hl 2 rfl) ?_
      refine gCi wd (gRunV (y := yX9_tell) (k := 56) (As := [.int x3]) (rest := [.long ((31 : Int64) * x1)]) C wd (cmX9_tell (by omega) h) ⟨rfl, rfl⟩ gd_X9_172 nk_X9_tell ⟨Nat.le_of_ble_eq_true rfl, Nat.le_of_ble_eq_true rfl⟩ (by omega) cc_X9 rfl rfl hl.1 (Nat.le_of_ble_eq_true rfl) dX9_digest_19 rfl) (fun r3 t2 H locs h wd => ?_)
      try dsimp only at h
      refine lv_i2l hx hb dX9_digest_22 rfl ?_
      refine lv_ladd hx hb dX9_digest_23 ?_
      refine lv_topl (fun y4 ey4 => ?_)
      have h := h y4 ey4
      refine lv_lstore_n (lv' := [(1, .long y4), (0, .ref (ad 56)), (3, .int x3)]) hx hb dX9_digest_24 rfl hl (by decide) rfl (fun ls hl => ?_)
      obtain ⟨y5, ey5⟩ : ∃ y : Int32, y = x3 + (1 : Int32) := ⟨_, rfl⟩
      refine lv_iinc (v := y5) (lv' := [(3, .int y5), (1, .long y4), (0, .ref (ad 56))]) hx hb dX9_digest_25 hl (k := 2) rfl (by rw [ey5]; rfl) (by decide) rfl (fun ls hl => ?_)
      have h := h y5 ey5
      refine lv_goto (tgt := 6) hx hb dX9_digest_28 (by decide) ?_
      exact hk_6 _ _ _ _ _ _ h wd (lv_sub hl [2, 1, 0] rfl)
def wpX9_digest (σ : St) (Φ : Int64 → St → Prop) : Prop :=
  (∃ N, wlX9_digest_6 Φ N (2099 : Int64) (0 : Int32) σ)
set_option maxHeartbeats 4000000 in
set_option maxRecDepth 100000 in
theorem cmX9_digest {D : va_G} {cyI cyO : ClassId} {ad : Nat → Nat} {n : Nat} {l : Launch} (hn : 60 ≤ n) {σ : St} {sz : Nat} {Φ : Int64 → St → Prop} (h : wpX9_digest σ Φ) : gMet D (tyL cyI cyO) (cCell ad cyI cyO) ad n l yX9_digest cX9_digest 5 (some .long) rmX9_digest [.ref (ad 56)] σ sz (gQl D (cCell ad cyI cyO) ad n sz Φ) := by
  refine gMet.of (by decide) (Nat.le_of_ble_eq_true rfl) ?_
  intro p e s m below meth c ls hsz C hl wd
  subst hsz
  have C : Cx p s m _ meth c cX9_digest 5 (some .long) RX9 := C
  obtain ⟨hx, hb, hr, hml, hown, hts, hlk⟩ := id C
  have hl : lv_has ls 5 [(0, .ref (ad 56))] := hl
  unfold wpX9_digest at h
  refine lv_ldc2 (v := (2099 : Int64)) hx hb hown (hts _ tw4_18) dX9_digest_0 ?_
  refine lv_lstore_n (lv' := [(1, .long (2099 : Int64)), (0, .ref (ad 56))]) hx hb dX9_digest_3 rfl hl (by decide) rfl (fun ls hl => ?_)
  refine lv_iconst (v := (0 : Int32)) hx hb dX9_digest_4 (by decide) ?_
  refine lv_istore_n (lv' := [(3, .int (0 : Int32)), (1, .long (2099 : Int64)), (0, .ref (ad 56))]) hx hb dX9_digest_5 rfl hl (by decide) rfl (fun ls hl => ?_)
  obtain ⟨N, h⟩ := h
  exact llX9_digest_6 hn C N _ _ _ _ _ _ h wd (lv_sub hl [2, 1, 0] rfl)
end
