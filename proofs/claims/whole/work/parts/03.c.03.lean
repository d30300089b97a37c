section
variable {D : va_G} {cyI cyO : ClassId} {ad : Nat → Nat} {n : Nat}
abbrev rmX6_countHeldBehind : Room := rmOf 3 65
def wbX6_countHeldBehind_28 (Φ : Int32 → St → Prop) (k_5 : Int32 → Int32 → Int32 → Int32 → St → Prop) (x1 : Int32) (x2 : Int32) (x3 : Int32) (x4 : Int32) (σ : St) : Prop :=
  (∀ y1 : Int32, y1 = x4 + (1 : Int32) → k_5 x1 x2 x3 y1 σ)
set_option maxHeartbeats 4000000 in
set_option maxRecDepth 100000 in
theorem blX6_countHeldBehind_28 {p : Program} {l : Launch} {e : Env} {s : State} {m : MethodId} {args : Array Value} {below : List Frame} {meth : Method} {c : Code} (hn : 52 ≤ n) (C : Cx p s m args meth c cX6_countHeldBehind 5 (some .int) RX6) {Φ : Int32 → St → Prop} {k_5 : Int32 → Int32 → Int32 → Int32 → St → Prop} (hk_5 : ∀ (x1 : Int32) (x2 : Int32) (x3 : Int32) (x4 : Int32) (σ : St) (H : Heap) (locs : List Loc) (ls : Array Slot), k_5 x1 x2 x3 x4 σ → gWd D (tyL cyI cyO) (cCell ad cyI cyO) ad n s H locs σ → lv_has ls 5 [(0, .ref (ad 3)), (1, .int x1), (2, .int x2), (3, .int x3), (4, .int x4)] → W p l e rmX6_countHeldBehind s m args below meth c H locs 0 0 (MQ below (gQi D (cCell ad cyI cyO) ad n s.heap.size Φ) args s 0 0 (gA ad n s.heap.size)) (F0 m 5 ls [])) {x1 : Int32} {x2 : Int32} {x3 : Int32} {x4 : Int32} {σ : St} {H : Heap} {locs : List Loc} {ls : Array Slot} (h : wbX6_countHeldBehind_28 Φ k_5 x1 x2 x3 x4 σ) (wd : gWd D (tyL cyI cyO) (cCell ad cyI cyO) ad n s H locs σ) (hl : lv_has ls 5 [(0, .ref (ad 3)), (1, .int x1), (2, .int x2), (3, .int x3), (4, .int x4)]) : W p l e rmX6_countHeldBehind s m args below meth c H locs 0 0 (MQ below (gQi D (cCell ad cyI cyO) ad n s.heap.size Φ) args s 0 0 (gA ad n s.heap.size)) (F0 m 28 ls []) := by
  obtain ⟨hx, hb, hr, hml, hown, hts, hlk⟩ := id C
  unfold wbX6_countHeldBehind_28 at h
  obtain ⟨y1, ey1⟩ : ∃ y : Int32, y = x4 + (1 : Int32) := ⟨_, rfl⟩
  refine lv_iinc (v := y1) (lv' := [(4, .int y1), (0, .ref (ad 3)), (1, .int x1), (2, .int x2), (3, .int x3)]) hx hb dX6_countHeldBehind_28 hl (k := 4) rfl (by rw [ey1]; rfl) (by decide) rfl (fun ls hl => ?_)
  have h := h y1 ey1
  refine lv_goto (tgt := 5) hx hb dX6_countHeldBehind_31 (by decide) ?_
  exact hk_5 _ _ _ _ _ _ _ _ h wd (lv_sub hl [1, 2, 3, 4, 0] rfl)
def wlX6_countHeldBehind_5_body (Φ : Int32 → St → Prop) (k_5 : Int32 → Int32 → Int32 → Int32 → St → Prop) (x1 : Int32) (x2 : Int32) (x3 : Int32) (x4 : Int32) (σ : St) : Prop :=
  (((σ.1 96) ≤ x4 → Φ x3 σ) ∧ (¬ (σ.1 96) ≤ x4 → wpX6_isHeldBehind x4 x1 x2 σ (fun r3 t2 => ((r3 = 0 → wbX6_countHeldBehind_28 Φ k_5 x1 x2 x3 x4 t2) ∧ (¬ r3 = 0 → (∀ y5 : Int32, y5 = x3 + (1 : Int32) → wbX6_countHeldBehind_28 Φ k_5 x1 x2 y5 x4 t2))))))
def wlX6_countHeldBehind_5 (Φ : Int32 → St → Prop) : Nat → Int32 → Int32 → Int32 → Int32 → St → Prop
  | 0 => fun _ _ _ _ _ => False
  | N + 1 => fun x1 x2 x3 x4 σ => wlX6_countHeldBehind_5_body Φ (wlX6_countHeldBehind_5 Φ N) x1 x2 x3 x4 σ
set_option maxHeartbeats 4000000 in
set_option maxRecDepth 100000 in
theorem llX6_countHeldBehind_5 {p : Program} {l : Launch} {e : Env} {s : State} {m : MethodId} {args : Array Value} {below : List Frame} {meth : Method} {c : Code} (hn : 52 ≤ n) (C : Cx p s m args meth c cX6_countHeldBehind 5 (some .int) RX6) {Φ : Int32 → St → Prop} : ∀ (N : Nat) (x1 : Int32) (x2 : Int32) (x3 : Int32) (x4 : Int32) (σ : St) (H : Heap) (locs : List Loc) (ls : Array Slot), wlX6_countHeldBehind_5 Φ N x1 x2 x3 x4 σ → gWd D (tyL cyI cyO) (cCell ad cyI cyO) ad n s H locs σ → lv_has ls 5 [(0, .ref (ad 3)), (1, .int x1), (2, .int x2), (3, .int x3), (4, .int x4)] → W p l e rmX6_countHeldBehind s m args below meth c H locs 0 0 (MQ below (gQi D (cCell ad cyI cyO) ad n s.heap.size Φ) args s 0 0 (gA ad n s.heap.size)) (F0 m 5 ls []) := by
  obtain ⟨hx, hb, hr, hml, hown, hts, hlk⟩ := id C
  intro N
  induction N with
  | zero =>
    intro x1 x2 x3 x4 σ H locs ls h
    exact False.elim h
  | succ N ih =>
    intro x1 x2 x3 x4 σ H locs ls h wd hl
    have h : wlX6_countHeldBehind_5_body Φ (wlX6_countHeldBehind_5 Φ N) x1 x2 x3 x4 σ := h
    have hk_5 := ih
    unfold wlX6_countHeldBehind_5_body at h
    refine lv_iload hx hb dX6_countHeldBehind_5 (lv_at hl 4 rfl) ?_
    refine lv_aload_n hx hb dX6_countHeldBehind_7 rfl (lv_at hl 0 rfl) ?_
    refine getF C wd (k := 3) (Cn := RX6) (T := TX6) (N := 6) (v := .int (σ.1 96)) (by omega) cc_X6 rfl 0 (by decide) rfl inX6 tw1_82 dX6_countHeldBehind_8 ?_
    refine lv_icmp_ge (tgt := 34) hx hb dX6_countHeldBehind_11 (by decide) (fun c1 => ?_) (fun c1 => ?_)
    · have h := h.1 c1
      refine lv_iload_n hx hb dX6_countHeldBehind_34 rfl (lv_at hl 3 rfl) ?_
      exact retI C wd h dX6_countHeldBehind_35
    · have h := h.2 c1
      refine lv_aload_n hx hb dX6_countHeldBehind_14 rfl (lv_at hl 0 rfl) ?_
      refine lv_iload hx hb dX6_countHeldBehind_15 (lv_at hl 4 rfl) ?_
      refine lv_iload_n hx hb dX6_countHeldBehind_17 rfl (lv_at hl 1 rfl) ?_
      refine lv_iload_n hx hb dX6_countHeldBehind_18 rfl (lv_at hl 2 rfl) ?_
      refine gCi wd (gRunV (y := yX6_isHeldBehind) (k := 3) (As := [.int x4, .int x1, .int x2]) (rest := []) C wd (cmX6_isHeldBehind (by omega) h) ⟨rfl, rfl⟩ gd_X6_43 nk_X6_isHeldBehind ⟨Nat.le_of_ble_eq_true rfl, Nat.le_of_ble_eq_true rfl⟩ (by omega) cc_X6 rfl rfl hl.1 (Nat.le_of_ble_eq_true rfl) dX6_countHeldBehind_19 rfl) (fun r3 t2 H locs h wd => ?_)
      try dsimp only at h
      refine lv_if_eq (tgt := 28) hx hb dX6_countHeldBehind_22 (by decide) (fun c4 => ?_) (fun c4 => ?_)
      · have h := h.1 c4
        exact blX6_countHeldBehind_28 hn C hk_5 h wd (lv_sub hl [0, 1, 2, 3, 4] rfl)
      · have h := h.2 c4
        obtain ⟨y5, ey5⟩ : ∃ y : Int32, y = x3 + (1 : Int32) := ⟨_, rfl⟩
        refine lv_iinc (v := y5) (lv' := [(3, .int y5), (0, .ref (ad 3)), (1, .int x1), (2, .int x2), (4, .int x4)]) hx hb dX6_countHeldBehind_25 hl (k := 3) rfl (by rw [ey5]; rfl) (by decide) rfl (fun ls hl => ?_)
        have h := h y5 ey5
        exact blX6_countHeldBehind_28 hn C hk_5 h wd (lv_sub hl [1, 2, 3, 0, 4] rfl)
def wpX6_countHeldBehind (x1 : Int32) (x2 : Int32) (σ : St) (Φ : Int32 → St → Prop) : Prop :=
  (∃ N, wlX6_countHeldBehind_5 Φ N x1 x2 (0 : Int32) (0 : Int32) σ)
set_option maxHeartbeats 4000000 in
set_option maxRecDepth 100000 in
theorem cmX6_countHeldBehind {D : va_G} {cyI cyO : ClassId} {ad : Nat → Nat} {n : Nat} {l : Launch} (hn : 52 ≤ n) {x1 : Int32} {x2 : Int32} {σ : St} {sz : Nat} {Φ : Int32 → St → Prop} (h : wpX6_countHeldBehind x1 x2 σ Φ) : gMet D (tyL cyI cyO) (cCell ad cyI cyO) ad n l yX6_countHeldBehind cX6_countHeldBehind 5 (some .int) rmX6_countHeldBehind [.ref (ad 3), .int x1, .int x2] σ sz (gQi D (cCell ad cyI cyO) ad n sz Φ) := by
  refine gMet.of (by decide) (Nat.le_of_ble_eq_true rfl) ?_
  intro p e s m below meth c ls hsz C hl wd
  subst hsz
  have C : Cx p s m _ meth c cX6_countHeldBehind 5 (some .int) RX6 := C
  obtain ⟨hx, hb, hr, hml, hown, hts, hlk⟩ := id C
  have hl : lv_has ls 5 [(0, .ref (ad 3)), (1, .int x1), (2, .int x2)] := hl
  unfold wpX6_countHeldBehind at h
  refine lv_iconst (v := (0 : Int32)) hx hb dX6_countHeldBehind_0 (by decide) ?_
  refine lv_istore_n (lv' := [(3, .int (0 : Int32)), (0, .ref (ad 3)), (1, .int x1), (2, .int x2)]) hx hb dX6_countHeldBehind_1 rfl hl (by decide) rfl (fun ls hl => ?_)
  refine lv_iconst (v := (0 : Int32)) hx hb dX6_countHeldBehind_2 (by decide) ?_
  refine lv_istore (lv' := [(4, .int (0 : Int32)), (3, .int (0 : Int32)), (0, .ref (ad 3)), (1, .int x1), (2, .int x2)]) hx hb dX6_countHeldBehind_3 hl (by decide) rfl (fun ls hl => ?_)
  obtain ⟨N, h⟩ := h
  exact llX6_countHeldBehind_5 hn C N _ _ _ _ _ _ _ _ h wd (lv_sub hl [2, 3, 4, 1, 0] rfl)
abbrev rmX2_tellLoss : Room := rmOf 4 92
def wlX2_tellLoss_39_body (Φ : Int32 → St → Prop) (k_39 : Int32 → Int32 → St → Prop) (x3 : Int32) (x4 : Int32) (σ : St) : Prop :=
  (((σ.1 0) ≤ x4 → Φ x3 σ) ∧ (¬ (σ.1 0) ≤ x4 → wpX1_keptBy x4 σ (fun r3 t2 => wpX6_countHeldBehind x4 r3 t2 (fun r5 t4 => (∀ y6 : Int32, y6 = x3 + r5 → (∀ y7 : Int32, y7 = x4 + (1 : Int32) → k_39 y6 y7 t4))))))
def wlX2_tellLoss_39 (Φ : Int32 → St → Prop) : Nat → Int32 → Int32 → St → Prop
  | 0 => fun _ _ _ => False
  | N + 1 => fun x3 x4 σ => wlX2_tellLoss_39_body Φ (wlX2_tellLoss_39 Φ N) x3 x4 σ
set_option maxHeartbeats 4000000 in
set_option maxRecDepth 100000 in
theorem llX2_tellLoss_39 {p : Program} {l : Launch} {e : Env} {s : State} {m : MethodId} {args : Array Value} {below : List Frame} {meth : Method} {c : Code} (hn : 52 ≤ n) (C : Cx p s m args meth c cX2_tellLoss 5 (some .int) RX2) {Φ : Int32 → St → Prop} : ∀ (N : Nat) (x3 : Int32) (x4 : Int32) (σ : St) (H : Heap) (locs : List Loc) (ls : Array Slot), wlX2_tellLoss_39 Φ N x3 x4 σ → gWd D (tyL cyI cyO) (cCell ad cyI cyO) ad n s H locs σ → lv_has ls 5 [(0, .ref (ad 0)), (3, .int x3), (4, .int x4)] → W p l e rmX2_tellLoss s m args below meth c H locs 0 0 (MQ below (gQi D (cCell ad cyI cyO) ad n s.heap.size Φ) args s 0 0 (gA ad n s.heap.size)) (F0 m 39 ls []) := by
  obtain ⟨hx, hb, hr, hml, hown, hts, hlk⟩ := id C
  intro N
  induction N with
  | zero =>
    intro x3 x4 σ H locs ls h
    exact False.elim h
  | succ N ih =>
    intro x3 x4 σ H locs ls h wd hl
    have h : wlX2_tellLoss_39_body Φ (wlX2_tellLoss_39 Φ N) x3 x4 σ := h
    have hk_39 := ih
    unfold wlX2_tellLoss_39_body at h
    refine lv_iload hx hb dX2_tellLoss_39 (lv_at hl 2 rfl) ?_
    refine lv_aload_n hx hb dX2_tellLoss_41 rfl (lv_at hl 0 rfl) ?_
    refine getF C wd (k := 0) (Cn := RX2) (T := TX2) (N := 6) (v := .int (σ.1 0)) (by omega) cc_X2 rfl 0 (by decide) rfl inX2 tw1_195 dX2_tellLoss_42 ?_
    refine lv_icmp_ge (tgt := 75) hx hb dX2_tellLoss_45 (by decide) (fun c1 => ?_) (fun c1 => ?_)
    · have h := h.1 c1
      refine lv_iload_n hx hb dX2_tellLoss_75 rfl (lv_at hl 1 rfl) ?_
      exact retI C wd h dX2_tellLoss_76
    · have h := h.2 c1
      refine lv_iload_n hx hb dX2_tellLoss_48 rfl (lv_at hl 1 rfl) ?_
      refine lv_aload_n hx hb dX2_tellLoss_49 rfl (lv_at hl 0 rfl) ?_
      refine getF C wd (k := 0) (Cn := RX2) (T := TX2) (N := 6) (v := .ref (ad 3)) (by omega) cc_X2 rfl 4 (by decide) rfl inX2 tw1_203 dX2_tellLoss_50 ?_
      refine lv_iload hx hb dX2_tellLoss_53 (lv_at hl 2 rfl) ?_
      refine lv_aload_n hx hb dX2_tellLoss_55 rfl (lv_at hl 0 rfl) ?_
      refine getF C wd (k := 0) (Cn := RX2) (T := TX2) (N := 6) (v := .ref (ad 4)) (by omega) cc_X2 rfl 5 (by decide) rfl inX2 tw1_205 dX2_tellLoss_56 ?_
      refine lv_iload hx hb dX2_tellLoss_59 (lv_at hl 2 rfl) ?_
      refine gCi wd (gRunV (y := yX1_keptBy) (k := 4) (As := [.int x4]) (rest := [.int x4, .ref (ad 3), .int x3]) C wd (cmX1_keptBy (by omega) h) ⟨rfl, rfl⟩ gd_X2_125 nk_X1_keptBy ⟨Nat.le_of_ble_eq_true rfl, Nat.le_of_ble_eq_true rfl⟩ (by omega) cc_X1 rfl rfl hl.1 (Nat.le_of_ble_eq_true rfl) dX2_tellLoss_61 rfl) (fun r3 t2 H locs h wd => ?_)
      try dsimp only at h
      refine gCi wd (gRunV (y := yX6_countHeldBehind) (k := 3) (As := [.int x4, .int r3]) (rest := [.int x3]) C wd (cmX6_countHeldBehind (by omega) h) ⟨rfl, rfl⟩ gd_X2_142 nk_X6_countHeldBehind ⟨Nat.le_of_ble_eq_true rfl, Nat.le_of_ble_eq_true rfl⟩ (by omega) cc_X6 rfl rfl hl.1 (Nat.le_of_ble_eq_true rfl) dX2_tellLoss_64 rfl) (fun r5 t4 H locs h wd => ?_)
      try dsimp only at h
      refine lv_iadd hx hb dX2_tellLoss_67 ?_
      refine lv_topi (fun y6 ey6 => ?_)
      have h := h y6 ey6
      refine lv_istore_n (lv' := [(3, .int y6), (0, .ref (ad 0)), (4, .int x4)]) hx hb dX2_tellLoss_68 rfl hl (by decide) rfl (fun ls hl => ?_)
      obtain ⟨y7, ey7⟩ : ∃ y : Int32, y = x4 + (1 : Int32) := ⟨_, rfl⟩
      refine lv_iinc (v := y7) (lv' := [(4, .int y7), (3, .int y6), (0, .ref (ad 0))]) hx hb dX2_tellLoss_69 hl (k := 2) rfl (by rw [ey7]; rfl) (by decide) rfl (fun ls hl => ?_)
      have h := h y7 ey7
      refine lv_goto (tgt := 39) hx hb dX2_tellLoss_72 (by decide) ?_
      exact hk_39 _ _ _ _ _ _ h wd (lv_sub hl [2, 1, 0] rfl)
def wpX2_tellLoss (x1 : Int32) (x2 : Int32) (σ : St) (Φ : Int32 → St → Prop) : Prop :=
  wpX1_foresee x1 σ (fun t1 => ((x2 = 0 → wpX1_pagesGone t1 (fun r7 t6 => Φ r7 t6)) ∧ (¬ x2 = 0 → ((x2 = (1 : Int32) → wpX1_clerksFelled t1 (fun r5 t4 => Φ r5 t4)) ∧ (¬ x2 = (1 : Int32) → (∃ N, wlX2_tellLoss_39 Φ N (0 : Int32) (0 : Int32) t1))))))
set_option maxHeartbeats 4000000 in
set_option maxRecDepth 100000 in
theorem cmX2_tellLoss {D : va_G} {cyI cyO : ClassId} {ad : Nat → Nat} {n : Nat} {l : Launch} (hn : 52 ≤ n) {x1 : Int32} {x2 : Int32} {σ : St} {sz : Nat} {Φ : Int32 → St → Prop} (h : wpX2_tellLoss x1 x2 σ Φ) : gMet D (tyL cyI cyO) (cCell ad cyI cyO) ad n l yX2_tellLoss cX2_tellLoss 5 (some .int) rmX2_tellLoss [.ref (ad 0), .int x1, .int x2] σ sz (gQi D (cCell ad cyI cyO) ad n sz Φ) := by
  refine gMet.of (by decide) (Nat.le_of_ble_eq_true rfl) ?_
  intro p e s m below meth c ls hsz C hl wd
  subst hsz
  have C : Cx p s m _ meth c cX2_tellLoss 5 (some .int) RX2 := C
  obtain ⟨hx, hb, hr, hml, hown, hts, hlk⟩ := id C
  have hl : lv_has ls 5 [(0, .ref (ad 0)), (1, .int x1), (2, .int x2)] := hl
  unfold wpX2_tellLoss at h
  refine lv_aload_n hx hb dX2_tellLoss_0 rfl (lv_at hl 0 rfl) ?_
  refine getF C wd (k := 0) (Cn := RX2) (T := TX2) (N := 6) (v := .ref (ad 4)) (by omega) cc_X2 rfl 5 (by decide) rfl inX2 tw1_205 dX2_tellLoss_1 ?_
  refine lv_aload_n hx hb dX2_tellLoss_4 rfl (lv_at hl 0 rfl) ?_
  refine lv_iload_n hx hb dX2_tellLoss_5 rfl (lv_at hl 1 rfl) ?_
  refine gCv wd (gRunV (y := yX1_foresee) (k := 4) (As := [.ref (ad 0), .int x1]) (rest := []) C wd (cmX1_foresee (by omega) h) ⟨rfl, rfl⟩ gd_X2_118 nk_X1_foresee ⟨Nat.le_of_ble_eq_true rfl, Nat.le_of_ble_eq_true rfl⟩ (by omega) cc_X1 rfl rfl hl.1 (Nat.le_of_ble_eq_true rfl) dX2_tellLoss_6 rfl) (fun t1 H locs h wd => ?_)
  try dsimp only at h
  refine lv_iload_n hx hb dX2_tellLoss_9 rfl (lv_at hl 2 rfl) ?_
  refine lv_if_ne (tgt := 21) hx hb dX2_tellLoss_10 (by decide) (fun c2 => ?_) (fun c2 => ?_)
  · have h := h.2 c2
    refine lv_iload_n hx hb dX2_tellLoss_21 rfl (lv_at hl 2 rfl) ?_
    refine lv_iconst (v := (1 : Int32)) hx hb dX2_tellLoss_22 (by decide) ?_
    refine lv_icmp_ne (tgt := 34) hx hb dX2_tellLoss_23 (by decide) (fun c3 => ?_) (fun c3 => ?_)
    · have h := h.2 c3
      refine lv_iconst (v := (0 : Int32)) hx hb dX2_tellLoss_34 (by decide) ?_
      refine lv_istore_n (lv' := [(3, .int (0 : Int32)), (0, .ref (ad 0)), (1, .int x1), (2, .int x2)]) hx hb dX2_tellLoss_35 rfl hl (by decide) rfl (fun ls hl => ?_)
      refine lv_iconst (v := (0 : Int32)) hx hb dX2_tellLoss_36 (by decide) ?_
      refine lv_istore (lv' := [(4, .int (0 : Int32)), (3, .int (0 : Int32)), (0, .ref (ad 0)), (1, .int x1), (2, .int x2)]) hx hb dX2_tellLoss_37 hl (by decide) rfl (fun ls hl => ?_)
      obtain ⟨N, h⟩ := h
      exact llX2_tellLoss_39 hn C N _ _ _ _ _ _ h wd (lv_sub hl [2, 1, 0] rfl)
    · have h := h.1 c3
      refine lv_aload_n hx hb dX2_tellLoss_26 rfl (lv_at hl 0 rfl) ?_
      refine getF C wd (k := 0) (Cn := RX2) (T := TX2) (N := 6) (v := .ref (ad 4)) (by omega) cc_X2 rfl 5 (by decide) rfl inX2 tw1_205 dX2_tellLoss_27 ?_
      refine gCi wd (gRunV (y := yX1_clerksFelled) (k := 4) (As := []) (rest := []) C wd (cmX1_clerksFelled (by omega) h) ⟨rfl, rfl⟩ gd_X2_139 nk_X1_clerksFelled ⟨Nat.le_of_ble_eq_true rfl, Nat.le_of_ble_eq_true rfl⟩ (by omega) cc_X1 rfl rfl hl.1 (Nat.le_of_ble_eq_true rfl) dX2_tellLoss_30 rfl) (fun r5 t4 H locs h wd => ?_)
      try dsimp only at h
      exact retI C wd h dX2_tellLoss_33
  · have h := h.1 c2
    refine lv_aload_n hx hb dX2_tellLoss_13 rfl (lv_at hl 0 rfl) ?_
    refine getF C wd (k := 0) (Cn := RX2) (T := TX2) (N := 6) (v := .ref (ad 4)) (by omega) cc_X2 rfl 5 (by decide) rfl inX2 tw1_205 dX2_tellLoss_14 ?_
    refine gCi wd (gRunV (y := yX1_pagesGone) (k := 4) (As := []) (rest := []) C wd (cmX1_pagesGone (by omega) h) ⟨rfl, rfl⟩ gd_X2_135 nk_X1_pagesGone ⟨Nat.le_of_ble_eq_true rfl, Nat.le_of_ble_eq_true rfl⟩ (by omega) cc_X1 rfl rfl hl.1 (Nat.le_of_ble_eq_true rfl) dX2_tellLoss_17 rfl) (fun r7 t6 H locs h wd => ?_)
    try dsimp only at h
    exact retI C wd h dX2_tellLoss_20
abbrev rmX2_worstClerk : Room := rmOf 5 116
def wbX2_worstClerk_33 (Φ : Int32 → St → Prop) (k_6 : Int32 → Int32 → Int32 → St → Prop) (x1 : Int32) (x2 : Int32) (x3 : Int32) (σ : St) : Prop :=
  (∀ y1 : Int32, y1 = x3 + (1 : Int32) → k_6 x1 x2 y1 σ)
set_option maxHeartbeats 4000000 in
set_option maxRecDepth 100000 in
theorem blX2_worstClerk_33 {p : Program} {l : Launch} {e : Env} {s : State} {m : MethodId} {args : Array Value} {below : List Frame} {meth : Method} {c : Code} (hn : 52 ≤ n) (C : Cx p s m args meth c cX2_worstClerk 5 (some .int) RX2) {Φ : Int32 → St → Prop} {k_6 : Int32 → Int32 → Int32 → St → Prop} (hk_6 : ∀ (x1 : Int32) (x2 : Int32) (x3 : Int32) (σ : St) (H : Heap) (locs : List Loc) (ls : Array Slot), k_6 x1 x2 x3 σ → gWd D (tyL cyI cyO) (cCell ad cyI cyO) ad n s H locs σ → lv_has ls 5 [(0, .ref (ad 0)), (1, .int x1), (2, .int x2), (3, .int x3)] → W p l e rmX2_worstClerk s m args below meth c H locs 0 0 (MQ below (gQi D (cCell ad cyI cyO) ad n s.heap.size Φ) args s 0 0 (gA ad n s.heap.size)) (F0 m 6 ls [])) {x1 : Int32} {x2 : Int32} {x3 : Int32} {σ : St} {H : Heap} {locs : List Loc} {ls : Array Slot} (h : wbX2_worstClerk_33 Φ k_6 x1 x2 x3 σ) (wd : gWd D (tyL cyI cyO) (cCell ad cyI cyO) ad n s H locs σ) (hl : lv_has ls 5 [(0, .ref (ad 0)), (1, .int x1), (2, .int x2), (3, .int x3)]) : W p l e rmX2_worstClerk s m args below meth c H locs 0 0 (MQ below (gQi D (cCell ad cyI cyO) ad n s.heap.size Φ) args s 0 0 (gA ad n s.heap.size)) (F0 m 33 ls []) := by
  obtain ⟨hx, hb, hr, hml, hown, hts, hlk⟩ := id C
  unfold wbX2_worstClerk_33 at h
  obtain ⟨y1, ey1⟩ : ∃ y : Int32, y = x3 + (1 : Int32) := ⟨_, rfl⟩
  refine lv_iinc (v := y1) (lv' := [(3, .int y1), (0, .ref (ad 0)), (1, .int x1), (2, .int x2)]) hx hb dX2_worstClerk_33 hl (k := 3) rfl (by rw [ey1]; rfl) (by decide) rfl (fun ls hl => ?_)
  have h := h y1 ey1
  refine lv_goto (tgt := 6) hx hb dX2_worstClerk_36 (by decide) ?_
  exact hk_6 _ _ _ _ _ _ _ h wd (lv_sub hl [1, 2, 3, 0] rfl)
def wlX2_worstClerk_6_body (Φ : Int32 → St → Prop) (k_6 : Int32 → Int32 → Int32 → St → Prop) (x1 : Int32) (x2 : Int32) (x3 : Int32) (σ : St) : Prop :=
  (((σ.1 0) ≤ x3 → Φ x1 σ) ∧ (¬ (σ.1 0) ≤ x3 → wpX2_tellLoss x3 (0 : Int32) σ (fun r3 t2 => ((r3 ≤ x2 → wbX2_worstClerk_33 Φ k_6 x1 x2 x3 t2) ∧ (¬ r3 ≤ x2 → wbX2_worstClerk_33 Φ k_6 x3 r3 x3 t2)))))
def wlX2_worstClerk_6 (Φ : Int32 → St → Prop) : Nat → Int32 → Int32 → Int32 → St → Prop
  | 0 => fun _ _ _ _ => False
  | N + 1 => fun x1 x2 x3 σ => wlX2_worstClerk_6_body Φ (wlX2_worstClerk_6 Φ N) x1 x2 x3 σ
set_option maxHeartbeats 4000000 in
set_option maxRecDepth 100000 in
theorem llX2_worstClerk_6 {p : Program} {l : Launch} {e : Env} {s : State} {m : MethodId} {args : Array Value} {below : List Frame} {meth : Method} {c : Code} (hn : 52 ≤ n) (C : Cx p s m args meth c cX2_worstClerk 5 (some .int) RX2) {Φ : Int32 → St → Prop} : ∀ (N : Nat) (x1 : Int32) (x2 : Int32) (x3 : Int32) (σ : St) (H : Heap) (locs : List Loc) (ls : Array Slot), wlX2_worstClerk_6 Φ N x1 x2 x3 σ → gWd D (tyL cyI cyO) (cCell ad cyI cyO) ad n s H locs σ → lv_has ls 5 [(0, .ref (ad 0)), (1, .int x1), (2, .int x2), (3, .int x3)] → W p l e rmX2_worstClerk s m args below meth c H locs 0 0 (MQ below (gQi D (cCell ad cyI cyO) ad n s.heap.size Φ) args s 0 0 (gA ad n s.heap.size)) (F0 m 6 ls []) := by
  obtain ⟨hx, hb, hr, hml, hown, hts, hlk⟩ := id C
  intro N
  induction N with
  | zero =>
    intro x1 x2 x3 σ H locs ls h
    exact False.elim h
  | succ N ih =>
    intro x1 x2 x3 σ H locs ls h wd hl
    have h : wlX2_worstClerk_6_body Φ (wlX2_worstClerk_6 Φ N) x1 x2 x3 σ := h
    have hk_6 := ih
    unfold wlX2_worstClerk_6_body at h
    refine lv_iload_n hx hb dX2_worstClerk_6 rfl (lv_at hl 3 rfl) ?_
    refine lv_aload_n hx hb dX2_worstClerk_7 rfl (lv_at hl 0 rfl) ?_
    refine getF C wd (k := 0) (Cn := RX2) (T := TX2) (N := 6) (v := .int (σ.1 0)) (by omega) cc_X2 rfl 0 (by decide) rfl inX2 tw1_195 dX2_worstClerk_8 ?_
    refine lv_icmp_ge (tgt := 39) hx hb dX2_worstClerk_11 (by decide) (fun c1 => ?_) (fun c1 => ?_)
    · have h := h.1 c1
      refine lv_iload_n hx hb dX2_worstClerk_39 rfl (lv_at hl 1 rfl) ?_
      exact retI C wd h dX2_worstClerk_40
    · have h := h.2 c1
      refine lv_aload_n hx hb dX2_worstClerk_14 rfl (lv_at hl 0 rfl) ?_
      refine lv_iload_n hx hb dX2_worstClerk_15 rfl (lv_at hl 3 rfl) ?_
      refine lv_iconst (v := (0 : Int32)) hx hb dX2_worstClerk_16 (by decide) ?_
      refine gCi wd (gRunV (y := yX2_tellLoss) (k := 0) (As := [.int x3, .int (0 : Int32)]) (rest := []) C wd (cmX2_tellLoss (by omega) h) ⟨rfl, rfl⟩ gd_X2_145 nk_X2_tellLoss ⟨Nat.le_of_ble_eq_true rfl, Nat.le_of_ble_eq_true rfl⟩ (by omega) cc_X2 rfl rfl hl.1 (Nat.le_of_ble_eq_true rfl) dX2_worstClerk_17 rfl) (fun r3 t2 H locs h wd => ?_)
      try dsimp only at h
      refine lv_istore (lv' := [(4, .int r3), (0, .ref (ad 0)), (1, .int x1), (2, .int x2), (3, .int x3)]) hx hb dX2_worstClerk_20 hl (by decide) rfl (fun ls hl => ?_)
      refine lv_iload hx hb dX2_worstClerk_22 (lv_at hl 0 rfl) ?_
      refine lv_iload_n hx hb dX2_worstClerk_24 rfl (lv_at hl 3 rfl) ?_
      refine lv_icmp_le (tgt := 33) hx hb dX2_worstClerk_25 (by decide) (fun c4 => ?_) (fun c4 => ?_)
      · have h := h.1 c4
        exact blX2_worstClerk_33 hn C hk_6 h wd (lv_sub hl [1, 2, 3, 4] rfl)
      · have h := h.2 c4
        refine lv_iload_n hx hb dX2_worstClerk_28 rfl (lv_at hl 4 rfl) ?_
        refine lv_istore_n (lv' := [(1, .int x3), (4, .int r3), (0, .ref (ad 0)), (2, .int x2), (3, .int x3)]) hx hb dX2_worstClerk_29 rfl hl (by decide) rfl (fun ls hl => ?_)
        refine lv_iload hx hb dX2_worstClerk_30 (lv_at hl 1 rfl) ?_
        refine lv_istore_n (lv' := [(2, .int r3), (1, .int x3), (4, .int r3), (0, .ref (ad 0)), (3, .int x3)]) hx hb dX2_worstClerk_32 rfl hl (by decide) rfl (fun ls hl => ?_)
        exact blX2_worstClerk_33 hn C hk_6 h wd (lv_sub hl [3, 1, 0, 4] rfl)
def wpX2_worstClerk (σ : St) (Φ : Int32 → St → Prop) : Prop :=
  (∃ N, wlX2_worstClerk_6 Φ N (0 : Int32) (0 : Int32) (0 : Int32) σ)
set_option maxHeartbeats 4000000 in
set_option maxRecDepth 100000 in
theorem cmX2_worstClerk {D : va_G} {cyI cyO : ClassId} {ad : Nat → Nat} {n : Nat} {l : Launch} (hn : 52 ≤ n) {σ : St} {sz : Nat} {Φ : Int32 → St → Prop} (h : wpX2_worstClerk σ Φ) : gMet D (tyL cyI cyO) (cCell ad cyI cyO) ad n l yX2_worstClerk cX2_worstClerk 5 (some .int) rmX2_worstClerk [.ref (ad 0)] σ sz (gQi D (cCell ad cyI cyO) ad n sz Φ) := by
  refine gMet.of (by decide) (Nat.le_of_ble_eq_true rfl) ?_
  intro p e s m below meth c ls hsz C hl wd
  subst hsz
  have C : Cx p s m _ meth c cX2_worstClerk 5 (some .int) RX2 := C
  obtain ⟨hx, hb, hr, hml, hown, hts, hlk⟩ := id C
  have hl : lv_has ls 5 [(0, .ref (ad 0))] := hl
  unfold wpX2_worstClerk at h
  refine lv_iconst (v := (0 : Int32)) hx hb dX2_worstClerk_0 (by decide) ?_
  refine lv_istore_n (lv' := [(1, .int (0 : Int32)), (0, .ref (ad 0))]) hx hb dX2_worstClerk_1 rfl hl (by decide) rfl (fun ls hl => ?_)
  refine lv_iconst (v := (0 : Int32)) hx hb dX2_worstClerk_2 (by decide) ?_
  refine lv_istore_n (lv' := [(2, .int (0 : Int32)), (1, .int (0 : Int32)), (0, .ref (ad 0))]) hx hb dX2_worstClerk_3 rfl hl (by decide) rfl (fun ls hl => ?_)
  refine lv_iconst (v := (0 : Int32)) hx hb dX2_worstClerk_4 (by decide) ?_
  refine lv_istore_n (lv' := [(3, .int (0 : Int32)), (2, .int (0 : Int32)), (1, .int (0 : Int32)), (0, .ref (ad 0))]) hx hb dX2_worstClerk_5 rfl hl (by decide) rfl (fun ls hl => ?_)
  obtain ⟨N, h⟩ := h
  exact llX2_worstClerk_6 hn C N _ _ _ _ _ _ _ h wd (lv_sub hl [3, 2, 1, 0] rfl)
abbrev rmX2_isWrittenBelow : Room := rmOf 2 43
def wlX2_isWrittenBelow_2_body (Φ : Int32 → St → Prop) (k_2 : Int32 → Int32 → Int32 → St → Prop) (x1 : Int32) (x2 : Int32) (x3 : Int32) (σ : St) : Prop :=
  (((σ.1 0) ≤ x3 → Φ (1 : Int32) σ) ∧ (¬ (σ.1 0) ≤ x3 → wpX2_clerk x1 σ (fun r3 t2 => wpX5_pageOf (r3 + 5) x2 x3 t2 (fun r5 t4 => wpX2_clerk x3 t4 (fun r7 t6 => ((r5 ≤ (t6.1 (32 * r7 + 3)) → (∀ y9 : Int32, y9 = x3 + (1 : Int32) → k_2 x1 x2 y9 t6)) ∧ (¬ r5 ≤ (t6.1 (32 * r7 + 3)) → Φ (0 : Int32) t6)))))))
def wlX2_isWrittenBelow_2 (Φ : Int32 → St → Prop) : Nat → Int32 → Int32 → Int32 → St → Prop
  | 0 => fun _ _ _ _ => False
  | N + 1 => fun x1 x2 x3 σ => wlX2_isWrittenBelow_2_body Φ (wlX2_isWrittenBelow_2 Φ N) x1 x2 x3 σ
set_option maxHeartbeats 4000000 in
set_option maxRecDepth 100000 in
theorem llX2_isWrittenBelow_2 {p : Program} {l : Launch} {e : Env} {s : State} {m : MethodId} {args : Array Value} {below : List Frame} {meth : Method} {c : Code} (hn : 52 ≤ n) (C : Cx p s m args meth c cX2_isWrittenBelow 4 (some .boolean) RX2) {Φ : Int32 → St → Prop} : ∀ (N : Nat) (x1 : Int32) (x2 : Int32) (x3 : Int32) (σ : St) (H : Heap) (locs : List Loc) (ls : Array Slot), wlX2_isWrittenBelow_2 Φ N x1 x2 x3 σ → gWd D (tyL cyI cyO) (cCell ad cyI cyO) ad n s H locs σ → lv_has ls 4 [(0, .ref (ad 0)), (1, .int x1), (2, .int x2), (3, .int x3)] → W p l e rmX2_isWrittenBelow s m args below meth c H locs 0 0 (MQ below (gQi D (cCell ad cyI cyO) ad n s.heap.size Φ) args s 0 0 (gA ad n s.heap.size)) (F0 m 2 ls []) := by
  obtain ⟨hx, hb, hr, hml, hown, hts, hlk⟩ := id C
  intro N
  induction N with
  | zero =>
    intro x1 x2 x3 σ H locs ls h
    exact False.elim h
  | succ N ih =>
    intro x1 x2 x3 σ H locs ls h wd hl
    have h : wlX2_isWrittenBelow_2_body Φ (wlX2_isWrittenBelow_2 Φ N) x1 x2 x3 σ := h
    have hk_2 := ih
    unfold wlX2_isWrittenBelow_2_body at h
    refine lv_iload_n hx hb dX2_isWrittenBelow_2 rfl (lv_at hl 3 rfl) ?_
    refine lv_aload_n hx hb dX2_isWrittenBelow_3 rfl (lv_at hl 0 rfl) ?_
    refine getF C wd (k := 0) (Cn := RX2) (T := TX2) (N := 6) (v := .int (σ.1 0)) (by omega) cc_X2 rfl 0 (by decide) rfl inX2 tw1_195 dX2_isWrittenBelow_4 ?_
    refine lv_icmp_ge (tgt := 42) hx hb dX2_isWrittenBelow_7 (by decide) (fun c1 => ?_) (fun c1 => ?_)
    · have h := h.1 c1
      refine lv_iconst (v := (1 : Int32)) hx hb dX2_isWrittenBelow_42 (by decide) ?_
      exact retZ C wd rfl h dX2_isWrittenBelow_43
    · have h := h.2 c1
      refine lv_aload_n hx hb dX2_isWrittenBelow_10 rfl (lv_at hl 0 rfl) ?_
      refine lv_iload_n hx hb dX2_isWrittenBelow_11 rfl (lv_at hl 1 rfl) ?_
      refine gCr wd (gRunV (y := yX2_clerk) (k := 0) (As := [.int x1]) (rest := []) C wd (cmX2_clerk (by omega) h) ⟨rfl, rfl⟩ gd_X2_57 nk_X2_clerk ⟨Nat.le_of_ble_eq_true rfl, Nat.le_of_ble_eq_true rfl⟩ (by omega) cc_X2 rfl rfl hl.1 (Nat.le_of_ble_eq_true rfl) dX2_isWrittenBelow_12 rfl) (fun r3 t2 H locs hr3a hr3b h wd => ?_)
      try dsimp only at h
      refine getN C wd (k := r3) (Cn := RX0) (T := TX0) (N := 9) (v := .ref (ad (r3 + 5))) (by omega) (cc_X0 (k := r3) (by omega) (by omega)) rfl 7 (by decide) rfl inX0 ns_27 dX2_isWrittenBelow_15 ?_
      refine lv_iload_n hx hb dX2_isWrittenBelow_18 rfl (lv_at hl 2 rfl) ?_
      refine lv_iload_n hx hb dX2_isWrittenBelow_19 rfl (lv_at hl 3 rfl) ?_
      refine gCi wd (gRunV (y := yX5_pageOf) (k := r3 + 5) (As := [.int x2, .int x3]) (rest := []) C wd (cmX5_pageOf (by omega) (by omega) (by omega) h) ⟨rfl, rfl⟩ gd_X2_105 nk_X5_pageOf ⟨Nat.le_of_ble_eq_true rfl, Nat.le_of_ble_eq_true rfl⟩ (by omega) (cc_X5 (k := r3 + 5) (by omega) (by omega)) rfl rfl hl.1 (Nat.le_of_ble_eq_true rfl) dX2_isWrittenBelow_20 rfl) (fun r5 t4 H locs h wd => ?_)
      try dsimp only at h
      refine lv_aload_n hx hb dX2_isWrittenBelow_23 rfl (lv_at hl 0 rfl) ?_
      refine lv_iload_n hx hb dX2_isWrittenBelow_24 rfl (lv_at hl 3 rfl) ?_
      refine gCr wd (gRunV (y := yX2_clerk) (k := 0) (As := [.int x3]) (rest := [.int r5]) C wd (cmX2_clerk (by omega) h) ⟨rfl, rfl⟩ gd_X2_57 nk_X2_clerk ⟨Nat.le_of_ble_eq_true rfl, Nat.le_of_ble_eq_true rfl⟩ (by omega) cc_X2 rfl rfl hl.1 (Nat.le_of_ble_eq_true rfl) dX2_isWrittenBelow_25 rfl) (fun r7 t6 H locs hr7a hr7b h wd => ?_)
      try dsimp only at h
      refine getN C wd (k := r7) (Cn := RX0) (T := TX0) (N := 9) (v := .int (t6.1 (32 * r7 + 3))) (by omega) (cc_X0 (k := r7) (by omega) (by omega)) rfl 3 (by decide) rfl inX0 ns_20 dX2_isWrittenBelow_28 ?_
      refine lv_icmp_le (tgt := 36) hx hb dX2_isWrittenBelow_31 (by decide) (fun c8 => ?_) (fun c8 => ?_)
      · have h := h.1 c8
        obtain ⟨y9, ey9⟩ : ∃ y : Int32, y = x3 + (1 : Int32) := ⟨_, rfl⟩
        refine lv_iinc (v := y9) (lv' := [(3, .int y9), (0, .ref (ad 0)), (1, .int x1), (2, .int x2)]) hx hb dX2_isWrittenBelow_36 hl (k := 3) rfl (by rw [ey9]; rfl) (by decide) rfl (fun ls hl => ?_)
        have h := h y9 ey9
        refine lv_goto (tgt := 2) hx hb dX2_isWrittenBelow_39 (by decide) ?_
        exact hk_2 _ _ _ _ _ _ _ h wd (lv_sub hl [1, 2, 3, 0] rfl)
      · have h := h.2 c8
        refine lv_iconst (v := (0 : Int32)) hx hb dX2_isWrittenBelow_34 (by decide) ?_
        exact retZ C wd rfl h dX2_isWrittenBelow_35
def wpX2_isWrittenBelow (x1 : Int32) (x2 : Int32) (σ : St) (Φ : Int32 → St → Prop) : Prop :=
  (∃ N, wlX2_isWrittenBelow_2 Φ N x1 x2 (0 : Int32) σ)
set_option maxHeartbeats 4000000 in
set_option maxRecDepth 100000 in
theorem cmX2_isWrittenBelow {D : va_G} {cyI cyO : ClassId} {ad : Nat → Nat} {n : Nat} {l : Launch} (hn : 52 ≤ n) {x1 : Int32} {x2 : Int32} {σ : St} {sz : Nat} {Φ : Int32 → St → Prop} (h : wpX2_isWrittenBelow x1 x2 σ Φ) : gMet D (tyL cyI cyO) (cCell ad cyI cyO) ad n l yX2_isWrittenBelow cX2_isWrittenBelow 4 (some .boolean) rmX2_isWrittenBelow [.ref (ad 0), .int x1, .int x2] σ sz (gQi D (cCell ad cyI cyO) ad n sz Φ) := by
  refine gMet.of (by decide) (Nat.le_of_ble_eq_true rfl) ?_
  intro p e s m below meth c ls hsz C hl wd
  subst hsz
  have C : Cx p s m _ meth c cX2_isWrittenBelow 4 (some .boolean) RX2 := C
  obtain ⟨hx, hb, hr, hml, hown, hts, hlk⟩ := id C
  have hl : lv_has ls 4 [(0, .ref (ad 0)), (1, .int x1), (2, .int x2)] := hl
  unfold wpX2_isWrittenBelow at h
  refine lv_iconst (v := (0 : Int32)) hx hb dX2_isWrittenBelow_0 (by decide) ?_
  refine lv_istore_n (lv' := [(3, .int (0 : Int32)), (0, .ref (ad 0)), (1, .int x1), (2, .int x2)]) hx hb dX2_isWrittenBelow_1 rfl hl (by decide) rfl (fun ls hl => ?_)
  obtain ⟨N, h⟩ := h
  exact llX2_isWrittenBelow_2 hn C N _ _ _ _ _ _ _ h wd (lv_sub hl [1, 2, 3, 0] rfl)
abbrev rmX2_firmPage : Room := rmOf 3 66
def wlX2_firmPage_9_body (Φ : Int32 → St → Prop) (k_9 : Int32 → Int32 → St → Prop) (x1 : Int32) (x2 : Int32) (σ : St) : Prop :=
  ((x2 ≤ 0 → Φ (0 : Int32) σ) ∧ (¬ x2 ≤ 0 → wpX2_isWrittenBelow x1 x2 σ (fun r3 t2 => ((r3 = 0 → (∀ y5 : Int32, y5 = x2 + (-1 : Int32) → k_9 x1 y5 t2)) ∧ (¬ r3 = 0 → Φ x2 t2)))))
def wlX2_firmPage_9 (Φ : Int32 → St → Prop) : Nat → Int32 → Int32 → St → Prop
  | 0 => fun _ _ _ => False
  | N + 1 => fun x1 x2 σ => wlX2_firmPage_9_body Φ (wlX2_firmPage_9 Φ N) x1 x2 σ
set_option maxHeartbeats 4000000 in
set_option maxRecDepth 100000 in
theorem llX2_firmPage_9 {p : Program} {l : Launch} {e : Env} {s : State} {m : MethodId} {args : Array Value} {below : List Frame} {meth : Method} {c : Code} (hn : 52 ≤ n) (C : Cx p s m args meth c cX2_firmPage 3 (some .int) RX2) {Φ : Int32 → St → Prop} : ∀ (N : Nat) (x1 : Int32) (x2 : Int32) (σ : St) (H : Heap) (locs : List Loc) (ls : Array Slot), wlX2_firmPage_9 Φ N x1 x2 σ → gWd D (tyL cyI cyO) (cCell ad cyI cyO) ad n s H locs σ → lv_has ls 3 [(0, .ref (ad 0)), (1, .int x1), (2, .int x2)] → W p l e rmX2_firmPage s m args below meth c H locs 0 0 (MQ below (gQi D (cCell ad cyI cyO) ad n s.heap.size Φ) args s 0 0 (gA ad n s.heap.size)) (F0 m 9 ls []) := by
  obtain ⟨hx, hb, hr, hml, hown, hts, hlk⟩ := id C
  intro N
  induction N with
  | zero =>
    intro x1 x2 σ H locs ls h
    exact False.elim h
  | succ N ih =>
    intro x1 x2 σ H locs ls h wd hl
    have h : wlX2_firmPage_9_body Φ (wlX2_firmPage_9 Φ N) x1 x2 σ := h
    have hk_9 := ih
    unfold wlX2_firmPage_9_body at h
    refine lv_iload_n hx hb dX2_firmPage_9 rfl (lv_at hl 2 rfl) ?_
    refine lv_if_le (tgt := 30) hx hb dX2_firmPage_10 (by decide) (fun c1 => ?_) (fun c1 => ?_)
    · have h := h.1 c1
      refine lv_iconst (v := (0 : Int32)) hx hb dX2_firmPage_30 (by decide) ?_
      exact retI C wd h dX2_firmPage_31
    · have h := h.2 c1
      refine lv_aload_n hx hb dX2_firmPage_13 rfl (lv_at hl 0 rfl) ?_
      refine lv_iload_n hx hb dX2_firmPage_14 rfl (lv_at hl 1 rfl) ?_
      refine lv_iload_n hx hb dX2_firmPage_15 rfl (lv_at hl 2 rfl) ?_
      refine gCi wd (gRunV (y := yX2_isWrittenBelow) (k := 0) (As := [.int x1, .int x2]) (rest := []) C wd (cmX2_isWrittenBelow (by omega) h) ⟨rfl, rfl⟩ gd_X2_155 nk_X2_isWrittenBelow ⟨Nat.le_of_ble_eq_true rfl, Nat.le_of_ble_eq_true rfl⟩ (by omega) cc_X2 rfl rfl hl.1 (Nat.le_of_ble_eq_true rfl) dX2_firmPage_16 rfl) (fun r3 t2 H locs h wd => ?_)
      try dsimp only at h
      refine lv_if_eq (tgt := 24) hx hb dX2_firmPage_19 (by decide) (fun c4 => ?_) (fun c4 => ?_)
      · have h := h.1 c4
        obtain ⟨y5, ey5⟩ : ∃ y : Int32, y = x2 + (-1 : Int32) := ⟨_, rfl⟩
        refine lv_iinc (v := y5) (lv' := [(2, .int y5), (0, .ref (ad 0)), (1, .int x1)]) hx hb dX2_firmPage_24 hl (k := 2) rfl (by rw [ey5]; rfl) (by decide) rfl (fun ls hl => ?_)
        have h := h y5 ey5
        refine lv_goto (tgt := 9) hx hb dX2_firmPage_27 (by decide) ?_
        exact hk_9 _ _ _ _ _ _ h wd (lv_sub hl [1, 2, 0] rfl)
      · have h := h.2 c4
        refine lv_iload_n hx hb dX2_firmPage_22 rfl (lv_at hl 2 rfl) ?_
        exact retI C wd h dX2_firmPage_23
def wpX2_firmPage (x1 : Int32) (σ : St) (Φ : Int32 → St → Prop) : Prop :=
  wpX2_clerk x1 σ (fun r2 t1 => (∀ y3 : Int32, y3 = t1.1 (32 * r2 + 2) → (∃ N, wlX2_firmPage_9 Φ N x1 y3 t1)))
set_option maxHeartbeats 4000000 in
set_option maxRecDepth 100000 in
theorem cmX2_firmPage {D : va_G} {cyI cyO : ClassId} {ad : Nat → Nat} {n : Nat} {l : Launch} (hn : 52 ≤ n) {x1 : Int32} {σ : St} {sz : Nat} {Φ : Int32 → St → Prop} (h : wpX2_firmPage x1 σ Φ) : gMet D (tyL cyI cyO) (cCell ad cyI cyO) ad n l yX2_firmPage cX2_firmPage 3 (some .int) rmX2_firmPage [.ref (ad 0), .int x1] σ sz (gQi D (cCell ad cyI cyO) ad n sz Φ) := by
  refine gMet.of (by decide) (Nat.le_of_ble_eq_true rfl) ?_
  intro p e s m below meth c ls hsz C hl wd
  subst hsz
  have C : Cx p s m _ meth c cX2_firmPage 3 (some .int) RX2 := C
  obtain ⟨hx, hb, hr, hml, hown, hts, hlk⟩ := id C
  have hl : lv_has ls 3 [(0, .ref (ad 0)), (1, .int x1)] := hl
  unfold wpX2_firmPage at h
  refine lv_aload_n hx hb dX2_firmPage_0 rfl (lv_at hl 0 rfl) ?_
  refine lv_iload_n hx hb dX2_firmPage_1 rfl (lv_at hl 1 rfl) ?_
  refine gCr wd (gRunV (y := yX2_clerk) (k := 0) (As := [.int x1]) (rest := []) C wd (cmX2_clerk (by omega) h) ⟨rfl, rfl⟩ gd_X2_57 nk_X2_clerk ⟨Nat.le_of_ble_eq_true rfl, Nat.le_of_ble_eq_true rfl⟩ (by omega) cc_X2 rfl rfl hl.1 (Nat.le_of_ble_eq_true rfl) dX2_firmPage_2 rfl) (fun r2 t1 H locs hr2a hr2b h wd => ?_)
  try dsimp only at h
  refine getN C wd (k := r2) (Cn := RX0) (T := TX0) (N := 9) (v := .int (t1.1 (32 * r2 + 2))) (by omega) (cc_X0 (k := r2) (by omega) (by omega)) rfl 2 (by decide) rfl inX0 ns_18 dX2_firmPage_5 ?_
  refine lv_topi (fun y3 ey3 => ?_)
  have h := h y3 ey3
  refine lv_istore_n (lv' := [(2, .int y3), (0, .ref (ad 0)), (1, .int x1)]) hx hb dX2_firmPage_8 rfl hl (by decide) rfl (fun ls hl => ?_)
  obtain ⟨N, h⟩ := h
  exact llX2_firmPage_9 hn C N _ _ _ _ _ _ h wd (lv_sub hl [1, 2, 0] rfl)
abbrev rmX2_cutPages : Room := rmOf 4 88
def wpX2_cutPages (x1 : Int32) (σ : St) (Φ : Int32 → St → Prop) : Prop :=
  wpX2_clerk x1 σ (fun r2 t1 => (∀ y3 : Int32, y3 = t1.1 (32 * r2 + 4) → wpX2_clerk x1 t1 (fun r5 t4 => wpX2_firmPage x1 t4 (fun r7 t6 => (∀ t8 : St, t8 = setI t6 (32 * r5 + 4) (if y3 < r7 then r7 else y3) → wpX2_clerk x1 t8 (fun r10 t9 => Φ ((t9.1 (32 * r10 + 4)) - y3) t9))))))
set_option maxHeartbeats 4000000 in
set_option maxRecDepth 100000 in
theorem cmX2_cutPages {D : va_G} {cyI cyO : ClassId} {ad : Nat → Nat} {n : Nat} {l : Launch} (hn : 52 ≤ n) {x1 : Int32} {σ : St} {sz : Nat} {Φ : Int32 → St → Prop} (h : wpX2_cutPages x1 σ Φ) : gMet D (tyL cyI cyO) (cCell ad cyI cyO) ad n l yX2_cutPages cX2_cutPages 3 (some .int) rmX2_cutPages [.ref (ad 0), .int x1] σ sz (gQi D (cCell ad cyI cyO) ad n sz Φ) := by
  refine gMet.of (by decide) (Nat.le_of_ble_eq_true rfl) ?_
  intro p e s m below meth c ls hsz C hl wd
  subst hsz
  have C : Cx p s m _ meth c cX2_cutPages 3 (some .int) RX2 := C
  obtain ⟨hx, hb, hr, hml, hown, hts, hlk⟩ := id C
  have hl : lv_has ls 3 [(0, .ref (ad 0)), (1, .int x1)] := hl
  unfold wpX2_cutPages at h
  refine lv_aload_n hx hb dX2_cutPages_0 rfl (lv_at hl 0 rfl) ?_
  refine lv_iload_n hx hb dX2_cutPages_1 rfl (lv_at hl 1 rfl) ?_
  refine gCr wd (gRunV (y := yX2_clerk) (k := 0) (As := [.int x1]) (rest := []) C wd (cmX2_clerk (by omega) h) ⟨rfl, rfl⟩ gd_X2_57 nk_X2_clerk ⟨Nat.le_of_ble_eq_true rfl, Nat.le_of_ble_eq_true rfl⟩ (by omega) cc_X2 rfl rfl hl.1 (Nat.le_of_ble_eq_true rfl) dX2_cutPages_2 rfl) (fun r2 t1 H locs hr2a hr2b h wd => ?_)
  try dsimp only at h
  refine getN C wd (k := r2) (Cn := RX0) (T := TX0) (N := 9) (v := .int (t1.1 (32 * r2 + 4))) (by omega) (cc_X0 (k := r2) (by omega) (by omega)) rfl 4 (by decide) rfl inX0 ns_22 dX2_cutPages_5 ?_
  refine lv_topi (fun y3 ey3 => ?_)
  have h := h y3 ey3
  refine lv_istore_n (lv' := [(2, .int y3), (0, .ref (ad 0)), (1, .int x1)]) hx hb dX2_cutPages_8 rfl hl (by decide) rfl (fun ls hl => ?_)
  refine lv_aload_n hx hb dX2_cutPages_9 rfl (lv_at hl 1 rfl) ?_
  refine lv_iload_n hx hb dX2_cutPages_10 rfl (lv_at hl 2 rfl) ?_
  refine gCr wd (gRunV (y := yX2_clerk) (k := 0) (As := [.int x1]) (rest := []) C wd (cmX2_clerk (by omega) h) ⟨rfl, rfl⟩ gd_X2_57 nk_X2_clerk ⟨Nat.le_of_ble_eq_true rfl, Nat.le_of_ble_eq_true rfl⟩ (by omega) cc_X2 rfl rfl hl.1 (Nat.le_of_ble_eq_true rfl) dX2_cutPages_11 rfl) (fun r5 t4 H locs hr5a hr5b h wd => ?_)
  try dsimp only at h
  refine lv_iload_n hx hb dX2_cutPages_14 rfl (lv_at hl 0 rfl) ?_
  refine lv_aload_n hx hb dX2_cutPages_15 rfl (lv_at hl 1 rfl) ?_
  refine lv_iload_n hx hb dX2_cutPages_16 rfl (lv_at hl 2 rfl) ?_
  refine gCi wd (gRunV (y := yX2_firmPage) (k := 0) (As := [.int x1]) (rest := [.int y3, .ref (ad r5)]) C wd (cmX2_firmPage (by omega) h) ⟨rfl, rfl⟩ gd_X2_161 nk_X2_firmPage ⟨Nat.le_of_ble_eq_true rfl, Nat.le_of_ble_eq_true rfl⟩ (by omega) cc_X2 rfl rfl hl.1 (Nat.le_of_ble_eq_true rfl) dX2_cutPages_17 rfl) (fun r7 t6 H locs h wd => ?_)
  try dsimp only at h
  refine gMax C hl.1 tw3_149 tw1_45 tw1_5 tw1_46 (Nat.le_of_ble_eq_true rfl) (Nat.le_of_ble_eq_true rfl) dX2_cutPages_20 ?_
  refine putN C wd (k := r5) (Cn := RX0) (T := TX0) (N := 9) (σ' := setI t6 (32 * r5 + 4) (if y3 < r7 then r7 else y3)) (by omega) (cc_X0 (k := r5) (by omega) (by omega)) rfl tyX0_ok nmX0 4 (by decide) rfl (by decide +kernel) (Nat.le_of_ble_eq_true rfl) inX0 ns_22 (cs_X0_leastKept (by omega) (by omega)) dX2_cutPages_23 (fun H locs wd => ?_)
  obtain ⟨t8, et8⟩ : ∃ z : St, z = setI t6 (32 * r5 + 4) (if y3 < r7 then r7 else y3) := ⟨_, rfl⟩
  rw [← et8] at wd
  have h := h t8 et8
  refine lv_aload_n hx hb dX2_cutPages_26 rfl (lv_at hl 1 rfl) ?_
  refine lv_iload_n hx hb dX2_cutPages_27 rfl (lv_at hl 2 rfl) ?_
  refine gCr wd (gRunV (y := yX2_clerk) (k := 0) (As := [.int x1]) (rest := []) C wd (cmX2_clerk (by omega) h) ⟨rfl, rfl⟩ gd_X2_57 nk_X2_clerk ⟨Nat.le_of_ble_eq_true rfl, Nat.le_of_ble_eq_true rfl⟩ (by omega) cc_X2 rfl rfl hl.1 (Nat.le_of_ble_eq_true rfl) dX2_cutPages_28 rfl) (fun r10 t9 H locs hr10a hr10b h wd => ?_)
  try dsimp only at h
  refine getN C wd (k := r10) (Cn := RX0) (T := TX0) (N := 9) (v := .int (t9.1 (32 * r10 + 4))) (by omega) (cc_X0 (k := r10) (by omega) (by omega)) rfl 4 (by decide) rfl inX0 ns_22 dX2_cutPages_31 ?_
  refine lv_iload_n hx hb dX2_cutPages_34 rfl (lv_at hl 0 rfl) ?_
  refine lv_isub hx hb dX2_cutPages_35 ?_
  exact retI C wd h dX2_cutPages_36
abbrev rmX2_cutAll : Room := rmOf 5 110
def wlX2_cutAll_4_body (Φ : Int32 → St → Prop) (k_4 : Int32 → Int32 → St → Prop) (x1 : Int32) (x2 : Int32) (σ : St) : Prop :=
  (((σ.1 0) ≤ x2 → Φ x1 σ) ∧ (¬ (σ.1 0) ≤ x2 → wpX2_cutPages x2 σ (fun r3 t2 => (∀ y4 : Int32, y4 = x1 + r3 → (∀ y5 : Int32, y5 = x2 + (1 : Int32) → k_4 y4 y5 t2)))))
def wlX2_cutAll_4 (Φ : Int32 → St → Prop) : Nat → Int32 → Int32 → St → Prop
  | 0 => fun _ _ _ => False
  | N + 1 => fun x1 x2 σ => wlX2_cutAll_4_body Φ (wlX2_cutAll_4 Φ N) x1 x2 σ
set_option maxHeartbeats 4000000 in
set_option maxRecDepth 100000 in
theorem llX2_cutAll_4 {p : Program} {l : Launch} {e : Env} {s : State} {m : MethodId} {args : Array Value} {below : List Frame} {meth : Method} {c : Code} (hn : 52 ≤ n) (C : Cx p s m args meth c cX2_cutAll 3 (some .int) RX2) {Φ : Int32 → St → Prop} : ∀ (N : Nat) (x1 : Int32) (x2 : Int32) (σ : St) (H : Heap) (locs : List Loc) (ls : Array Slot), wlX2_cutAll_4 Φ N x1 x2 σ → gWd D (tyL cyI cyO) (cCell ad cyI cyO) ad n s H locs σ → lv_has ls 3 [(0, .ref (ad 0)), (1, .int x1), (2, .int x2)] → W p l e rmX2_cutAll s m args below meth c H locs 0 0 (MQ below (gQi D (cCell ad cyI cyO) ad n s.heap.size Φ) args s 0 0 (gA ad n s.heap.size)) (F0 m 4 ls []) := by
  obtain ⟨hx, hb, hr, hml, hown, hts, hlk⟩ := id C
  intro N
  induction N with
  | zero =>
    intro x1 x2 σ H locs ls h
    exact False.elim h
  | succ N ih =>
    intro x1 x2 σ H locs ls h wd hl
    have h : wlX2_cutAll_4_body Φ (wlX2_cutAll_4 Φ N) x1 x2 σ := h
    have hk_4 := ih
    unfold wlX2_cutAll_4_body at h
    refine lv_iload_n hx hb dX2_cutAll_4 rfl (lv_at hl 2 rfl) ?_
    refine lv_aload_n hx hb dX2_cutAll_5 rfl (lv_at hl 0 rfl) ?_
    refine getF C wd (k := 0) (Cn := RX2) (T := TX2) (N := 6) (v := .int (σ.1 0)) (by omega) cc_X2 rfl 0 (by decide) rfl inX2 tw1_195 dX2_cutAll_6 ?_
    refine lv_icmp_ge (tgt := 26) hx hb dX2_cutAll_9 (by decide) (fun c1 => ?_) (fun c1 => ?_)
    · have h := h.1 c1
      refine lv_iload_n hx hb dX2_cutAll_26 rfl (lv_at hl 1 rfl) ?_
      exact retI C wd h dX2_cutAll_27
    · have h := h.2 c1
      refine lv_iload_n hx hb dX2_cutAll_12 rfl (lv_at hl 1 rfl) ?_
      refine lv_aload_n hx hb dX2_cutAll_13 rfl (lv_at hl 0 rfl) ?_
      refine lv_iload_n hx hb dX2_cutAll_14 rfl (lv_at hl 2 rfl) ?_
      refine gCi wd (gRunV (y := yX2_cutPages) (k := 0) (As := [.int x2]) (rest := [.int x1]) C wd (cmX2_cutPages (by omega) h) ⟨rfl, rfl⟩ gd_X2_169 nk_X2_cutPages ⟨Nat.le_of_ble_eq_true rfl, Nat.le_of_ble_eq_true rfl⟩ (by omega) cc_X2 rfl rfl hl.1 (Nat.le_of_ble_eq_true rfl) dX2_cutAll_15 rfl) (fun r3 t2 H locs h wd => ?_)
      try dsimp only at h
      refine lv_iadd hx hb dX2_cutAll_18 ?_
      refine lv_topi (fun y4 ey4 => ?_)
      have h := h y4 ey4
      refine lv_istore_n (lv' := [(1, .int y4), (0, .ref (ad 0)), (2, .int x2)]) hx hb dX2_cutAll_19 rfl hl (by decide) rfl (fun ls hl => ?_)
      obtain ⟨y5, ey5⟩ : ∃ y : Int32, y = x2 + (1 : Int32) := ⟨_, rfl⟩
      refine lv_iinc (v := y5) (lv' := [(2, .int y5), (1, .int y4), (0, .ref (ad 0))]) hx hb dX2_cutAll_20 hl (k := 2) rfl (by rw [ey5]; rfl) (by decide) rfl (fun ls hl => ?_)
      have h := h y5 ey5
      refine lv_goto (tgt := 4) hx hb dX2_cutAll_23 (by decide) ?_
      exact hk_4 _ _ _ _ _ _ h wd (lv_sub hl [2, 1, 0] rfl)
def wpX2_cutAll (σ : St) (Φ : Int32 → St → Prop) : Prop :=
  (∃ N, wlX2_cutAll_4 Φ N (0 : Int32) (0 : Int32) σ)
set_option maxHeartbeats 4000000 in
set_option maxRecDepth 100000 in
theorem cmX2_cutAll {D : va_G} {cyI cyO : ClassId} {ad : Nat → Nat} {n : Nat} {l : Launch} (hn : 52 ≤ n) {σ : St} {sz : Nat} {Φ : Int32 → St → Prop} (h : wpX2_cutAll σ Φ) : gMet D (tyL cyI cyO) (cCell ad cyI cyO) ad n l yX2_cutAll cX2_cutAll 3 (some .int) rmX2_cutAll [.ref (ad 0)] σ sz (gQi D (cCell ad cyI cyO) ad n sz Φ) := by
  refine gMet.of (by decide) (Nat.le_of_ble_eq_true rfl) ?_
  intro p e s m below meth c ls hsz C hl wd
  subst hsz
  have C : Cx p s m _ meth c cX2_cutAll 3 (some .int) RX2 := C
  obtain ⟨hx, hb, hr, hml, hown, hts, hlk⟩ := id C
  have hl : lv_has ls 3 [(0, .ref (ad 0))] := hl
  unfold wpX2_cutAll at h
  refine lv_iconst (v := (0 : Int32)) hx hb dX2_cutAll_0 (by decide) ?_
  refine lv_istore_n (lv' := [(1, .int (0 : Int32)), (0, .ref (ad 0))]) hx hb dX2_cutAll_1 rfl hl (by decide) rfl (fun ls hl => ?_)
  refine lv_iconst (v := (0 : Int32)) hx hb dX2_cutAll_2 (by decide) ?_
  refine lv_istore_n (lv' := [(2, .int (0 : Int32)), (1, .int (0 : Int32)), (0, .ref (ad 0))]) hx hb dX2_cutAll_3 rfl hl (by decide) rfl (fun ls hl => ?_)
  obtain ⟨N, h⟩ := h
  exact llX2_cutAll_4 hn C N _ _ _ _ _ _ h wd (lv_sub hl [2, 1, 0] rfl)
abbrev rmX6_add : Room := rmOf 1 22
def wpX6_add (x1 : Int32) (x2 : Int32) (σ : St) (Φ : St → Prop) : Prop :=
  wpX9_put 46 (σ.1 96) x1 σ (fun t1 => wpX9_put 47 (t1.1 96) x2 t1 (fun t2 => wpX9_put 48 (t2.1 96) (0 : Int32) t2 (fun t3 => (∀ t4 : St, t4 = setI t3 96 ((t3.1 96) + (1 : Int32)) → Φ t4))))
set_option maxHeartbeats 4000000 in
set_option maxRecDepth 100000 in
theorem cmX6_add {D : va_G} {cyI cyO : ClassId} {ad : Nat → Nat} {n : Nat} {l : Launch} (hn : 52 ≤ n) {x1 : Int32} {x2 : Int32} {σ : St} {sz : Nat} {Φ : St → Prop} (h : wpX6_add x1 x2 σ Φ) : gMet D (tyL cyI cyO) (cCell ad cyI cyO) ad n l yX6_add cX6_add 3 none rmX6_add [.ref (ad 3), .int x1, .int x2] σ sz (gQv D (cCell ad cyI cyO) ad n sz Φ) := by
  refine gMet.of (by decide) (Nat.le_of_ble_eq_true rfl) ?_
  intro p e s m below meth c ls hsz C hl wd
  subst hsz
  have C : Cx p s m _ meth c cX6_add 3 none RX6 := C
  obtain ⟨hx, hb, hr, hml, hown, hts, hlk⟩ := id C
  have hl : lv_has ls 3 [(0, .ref (ad 3)), (1, .int x1), (2, .int x2)] := hl
  unfold wpX6_add at h
  refine lv_aload_n hx hb dX6_add_0 rfl (lv_at hl 0 rfl) ?_
  refine getF C wd (k := 3) (Cn := RX6) (T := TX6) (N := 6) (v := .ref (ad 46)) (by omega) cc_X6 rfl 2 (by decide) rfl inX6 tw1_87 dX6_add_1 ?_
  refine lv_aload_n hx hb dX6_add_4 rfl (lv_at hl 0 rfl) ?_
  refine getF C wd (k := 3) (Cn := RX6) (T := TX6) (N := 6) (v := .int (σ.1 96)) (by omega) cc_X6 rfl 0 (by decide) rfl inX6 tw1_82 dX6_add_5 ?_
  refine lv_iload_n hx hb dX6_add_8 rfl (lv_at hl 1 rfl) ?_
  refine gCv wd (gRunSN (y := yX9_put) (As := [.ref (ad 46), .int (σ.1 96), .int x1]) (rest := []) C wd (cmX9_put (by omega) (by omega) (by omega) h) ⟨rfl, rfl⟩ gc_X9_put ns_56 tw1_1 tw1_188 nk_X9_put ⟨Nat.le_of_ble_eq_true rfl, Nat.le_of_ble_eq_true rfl⟩ hl.1 (Nat.le_of_ble_eq_true rfl) dX6_add_9 rfl) (fun t1 H locs h wd => ?_)
  try dsimp only at h
  refine lv_aload_n hx hb dX6_add_12 rfl (lv_at hl 0 rfl) ?_
  refine getF C wd (k := 3) (Cn := RX6) (T := TX6) (N := 6) (v := .ref (ad 47)) (by omega) cc_X6 rfl 3 (by decide) rfl inX6 tw1_89 dX6_add_13 ?_
  refine lv_aload_n hx hb dX6_add_16 rfl (lv_at hl 0 rfl) ?_
  refine getF C wd (k := 3) (Cn := RX6) (T := TX6) (N := 6) (v := .int (t1.1 96)) (by omega) cc_X6 rfl 0 (by decide) rfl inX6 tw1_82 dX6_add_17 ?_
  refine lv_iload_n hx hb dX6_add_20 rfl (lv_at hl 2 rfl) ?_
  refine gCv wd (gRunSN (y := yX9_put) (As := [.ref (ad 47), .int (t1.1 96), .int x2]) (rest := []) C wd (cmX9_put (by omega) (by omega) (by omega) h) ⟨rfl, rfl⟩ gc_X9_put ns_56 tw1_1 tw1_188 nk_X9_put ⟨Nat.le_of_ble_eq_true rfl, Nat.le_of_ble_eq_true rfl⟩ hl.1 (Nat.le_of_ble_eq_true rfl) dX6_add_21 rfl) (fun t2 H locs h wd => ?_)
  try dsimp only at h
  refine lv_aload_n hx hb dX6_add_24 rfl (lv_at hl 0 rfl) ?_
  refine getF C wd (k := 3) (Cn := RX6) (T := TX6) (N := 6) (v := .ref (ad 48)) (by omega) cc_X6 rfl 4 (by decide) rfl inX6 tw1_91 dX6_add_25 ?_
  refine lv_aload_n hx hb dX6_add_28 rfl (lv_at hl 0 rfl) ?_
  refine getF C wd (k := 3) (Cn := RX6) (T := TX6) (N := 6) (v := .int (t2.1 96)) (by omega) cc_X6 rfl 0 (by decide) rfl inX6 tw1_82 dX6_add_29 ?_
  refine lv_iconst (v := (0 : Int32)) hx hb dX6_add_32 (by decide) ?_
  refine gCv wd (gRunSN (y := yX9_put) (As := [.ref (ad 48), .int (t2.1 96), .int (0 : Int32)]) (rest := []) C wd (cmX9_put (by omega) (by omega) (by omega) h) ⟨rfl, rfl⟩ gc_X9_put ns_56 tw1_1 tw1_188 nk_X9_put ⟨Nat.le_of_ble_eq_true rfl, Nat.le_of_ble_eq_true rfl⟩ hl.1 (Nat.le_of_ble_eq_true rfl) dX6_add_33 rfl) (fun t3 H locs h wd => ?_)
  try dsimp only at h
  refine lv_aload_n hx hb dX6_add_36 rfl (lv_at hl 0 rfl) ?_
  refine lv_dup hx hb dX6_add_37 rfl ?_
  refine getF C wd (k := 3) (Cn := RX6) (T := TX6) (N := 6) (v := .int (t3.1 96)) (by omega) cc_X6 rfl 0 (by decide) rfl inX6 tw1_82 dX6_add_38 ?_
  refine lv_iconst (v := (1 : Int32)) hx hb dX6_add_41 (by decide) ?_
  refine lv_iadd hx hb dX6_add_42 ?_
  refine putF C wd (k := 3) (Cn := RX6) (T := TX6) (N := 6) (σ' := setI t3 96 ((t3.1 96) + (1 : Int32))) (by omega) cc_X6 rfl tyX6_ok nmX6 0 (by decide) rfl (by decide +kernel) (Nat.le_of_ble_eq_true rfl) inX6 tw1_82 cs_X6_count dX6_add_43 (fun H locs wd => ?_)
  obtain ⟨t4, et4⟩ : ∃ z : St, z = setI t3 96 ((t3.1 96) + (1 : Int32)) := ⟨_, rfl⟩
  rw [← et4] at wd
  have h := h t4 et4
  exact retV C wd h dX6_add_46
abbrev rmX6_countHeld : Room := rmOf 2 42
def wbX6_countHeld_23 (Φ : Int32 → St → Prop) (k_4 : Int32 → Int32 → St → Prop) (x1 : Int32) (x2 : Int32) (σ : St) : Prop :=
  (∀ y1 : Int32, y1 = x2 + (1 : Int32) → k_4 x1 y1 σ)
set_option maxHeartbeats 4000000 in
set_option maxRecDepth 100000 in
theorem blX6_countHeld_23 {p : Program} {l : Launch} {e : Env} {s : State} {m : MethodId} {args : Array Value} {below : List Frame} {meth : Method} {c : Code} (hn : 52 ≤ n) (C : Cx p s m args meth c cX6_countHeld 3 (some .int) RX6) {Φ : Int32 → St → Prop} {k_4 : Int32 → Int32 → St → Prop} (hk_4 : ∀ (x1 : Int32) (x2 : Int32) (σ : St) (H : Heap) (locs : List Loc) (ls : Array Slot), k_4 x1 x2 σ → gWd D (tyL cyI cyO) (cCell ad cyI cyO) ad n s H locs σ → lv_has ls 3 [(0, .ref (ad 3)), (1, .int x1), (2, .int x2)] → W p l e rmX6_countHeld s m args below meth c H locs 0 0 (MQ below (gQi D (cCell ad cyI cyO) ad n s.heap.size Φ) args s 0 0 (gA ad n s.heap.size)) (F0 m 4 ls [])) {x1 : Int32} {x2 : Int32} {σ : St} {H : Heap} {locs : List Loc} {ls : Array Slot} (h : wbX6_countHeld_23 Φ k_4 x1 x2 σ) (wd : gWd D (tyL cyI cyO) (cCell ad cyI cyO) ad n s H locs σ) (hl : lv_has ls 3 [(0, .ref (ad 3)), (1, .int x1), (2, .int x2)]) : W p l e rmX6_countHeld s m args below meth c H locs 0 0 (MQ below (gQi D (cCell ad cyI cyO) ad n s.heap.size Φ) args s 0 0 (gA ad n s.heap.size)) (F0 m 23 ls []) := by
  obtain ⟨hx, hb, hr, hml, hown, hts, hlk⟩ := id C
  unfold wbX6_countHeld_23 at h
  obtain ⟨y1, ey1⟩ : ∃ y : Int32, y = x2 + (1 : Int32) := ⟨_, rfl⟩
  refine lv_iinc (v := y1) (lv' := [(2, .int y1), (0, .ref (ad 3)), (1, .int x1)]) hx hb dX6_countHeld_23 hl (k := 2) rfl (by rw [ey1]; rfl) (by decide) rfl (fun ls hl => ?_)
  have h := h y1 ey1
  refine lv_goto (tgt := 4) hx hb dX6_countHeld_26 (by decide) ?_
  exact hk_4 _ _ _ _ _ _ h wd (lv_sub hl [1, 2, 0] rfl)
def wlX6_countHeld_4_body (Φ : Int32 → St → Prop) (k_4 : Int32 → Int32 → St → Prop) (x1 : Int32) (x2 : Int32) (σ : St) : Prop :=
  (((σ.1 96) ≤ x2 → Φ x1 σ) ∧ (¬ (σ.1 96) ≤ x2 → wpX6_isHeld x2 σ (fun r3 t2 => ((r3 = 0 → wbX6_countHeld_23 Φ k_4 x1 x2 t2) ∧ (¬ r3 = 0 → (∀ y5 : Int32, y5 = x1 + (1 : Int32) → wbX6_countHeld_23 Φ k_4 y5 x2 t2))))))
def wlX6_countHeld_4 (Φ : Int32 → St → Prop) : Nat → Int32 → Int32 → St → Prop
  | 0 => fun _ _ _ => False
  | N + 1 => fun x1 x2 σ => wlX6_countHeld_4_body Φ (wlX6_countHeld_4 Φ N) x1 x2 σ
set_option maxHeartbeats 4000000 in
set_option maxRecDepth 100000 in
theorem llX6_countHeld_4 {p : Program} {l : Launch} {e : Env} {s : State} {m : MethodId} {args : Array Value} {below : List Frame} {meth : Method} {c : Code} (hn : 52 ≤ n) (C : Cx p s m args meth c cX6_countHeld 3 (some .int) RX6) {Φ : Int32 → St → Prop} : ∀ (N : Nat) (x1 : Int32) (x2 : Int32) (σ : St) (H : Heap) (locs : List Loc) (ls : Array Slot), wlX6_countHeld_4 Φ N x1 x2 σ → gWd D (tyL cyI cyO) (cCell ad cyI cyO) ad n s H locs σ → lv_has ls 3 [(0, .ref (ad 3)), (1, .int x1), (2, .int x2)] → W p l e rmX6_countHeld s m args below meth c H locs 0 0 (MQ below (gQi D (cCell ad cyI cyO) ad n s.heap.size Φ) args s 0 0 (gA ad n s.heap.size)) (F0 m 4 ls []) := by
  obtain ⟨hx, hb, hr, hml, hown, hts, hlk⟩ := id C
  intro N
  induction N with
  | zero =>
    intro x1 x2 σ H locs ls h
    exact False.elim h
  | succ N ih =>
    intro x1 x2 σ H locs ls h wd hl
    have h : wlX6_countHeld_4_body Φ (wlX6_countHeld_4 Φ N) x1 x2 σ := h
    have hk_4 := ih
    unfold wlX6_countHeld_4_body at h
    refine lv_iload_n hx hb dX6_countHeld_4 rfl (lv_at hl 2 rfl) ?_
    refine lv_aload_n hx hb dX6_countHeld_5 rfl (lv_at hl 0 rfl) ?_
    refine getF C wd (k := 3) (Cn := RX6) (T := TX6) (N := 6) (v := .int (σ.1 96)) (by omega) cc_X6 rfl 0 (by decide) rfl inX6 tw1_82 dX6_countHeld_6 ?_
    refine lv_icmp_ge (tgt := 29) hx hb dX6_countHeld_9 (by decide) (fun c1 => ?_) (fun c1 => ?_)
    · have h := h.1 c1
      refine lv_iload_n hx hb dX6_countHeld_29 rfl (lv_at hl 1 rfl) ?_
      exact retI C wd h dX6_countHeld_30
    · have h := h.2 c1
      refine lv_aload_n hx hb dX6_countHeld_12 rfl (lv_at hl 0 rfl) ?_
      refine lv_iload_n hx hb dX6_countHeld_13 rfl (lv_at hl 2 rfl) ?_
      refine gCi wd (gRunV (y := yX6_isHeld) (k := 3) (As := [.int x2]) (rest := []) C wd (cmX6_isHeld (by omega) h) ⟨rfl, rfl⟩ gd_X6_39 nk_X6_isHeld ⟨Nat.le_of_ble_eq_true rfl, Nat.le_of_ble_eq_true rfl⟩ (by omega) cc_X6 rfl rfl hl.1 (Nat.le_of_ble_eq_true rfl) dX6_countHeld_14 rfl) (fun r3 t2 H locs h wd => ?_)
      try dsimp only at h
      refine lv_if_eq (tgt := 23) hx hb dX6_countHeld_17 (by decide) (fun c4 => ?_) (fun c4 => ?_)
      · have h := h.1 c4
        exact blX6_countHeld_23 hn C hk_4 h wd (lv_sub hl [0, 1, 2] rfl)
      · have h := h.2 c4
        obtain ⟨y5, ey5⟩ : ∃ y : Int32, y = x1 + (1 : Int32) := ⟨_, rfl⟩
        refine lv_iinc (v := y5) (lv' := [(1, .int y5), (0, .ref (ad 3)), (2, .int x2)]) hx hb dX6_countHeld_20 hl (k := 1) rfl (by rw [ey5]; rfl) (by decide) rfl (fun ls hl => ?_)
        have h := h y5 ey5
        exact blX6_countHeld_23 hn C hk_4 h wd (lv_sub hl [1, 0, 2] rfl)
def wpX6_countHeld (σ : St) (Φ : Int32 → St → Prop) : Prop :=
  (∃ N, wlX6_countHeld_4 Φ N (0 : Int32) (0 : Int32) σ)
set_option maxHeartbeats 4000000 in
set_option maxRecDepth 100000 in
theorem cmX6_countHeld {D : va_G} {cyI cyO : ClassId} {ad : Nat → Nat} {n : Nat} {l : Launch} (hn : 52 ≤ n) {σ : St} {sz : Nat} {Φ : Int32 → St → Prop} (h : wpX6_countHeld σ Φ) : gMet D (tyL cyI cyO) (cCell ad cyI cyO) ad n l yX6_countHeld cX6_countHeld 3 (some .int) rmX6_countHeld [.ref (ad 3)] σ sz (gQi D (cCell ad cyI cyO) ad n sz Φ) := by
  refine gMet.of (by decide) (Nat.le_of_ble_eq_true rfl) ?_
  intro p e s m below meth c ls hsz C hl wd
  subst hsz
  have C : Cx p s m _ meth c cX6_countHeld 3 (some .int) RX6 := C
  obtain ⟨hx, hb, hr, hml, hown, hts, hlk⟩ := id C
  have hl : lv_has ls 3 [(0, .ref (ad 3))] := hl
  unfold wpX6_countHeld at h
  refine lv_iconst (v := (0 : Int32)) hx hb dX6_countHeld_0 (by decide) ?_
  refine lv_istore_n (lv' := [(1, .int (0 : Int32)), (0, .ref (ad 3))]) hx hb dX6_countHeld_1 rfl hl (by decide) rfl (fun ls hl => ?_)
  refine lv_iconst (v := (0 : Int32)) hx hb dX6_countHeld_2 (by decide) ?_
  refine lv_istore_n (lv' := [(2, .int (0 : Int32)), (1, .int (0 : Int32)), (0, .ref (ad 3))]) hx hb dX6_countHeld_3 rfl hl (by decide) rfl (fun ls hl => ?_)
  obtain ⟨N, h⟩ := h
  exact llX6_countHeld_4 hn C N _ _ _ _ _ _ h wd (lv_sub hl [2, 1, 0] rfl)
abbrev rmX2_addSaying : Room := rmOf 3 64
def wpX2_addSaying (x1 : Int32) (σ : St) (Φ : Int32 → St → Prop) : Prop :=
  (((σ.1 96) < (30 : Int32) → wpX2_clerk x1 σ (fun r3 t2 => wpX6_add x1 (t2.1 (32 * r3 + 2)) t2 (fun t4 => wpX6_countHeld t4 (fun r6 t5 => Φ r6 t5)))) ∧ (¬ (σ.1 96) < (30 : Int32) → Φ (-4 : Int32) σ))
set_option maxHeartbeats 4000000 in
set_option maxRecDepth 100000 in
theorem cmX2_addSaying {D : va_G} {cyI cyO : ClassId} {ad : Nat → Nat} {n : Nat} {l : Launch} (hn : 52 ≤ n) {x1 : Int32} {σ : St} {sz : Nat} {Φ : Int32 → St → Prop} (h : wpX2_addSaying x1 σ Φ) : gMet D (tyL cyI cyO) (cCell ad cyI cyO) ad n l yX2_addSaying cX2_addSaying 2 (some .int) rmX2_addSaying [.ref (ad 0), .int x1] σ sz (gQi D (cCell ad cyI cyO) ad n sz Φ) := by
  refine gMet.of (by decide) (Nat.le_of_ble_eq_true rfl) ?_
  intro p e s m below meth c ls hsz C hl wd
  subst hsz
  have C : Cx p s m _ meth c cX2_addSaying 2 (some .int) RX2 := C
  obtain ⟨hx, hb, hr, hml, hown, hts, hlk⟩ := id C
  have hl : lv_has ls 2 [(0, .ref (ad 0)), (1, .int x1)] := hl
  unfold wpX2_addSaying at h
  refine lv_aload_n hx hb dX2_addSaying_0 rfl (lv_at hl 0 rfl) ?_
  refine getF C wd (k := 0) (Cn := RX2) (T := TX2) (N := 6) (v := .ref (ad 3)) (by omega) cc_X2 rfl 4 (by decide) rfl inX2 tw1_203 dX2_addSaying_1 ?_
  refine getN C wd (k := 3) (Cn := RX6) (T := TX6) (N := 6) (v := .int (σ.1 96)) (by omega) cc_X6 rfl 0 (by decide) rfl inX6 ns_7 dX2_addSaying_4 ?_
  refine lv_bipush (v := (30 : Int32)) hx hb dX2_addSaying_7 (by decide) ?_
  refine lv_icmp_lt (tgt := 15) hx hb dX2_addSaying_9 (by decide) (fun c1 => ?_) (fun c1 => ?_)
  · have h := h.1 c1
    refine lv_aload_n hx hb dX2_addSaying_15 rfl (lv_at hl 0 rfl) ?_
    refine getF C wd (k := 0) (Cn := RX2) (T := TX2) (N := 6) (v := .ref (ad 3)) (by omega) cc_X2 rfl 4 (by decide) rfl inX2 tw1_203 dX2_addSaying_16 ?_
    refine lv_iload_n hx hb dX2_addSaying_19 rfl (lv_at hl 1 rfl) ?_
    refine lv_aload_n hx hb dX2_addSaying_20 rfl (lv_at hl 0 rfl) ?_
    refine lv_iload_n hx hb dX2_addSaying_21 rfl (lv_at hl 1 rfl) ?_
    refine gCr wd (gRunV (y := yX2_clerk) (k := 0) (As := [.int x1]) (rest := [.int x1, .ref (ad 3)]) C wd (cmX2_clerk (by omega) h) ⟨rfl, rfl⟩ gd_X2_57 nk_X2_clerk ⟨Nat.le_of_ble_eq_true rfl, Nat.le_of_ble_eq_true rfl⟩ (by omega) cc_X2 rfl rfl hl.1 (Nat.le_of_ble_eq_true rfl) dX2_addSaying_22 rfl) (fun r3 t2 H locs hr3a hr3b h wd => ?_)
    try dsimp only at h
    refine getN C wd (k := r3) (Cn := RX0) (T := TX0) (N := 9) (v := .int (t2.1 (32 * r3 + 2))) (by omega) (cc_X0 (k := r3) (by omega) (by omega)) rfl 2 (by decide) rfl inX0 ns_18 dX2_addSaying_25 ?_
    refine gCv wd (gRunV (y := yX6_add) (k := 3) (As := [.int x1, .int (t2.1 (32 * r3 + 2))]) (rest := []) C wd (cmX6_add (by omega) h) ⟨rfl, rfl⟩ gd_X2_173 nk_X6_add ⟨Nat.le_of_ble_eq_true rfl, Nat.le_of_ble_eq_true rfl⟩ (by omega) cc_X6 rfl rfl hl.1 (Nat.le_of_ble_eq_true rfl) dX2_addSaying_28 rfl) (fun t4 H locs h wd => ?_)
    try dsimp only at h
    refine lv_aload_n hx hb dX2_addSaying_31 rfl (lv_at hl 0 rfl) ?_
    refine getF C wd (k := 0) (Cn := RX2) (T := TX2) (N := 6) (v := .ref (ad 3)) (by omega) cc_X2 rfl 4 (by decide) rfl inX2 tw1_203 dX2_addSaying_32 ?_
    refine gCi wd (gRunV (y := yX6_countHeld) (k := 3) (As := []) (rest := []) C wd (cmX6_countHeld (by omega) h) ⟨rfl, rfl⟩ gd_X2_175 nk_X6_countHeld ⟨Nat.le_of_ble_eq_true rfl, Nat.le_of_ble_eq_true rfl⟩ (by omega) cc_X6 rfl rfl hl.1 (Nat.le_of_ble_eq_true rfl) dX2_addSaying_35 rfl) (fun r6 t5 H locs h wd => ?_)
    try dsimp only at h
    exact retI C wd h dX2_addSaying_38
  · have h := h.2 c1
    refine lv_bipush (v := (-4 : Int32)) hx hb dX2_addSaying_12 (by decide) ?_
    exact retI C wd h dX2_addSaying_14
abbrev rmX2_isSafe : Room := rmOf 3 66
def wpX2_isSafe (x1 : Int32) (σ : St) (Φ : Int32 → St → Prop) : Prop :=
  wpX6_isHeld x1 σ (fun r2 t1 => ((r2 = 0 → Φ (0 : Int32) t1) ∧ (¬ r2 = 0 → wpX9_at 46 x1 t1 (fun r5 t4 => wpX9_at 47 x1 t4 (fun r7 t6 => wpX2_isWrittenBelow r5 r7 t6 (fun r9 t8 => ((r9 = 0 → Φ (0 : Int32) t8) ∧ (¬ r9 = 0 → Φ (1 : Int32) t8))))))))
set_option maxHeartbeats 4000000 in
set_option maxRecDepth 100000 in
theorem cmX2_isSafe {D : va_G} {cyI cyO : ClassId} {ad : Nat → Nat} {n : Nat} {l : Launch} (hn : 52 ≤ n) {x1 : Int32} {σ : St} {sz : Nat} {Φ : Int32 → St → Prop} (h : wpX2_isSafe x1 σ Φ) : gMet D (tyL cyI cyO) (cCell ad cyI cyO) ad n l yX2_isSafe cX2_isSafe 2 (some .boolean) rmX2_isSafe [.ref (ad 0), .int x1] σ sz (gQi D (cCell ad cyI cyO) ad n sz Φ) := by
  refine gMet.of (by decide) (Nat.le_of_ble_eq_true rfl) ?_
  intro p e s m below meth c ls hsz C hl wd
  subst hsz
  have C : Cx p s m _ meth c cX2_isSafe 2 (some .boolean) RX2 := C
  obtain ⟨hx, hb, hr, hml, hown, hts, hlk⟩ := id C
  have hl : lv_has ls 2 [(0, .ref (ad 0)), (1, .int x1)] := hl
  unfold wpX2_isSafe at h
  refine lv_aload_n hx hb dX2_isSafe_0 rfl (lv_at hl 0 rfl) ?_
  refine getF C wd (k := 0) (Cn := RX2) (T := TX2) (N := 6) (v := .ref (ad 3)) (by omega) cc_X2 rfl 4 (by decide) rfl inX2 tw1_203 dX2_isSafe_1 ?_
  refine lv_iload_n hx hb dX2_isSafe_4 rfl (lv_at hl 1 rfl) ?_
  refine gCi wd (gRunV (y := yX6_isHeld) (k := 3) (As := [.int x1]) (rest := []) C wd (cmX6_isHeld (by omega) h) ⟨rfl, rfl⟩ gd_X2_178 nk_X6_isHeld ⟨Nat.le_of_ble_eq_true rfl, Nat.le_of_ble_eq_true rfl⟩ (by omega) cc_X6 rfl rfl hl.1 (Nat.le_of_ble_eq_true rfl) dX2_isSafe_5 rfl) (fun r2 t1 H locs h wd => ?_)
  try dsimp only at h
  refine lv_if_eq (tgt := 44) hx hb dX2_isSafe_8 (by decide) (fun c3 => ?_) (fun c3 => ?_)
  · have h := h.1 c3
    refine lv_iconst (v := (0 : Int32)) hx hb dX2_isSafe_44 (by decide) ?_
    exact retZ C wd rfl h dX2_isSafe_45
  · have h := h.2 c3
    refine lv_aload_n hx hb dX2_isSafe_11 rfl (lv_at hl 0 rfl) ?_
    refine lv_aload_n hx hb dX2_isSafe_12 rfl (lv_at hl 0 rfl) ?_
    refine getF C wd (k := 0) (Cn := RX2) (T := TX2) (N := 6) (v := .ref (ad 3)) (by omega) cc_X2 rfl 4 (by decide) rfl inX2 tw1_203 dX2_isSafe_13 ?_
    refine getN C wd (k := 3) (Cn := RX6) (T := TX6) (N := 6) (v := .ref (ad 46)) (by omega) cc_X6 rfl 2 (by decide) rfl inX6 ns_10 dX2_isSafe_16 ?_
    refine lv_iload_n hx hb dX2_isSafe_19 rfl (lv_at hl 1 rfl) ?_
    refine gCi wd (gRunSN (y := yX9_at) (As := [.ref (ad 46), .int x1]) (rest := [.ref (ad 0)]) C wd (cmX9_at (by omega) (by omega) (by omega) h) ⟨rfl, rfl⟩ gc_X9_at ns_52 tw1_1 tw2_92 nk_X9_at ⟨Nat.le_of_ble_eq_true rfl, Nat.le_of_ble_eq_true rfl⟩ hl.1 (Nat.le_of_ble_eq_true rfl) dX2_isSafe_20 rfl) (fun r5 t4 H locs h wd => ?_)
    try dsimp only at h
    refine lv_aload_n hx hb dX2_isSafe_23 rfl (lv_at hl 0 rfl) ?_
    refine getF C wd (k := 0) (Cn := RX2) (T := TX2) (N := 6) (v := .ref (ad 3)) (by omega) cc_X2 rfl 4 (by decide) rfl inX2 tw1_203 dX2_isSafe_24 ?_
    refine getN C wd (k := 3) (Cn := RX6) (T := TX6) (N := 6) (v := .ref (ad 47)) (by omega) cc_X6 rfl 3 (by decide) rfl inX6 ns_11 dX2_isSafe_27 ?_
    refine lv_iload_n hx hb dX2_isSafe_30 rfl (lv_at hl 1 rfl) ?_
    refine gCi wd (gRunSN (y := yX9_at) (As := [.ref (ad 47), .int x1]) (rest := [.int r5, .ref (ad 0)]) C wd (cmX9_at (by omega) (by omega) (by omega) h) ⟨rfl, rfl⟩ gc_X9_at ns_52 tw1_1 tw2_92 nk_X9_at ⟨Nat.le_of_ble_eq_true rfl, Nat.le_of_ble_eq_true rfl⟩ hl.1 (Nat.le_of_ble_eq_true rfl) dX2_isSafe_31 rfl) (fun r7 t6 H locs h wd => ?_)
    try dsimp only at h
    refine gCi wd (gRunV (y := yX2_isWrittenBelow) (k := 0) (As := [.int r5, .int r7]) (rest := []) C wd (cmX2_isWrittenBelow (by omega) h) ⟨rfl, rfl⟩ gd_X2_155 nk_X2_isWrittenBelow ⟨Nat.le_of_ble_eq_true rfl, Nat.le_of_ble_eq_true rfl⟩ (by omega) cc_X2 rfl rfl hl.1 (Nat.le_of_ble_eq_true rfl) dX2_isSafe_34 rfl) (fun r9 t8 H locs h wd => ?_)
    try dsimp only at h
    refine lv_if_eq (tgt := 44) hx hb dX2_isSafe_37 (by decide) (fun c10 => ?_) (fun c10 => ?_)
    · have h := h.1 c10
      refine lv_iconst (v := (0 : Int32)) hx hb dX2_isSafe_44 (by decide) ?_
      exact retZ C wd rfl h dX2_isSafe_45
    · have h := h.2 c10
      refine lv_iconst (v := (1 : Int32)) hx hb dX2_isSafe_40 (by decide) ?_
      refine lv_goto (tgt := 45) hx hb dX2_isSafe_41 (by decide) ?_
      exact retZ C wd rfl h dX2_isSafe_45
abbrev rmX6_goesAhead : Room := rmOf 1 21
def wpX6_goesAhead (x1 : Int32) (x2 : Int32) (σ : St) (Φ : Int32 → St → Prop) : Prop :=
  wpX9_at 47 x1 σ (fun r2 t1 => wpX9_at 47 x2 t1 (fun r4 t3 => ((r2 = r4 → wpX9_at 46 x1 t3 (fun r7 t6 => wpX9_at 46 x2 t6 (fun r9 t8 => ((r9 ≤ r7 → Φ (0 : Int32) t8) ∧ (¬ r9 ≤ r7 → Φ (1 : Int32) t8))))) ∧ (¬ r2 = r4 → wpX9_at 47 x1 t3 (fun r12 t11 => wpX9_at 47 x2 t11 (fun r14 t13 => ((r14 ≤ r12 → Φ (0 : Int32) t13) ∧ (¬ r14 ≤ r12 → Φ (1 : Int32) t13))))))))
set_option maxHeartbeats 4000000 in
set_option maxRecDepth 100000 in
theorem cmX6_goesAhead {D : va_G} {cyI cyO : ClassId} {ad : Nat → Nat} {n : Nat} {l : Launch} (hn : 52 ≤ n) {x1 : Int32} {x2 : Int32} {σ : St} {sz : Nat} {Φ : Int32 → St → Prop} (h : wpX6_goesAhead x1 x2 σ Φ) : gMet D (tyL cyI cyO) (cCell ad cyI cyO) ad n l yX6_goesAhead cX6_goesAhead 3 (some .boolean) rmX6_goesAhead [.ref (ad 3), .int x1, .int x2] σ sz (gQi D (cCell ad cyI cyO) ad n sz Φ) := by
  refine gMet.of (by decide) (Nat.le_of_ble_eq_true rfl) ?_
  intro p e s m below meth c ls hsz C hl wd
  subst hsz
  have C : Cx p s m _ meth c cX6_goesAhead 3 (some .boolean) RX6 := C
  obtain ⟨hx, hb, hr, hml, hown, hts, hlk⟩ := id C
  have hl : lv_has ls 3 [(0, .ref (ad 3)), (1, .int x1), (2, .int x2)] := hl
  unfold wpX6_goesAhead at h
  refine lv_aload_n hx hb dX6_goesAhead_0 rfl (lv_at hl 0 rfl) ?_
  refine getF C wd (k := 3) (Cn := RX6) (T := TX6) (N := 6) (v := .ref (ad 47)) (by omega) cc_X6 rfl 3 (by decide) rfl inX6 tw1_89 dX6_goesAhead_1 ?_
  refine lv_iload_n hx hb dX6_goesAhead_4 rfl (lv_at hl 1 rfl) ?_
  refine gCi wd (gRunSN (y := yX9_at) (As := [.ref (ad 47), .int x1]) (rest := []) C wd (cmX9_at (by omega) (by omega) (by omega) h) ⟨rfl, rfl⟩ gc_X9_at ns_55 tw1_1 tw2_92 nk_X9_at ⟨Nat.le_of_ble_eq_true rfl, Nat.le_of_ble_eq_true rfl⟩ hl.1 (Nat.le_of_ble_eq_true rfl) dX6_goesAhead_5 rfl) (fun r2 t1 H locs h wd => ?_)
  try dsimp only at h
  refine lv_aload_n hx hb dX6_goesAhead_8 rfl (lv_at hl 0 rfl) ?_
  refine getF C wd (k := 3) (Cn := RX6) (T := TX6) (N := 6) (v := .ref (ad 47)) (by omega) cc_X6 rfl 3 (by decide) rfl inX6 tw1_89 dX6_goesAhead_9 ?_
  refine lv_iload_n hx hb dX6_goesAhead_12 rfl (lv_at hl 2 rfl) ?_
  refine gCi wd (gRunSN (y := yX9_at) (As := [.ref (ad 47), .int x2]) (rest := [.int r2]) C wd (cmX9_at (by omega) (by omega) (by omega) h) ⟨rfl, rfl⟩ gc_X9_at ns_55 tw1_1 tw2_92 nk_X9_at ⟨Nat.le_of_ble_eq_true rfl, Nat.le_of_ble_eq_true rfl⟩ hl.1 (Nat.le_of_ble_eq_true rfl) dX6_goesAhead_13 rfl) (fun r4 t3 H locs h wd => ?_)
  try dsimp only at h
  refine lv_icmp_eq (tgt := 44) hx hb dX6_goesAhead_16 (by decide) (fun c5 => ?_) (fun c5 => ?_)
  · have h := h.1 c5
    refine lv_aload_n hx hb dX6_goesAhead_44 rfl (lv_at hl 0 rfl) ?_
    refine getF C wd (k := 3) (Cn := RX6) (T := TX6) (N := 6) (v := .ref (ad 46)) (by omega) cc_X6 rfl 2 (by decide) rfl inX6 tw1_87 dX6_goesAhead_45 ?_
    refine lv_iload_n hx hb dX6_goesAhead_48 rfl (lv_at hl 1 rfl) ?_
    refine gCi wd (gRunSN (y := yX9_at) (As := [.ref (ad 46), .int x1]) (rest := []) C wd (cmX9_at (by omega) (by omega) (by omega) h) ⟨rfl, rfl⟩ gc_X9_at ns_55 tw1_1 tw2_92 nk_X9_at ⟨Nat.le_of_ble_eq_true rfl, Nat.le_of_ble_eq_true rfl⟩ hl.1 (Nat.le_of_ble_eq_true rfl) dX6_goesAhead_49 rfl) (fun r7 t6 H locs h wd => ?_)
    try dsimp only at h
    refine lv_aload_n hx hb dX6_goesAhead_52 rfl (lv_at hl 0 rfl) ?_
    refine getF C wd (k := 3) (Cn := RX6) (T := TX6) (N := 6) (v := .ref (ad 46)) (by omega) cc_X6 rfl 2 (by decide) rfl inX6 tw1_87 dX6_goesAhead_53 ?_
    refine lv_iload_n hx hb dX6_goesAhead_56 rfl (lv_at hl 2 rfl) ?_
    refine gCi wd (gRunSN (y := yX9_at) (As := [.ref (ad 46), .int x2]) (rest := [.int r7]) C wd (cmX9_at (by omega) (by omega) (by omega) h) ⟨rfl, rfl⟩ gc_X9_at ns_55 tw1_1 tw2_92 nk_X9_at ⟨Nat.le_of_ble_eq_true rfl, Nat.le_of_ble_eq_true rfl⟩ hl.1 (Nat.le_of_ble_eq_true rfl) dX6_goesAhead_57 rfl) (fun r9 t8 H locs h wd => ?_)
    try dsimp only at h
    refine lv_icmp_ge (tgt := 67) hx hb dX6_goesAhead_60 (by decide) (fun c10 => ?_) (fun c10 => ?_)
    · have h := h.1 c10
      refine lv_iconst (v := (0 : Int32)) hx hb dX6_goesAhead_67 (by decide) ?_
      exact retZ C wd rfl h dX6_goesAhead_68
    · have h := h.2 c10
      refine lv_iconst (v := (1 : Int32)) hx hb dX6_goesAhead_63 (by decide) ?_
      refine lv_goto (tgt := 68) hx hb dX6_goesAhead_64 (by decide) ?_
      exact retZ C wd rfl h dX6_goesAhead_68
  · have h := h.2 c5
    refine lv_aload_n hx hb dX6_goesAhead_19 rfl (lv_at hl 0 rfl) ?_
    refine getF C wd (k := 3) (Cn := RX6) (T := TX6) (N := 6) (v := .ref (ad 47)) (by omega) cc_X6 rfl 3 (by decide) rfl inX6 tw1_89 dX6_goesAhead_20 ?_
    refine lv_iload_n hx hb dX6_goesAhead_23 rfl (lv_at hl 1 rfl) ?_
    refine gCi wd (gRunSN (y := yX9_at) (As := [.ref (ad 47), .int x1]) (rest := []) C wd (cmX9_at (by omega) (by omega) (by omega) h) ⟨rfl, rfl⟩ gc_X9_at ns_55 tw1_1 tw2_92 nk_X9_at ⟨Nat.le_of_ble_eq_true rfl, Nat.le_of_ble_eq_true rfl⟩ hl.1 (Nat.le_of_ble_eq_true rfl) dX6_goesAhead_24 rfl) (fun r12 t11 H locs h wd => ?_)
    try dsimp only at h
    refine lv_aload_n hx hb dX6_goesAhead_27 rfl (lv_at hl 0 rfl) ?_
    refine getF C wd (k := 3) (Cn := RX6) (T := TX6) (N := 6) (v := .ref (ad 47)) (by omega) cc_X6 rfl 3 (by decide) rfl inX6 tw1_89 dX6_goesAhead_28 ?_
    refine lv_iload_n hx hb dX6_goesAhead_31 rfl (lv_at hl 2 rfl) ?_
    refine gCi wd (gRunSN (y := yX9_at) (As := [.ref (ad 47), .int x2]) (rest := [.int r12]) C wd (cmX9_at (by omega) (by omega) (by omega) h) ⟨rfl, rfl⟩ gc_X9_at ns_55 tw1_1 tw2_92 nk_X9_at ⟨Nat.le_of_ble_eq_true rfl, Nat.le_of_ble_eq_true rfl⟩ hl.1 (Nat.le_of_ble_eq_true rfl) dX6_goesAhead_32 rfl) (fun r14 t13 H locs h wd => ?_)
    try dsimp only at h
    refine lv_icmp_ge (tgt := 42) hx hb dX6_goesAhead_35 (by decide) (fun c15 => ?_) (fun c15 => ?_)
    · have h := h.1 c15
      refine lv_iconst (v := (0 : Int32)) hx hb dX6_goesAhead_42 (by decide) ?_
      exact retZ C wd rfl h dX6_goesAhead_43
    · have h := h.2 c15
      refine lv_iconst (v := (1 : Int32)) hx hb dX6_goesAhead_38 (by decide) ?_
      refine lv_goto (tgt := 43) hx hb dX6_goesAhead_39 (by decide) ?_
      exact retZ C wd rfl h dX6_goesAhead_43
abbrev rmX2_nextSafe : Room := rmOf 4 87
def wbX2_nextSafe_42 (Φ : Int32 → St → Prop) (k_4 : Int32 → Int32 → St → Prop) (x1 : Int32) (x2 : Int32) (σ : St) : Prop :=
  (∀ y1 : Int32, y1 = x2 + (1 : Int32) → k_4 x1 y1 σ)
set_option maxHeartbeats 4000000 in
set_option maxRecDepth 100000 in
theorem blX2_nextSafe_42 {p : Program} {l : Launch} {e : Env} {s : State} {m : MethodId} {args : Array Value} {below : List Frame} {meth : Method} {c : Code} (hn : 52 ≤ n) (C : Cx p s m args meth c cX2_nextSafe 3 (some .int) RX2) {Φ : Int32 → St → Prop} {k_4 : Int32 → Int32 → St → Prop} (hk_4 : ∀ (x1 : Int32) (x2 : Int32) (σ : St) (H : Heap) (locs : List Loc) (ls : Array Slot), k_4 x1 x2 σ → gWd D (tyL cyI cyO) (cCell ad cyI cyO) ad n s H locs σ → lv_has ls 3 [(0, .ref (ad 0)), (1, .int x1), (2, .int x2)] → W p l e rmX2_nextSafe s m args below meth c H locs 0 0 (MQ below (gQi D (cCell ad cyI cyO) ad n s.heap.size Φ) args s 0 0 (gA ad n s.heap.size)) (F0 m 4 ls [])) {x1 : Int32} {x2 : Int32} {σ : St} {H : Heap} {locs : List Loc} {ls : Array Slot} (h : wbX2_nextSafe_42 Φ k_4 x1 x2 σ) (wd : gWd D (tyL cyI cyO) (cCell ad cyI cyO) ad n s H locs σ) (hl : lv_has ls 3 [(0, .ref (ad 0)), (1, .int x1), (2, .int x2)]) : W p l e rmX2_nextSafe s m args below meth c H locs 0 0 (MQ below (gQi D (cCell ad cyI cyO) ad n s.heap.size Φ) args s 0 0 (gA ad n s.heap.size)) (F0 m 42 ls []) := by
  obtain ⟨hx, hb, hr, hml, hown, hts, hlk⟩ := id C
  unfold wbX2_nextSafe_42 at h
  obtain ⟨y1, ey1⟩ : ∃ y : Int32, y = x2 + (1 : Int32) := ⟨_, rfl⟩
  refine lv_iinc (v := y1) (lv' := [(2, .int y1), (0, .ref (ad 0)), (1, .int x1)]) hx hb dX2_nextSafe_42 hl (k := 2) rfl (by rw [ey1]; rfl) (by decide) rfl (fun ls hl => ?_)
  have h := h y1 ey1
  refine lv_goto (tgt := 4) hx hb dX2_nextSafe_45 (by decide) ?_
  exact hk_4 _ _ _ _ _ _ h wd (lv_sub hl [1, 2, 0] rfl)
def wbX2_nextSafe_40 (Φ : Int32 → St → Prop) (k_4 : Int32 → Int32 → St → Prop) (x2 : Int32) (σ : St) : Prop :=
  wbX2_nextSafe_42 Φ k_4 x2 x2 σ
set_option maxHeartbeats 4000000 in
set_option maxRecDepth 100000 in
theorem blX2_nextSafe_40 {p : Program} {l : Launch} {e : Env} {s : State} {m : MethodId} {args : Array Value} {below : List Frame} {meth : Method} {c : Code} (hn : 52 ≤ n) (C : Cx p s m args meth c cX2_nextSafe 3 (some .int) RX2) {Φ : Int32 → St → Prop} {k_4 : Int32 → Int32 → St → Prop} (hk_4 : ∀ (x1 : Int32) (x2 : Int32) (σ : St) (H : Heap) (locs : List Loc) (ls : Array Slot), k_4 x1 x2 σ → gWd D (tyL cyI cyO) (cCell ad cyI cyO) ad n s H locs σ → lv_has ls 3 [(0, .ref (ad 0)), (1, .int x1), (2, .int x2)] → W p l e rmX2_nextSafe s m args below meth c H locs 0 0 (MQ below (gQi D (cCell ad cyI cyO) ad n s.heap.size Φ) args s 0 0 (gA ad n s.heap.size)) (F0 m 4 ls [])) {x2 : Int32} {σ : St} {H : Heap} {locs : List Loc} {ls : Array Slot} (h : wbX2_nextSafe_40 Φ k_4 x2 σ) (wd : gWd D (tyL cyI cyO) (cCell ad cyI cyO) ad n s H locs σ) (hl : lv_has ls 3 [(0, .ref (ad 0)), (2, .int x2)]) : W p l e rmX2_nextSafe s m args below meth c H locs 0 0 (MQ below (gQi D (cCell ad cyI cyO) ad n s.heap.size Φ) args s 0 0 (gA ad n s.heap.size)) (F0 m 40 ls []) := by
  obtain ⟨hx, hb, hr, hml, hown, hts, hlk⟩ := id C
  unfold wbX2_nextSafe_40 at h
  refine lv_iload_n hx hb dX2_nextSafe_40 rfl (lv_at hl 1 rfl) ?_
  refine lv_istore_n (lv' := [(1, .int x2), (0, .ref (ad 0)), (2, .int x2)]) hx hb dX2_nextSafe_41 rfl hl (by decide) rfl (fun ls hl => ?_)
  exact blX2_nextSafe_42 hn C hk_4 h wd (lv_sub hl [1, 0, 2] rfl)
def wlX2_nextSafe_4_body (Φ : Int32 → St → Prop) (k_4 : Int32 → Int32 → St → Prop) (x1 : Int32) (x2 : Int32) (σ : St) : Prop :=
  (((σ.1 96) ≤ x2 → Φ x1 σ) ∧ (¬ (σ.1 96) ≤ x2 → wpX2_isSafe x2 σ (fun r3 t2 => ((r3 = 0 → wbX2_nextSafe_42 Φ k_4 x1 x2 t2) ∧ (¬ r3 = 0 → ((x1 = (-1 : Int32) → wbX2_nextSafe_40 Φ k_4 x2 t2) ∧ (¬ x1 = (-1 : Int32) → wpX6_goesAhead x2 x1 t2 (fun r7 t6 => ((r7 = 0 → wbX2_nextSafe_42 Φ k_4 x1 x2 t6) ∧ (¬ r7 = 0 → wbX2_nextSafe_40 Φ k_4 x2 t6))))))))))
def wlX2_nextSafe_4 (Φ : Int32 → St → Prop) : Nat → Int32 → Int32 → St → Prop
  | 0 => fun _ _ _ => False
  | N + 1 => fun x1 x2 σ => wlX2_nextSafe_4_body Φ (wlX2_nextSafe_4 Φ N) x1 x2 σ
set_option maxHeartbeats 4000000 in
set_option maxRecDepth 100000 in
theorem llX2_nextSafe_4 {p : Program} {l : Launch} {e : Env} {s : State} {m : MethodId} {args : Array Value} {below : List Frame} {meth : Method} {c : Code} (hn : 52 ≤ n) (C : Cx p s m args meth c cX2_nextSafe 3 (some .int) RX2) {Φ : Int32 → St → Prop} : ∀ (N : Nat) (x1 : Int32) (x2 : Int32) (σ : St) (H : Heap) (locs : List Loc) (ls : Array Slot), wlX2_nextSafe_4 Φ N x1 x2 σ → gWd D (tyL cyI cyO) (cCell ad cyI cyO) ad n s H locs σ → lv_has ls 3 [(0, .ref (ad 0)), (1, .int x1), (2, .int x2)] → W p l e rmX2_nextSafe s m args below meth c H locs 0 0 (MQ below (gQi D (cCell ad cyI cyO) ad n s.heap.size Φ) args s 0 0 (gA ad n s.heap.size)) (F0 m 4 ls []) := by
  obtain ⟨hx, hb, hr, hml, hown, hts, hlk⟩ := id C
  intro N
  induction N with
  | zero =>
    intro x1 x2 σ H locs ls h
    exact False.elim h
  | succ N ih =>
    intro x1 x2 σ H locs ls h wd hl
    have h : wlX2_nextSafe_4_body Φ (wlX2_nextSafe_4 Φ N) x1 x2 σ := h
    have hk_4 := ih
    unfold wlX2_nextSafe_4_body at h
    refine lv_iload_n hx hb dX2_nextSafe_4 rfl (lv_at hl 2 rfl) ?_
    refine lv_aload_n hx hb dX2_nextSafe_5 rfl (lv_at hl 0 rfl) ?_
    refine getF C wd (k := 0) (Cn := RX2) (T := TX2) (N := 6) (v := .ref (ad 3)) (by omega) cc_X2 rfl 4 (by decide) rfl inX2 tw1_203 dX2_nextSafe_6 ?_
    refine getN C wd (k := 3) (Cn := RX6) (T := TX6) (N := 6) (v := .int (σ.1 96)) (by omega) cc_X6 rfl 0 (by decide) rfl inX6 ns_7 dX2_nextSafe_9 ?_
    refine lv_icmp_ge (tgt := 48) hx hb dX2_nextSafe_12 (by decide) (fun c1 => ?_) (fun c1 => ?_)
    · have h := h.1 c1
      refine lv_iload_n hx hb dX2_nextSafe_48 rfl (lv_at hl 1 rfl) ?_
      exact retI C wd h dX2_nextSafe_49
    · have h := h.2 c1
      refine lv_aload_n hx hb dX2_nextSafe_15 rfl (lv_at hl 0 rfl) ?_
      refine lv_iload_n hx hb dX2_nextSafe_16 rfl (lv_at hl 2 rfl) ?_
      refine gCi wd (gRunV (y := yX2_isSafe) (k := 0) (As := [.int x2]) (rest := []) C wd (cmX2_isSafe (by omega) h) ⟨rfl, rfl⟩ gd_X2_192 nk_X2_isSafe ⟨Nat.le_of_ble_eq_true rfl, Nat.le_of_ble_eq_true rfl⟩ (by omega) cc_X2 rfl rfl hl.1 (Nat.le_of_ble_eq_true rfl) dX2_nextSafe_17 rfl) (fun r3 t2 H locs h wd => ?_)
      try dsimp only at h
      refine lv_if_eq (tgt := 42) hx hb dX2_nextSafe_20 (by decide) (fun c4 => ?_) (fun c4 => ?_)
      · have h := h.1 c4
        exact blX2_nextSafe_42 hn C hk_4 h wd (lv_sub hl [0, 1, 2] rfl)
      · have h := h.2 c4
        refine lv_iload_n hx hb dX2_nextSafe_23 rfl (lv_at hl 1 rfl) ?_
        refine lv_iconst (v := (-1 : Int32)) hx hb dX2_nextSafe_24 (by decide) ?_
        refine lv_icmp_eq (tgt := 40) hx hb dX2_nextSafe_25 (by decide) (fun c5 => ?_) (fun c5 => ?_)
        · have h := h.1 c5
          exact blX2_nextSafe_40 hn C hk_4 h wd (lv_sub hl [0, 2] rfl)
        · have h := h.2 c5
          refine lv_aload_n hx hb dX2_nextSafe_28 rfl (lv_at hl 0 rfl) ?_
          refine getF C wd (k := 0) (Cn := RX2) (T := TX2) (N := 6) (v := .ref (ad 3)) (by omega) cc_X2 rfl 4 (by decide) rfl inX2 tw1_203 dX2_nextSafe_29 ?_
          refine lv_iload_n hx hb dX2_nextSafe_32 rfl (lv_at hl 2 rfl) ?_
          refine lv_iload_n hx hb dX2_nextSafe_33 rfl (lv_at hl 1 rfl) ?_
          refine gCi wd (gRunV (y := yX6_goesAhead) (k := 3) (As := [.int x2, .int x1]) (rest := []) C wd (cmX6_goesAhead (by omega) h) ⟨rfl, rfl⟩ gd_X2_195 nk_X6_goesAhead ⟨Nat.le_of_ble_eq_true rfl, Nat.le_of_ble_eq_true rfl⟩ (by omega) cc_X6 rfl rfl hl.1 (Nat.le_of_ble_eq_true rfl) dX2_nextSafe_34 rfl) (fun r7 t6 H locs h wd => ?_)
          try dsimp only at h
          refine lv_if_eq (tgt := 42) hx hb dX2_nextSafe_37 (by decide) (fun c8 => ?_) (fun c8 => ?_)
          · have h := h.1 c8
            exact blX2_nextSafe_42 hn C hk_4 h wd (lv_sub hl [0, 1, 2] rfl)
          · have h := h.2 c8
            exact blX2_nextSafe_40 hn C hk_4 h wd (lv_sub hl [0, 2] rfl)
def wpX2_nextSafe (σ : St) (Φ : Int32 → St → Prop) : Prop :=
  (∃ N, wlX2_nextSafe_4 Φ N (-1 : Int32) (0 : Int32) σ)
set_option maxHeartbeats 4000000 in
set_option maxRecDepth 100000 in
theorem cmX2_nextSafe {D : va_G} {cyI cyO : ClassId} {ad : Nat → Nat} {n : Nat} {l : Launch} (hn : 52 ≤ n) {σ : St} {sz : Nat} {Φ : Int32 → St → Prop} (h : wpX2_nextSafe σ Φ) : gMet D (tyL cyI cyO) (cCell ad cyI cyO) ad n l yX2_nextSafe cX2_nextSafe 3 (some .int) rmX2_nextSafe [.ref (ad 0)] σ sz (gQi D (cCell ad cyI cyO) ad n sz Φ) := by
  refine gMet.of (by decide) (Nat.le_of_ble_eq_true rfl) ?_
  intro p e s m below meth c ls hsz C hl wd
  subst hsz
  have C : Cx p s m _ meth c cX2_nextSafe 3 (some .int) RX2 := C
  obtain ⟨hx, hb, hr, hml, hown, hts, hlk⟩ := id C
  have hl : lv_has ls 3 [(0, .ref (ad 0))] := hl
  unfold wpX2_nextSafe at h
  refine lv_iconst (v := (-1 : Int32)) hx hb dX2_nextSafe_0 (by decide) ?_
  refine lv_istore_n (lv' := [(1, .int (-1 : Int32)), (0, .ref (ad 0))]) hx hb dX2_nextSafe_1 rfl hl (by decide) rfl (fun ls hl => ?_)
  refine lv_iconst (v := (0 : Int32)) hx hb dX2_nextSafe_2 (by decide) ?_
  refine lv_istore_n (lv' := [(2, .int (0 : Int32)), (1, .int (-1 : Int32)), (0, .ref (ad 0))]) hx hb dX2_nextSafe_3 rfl hl (by decide) rfl (fun ls hl => ?_)
  obtain ⟨N, h⟩ := h
  exact llX2_nextSafe_4 hn C N _ _ _ _ _ _ h wd (lv_sub hl [2, 1, 0] rfl)
end
