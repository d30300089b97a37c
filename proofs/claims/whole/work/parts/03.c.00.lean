section
variable {D : va_G} {cyI cyO : ClassId} {ad : Nat → Nat} {n : Nat}
abbrev rmX9_put : Room := rmOf 0 0
def wpX9_put (k : Nat) (x1 : Int32) (x2 : Int32) (σ : St) (Φ : St → Prop) : Prop :=
  ((x1 < 0 → Φ σ) ∧ (¬ x1 < 0 → (((Int32.ofNat (cLen k)) ≤ x1 → Φ σ) ∧ (¬ (Int32.ofNat (cLen k)) ≤ x1 → (vp_in x1 (cLen k) ∧ ∀ t4 : St, t4 = wr σ k x1 x2 → Φ t4)))))
set_option maxHeartbeats 4000000 in
set_option maxRecDepth 100000 in
theorem cmX9_put {D : va_G} {cyI cyO : ClassId} {ad : Nat → Nat} {n : Nat} {l : Launch} {k : Nat} (hf0 : 16 ≤ k) (hf1 : k < 56) (hf2 : k < n) {x1 : Int32} {x2 : Int32} {σ : St} {sz : Nat} {Φ : St → Prop} (h : wpX9_put k x1 x2 σ Φ) : gMet D (tyL cyI cyO) (cCell ad cyI cyO) ad n l yX9_put cX9_put 3 none rmX9_put [.ref (ad k), .int x1, .int x2] σ sz (gQv D (cCell ad cyI cyO) ad n sz Φ) := by
  refine gMet.of (by decide) (Nat.le_of_ble_eq_true rfl) ?_
  intro p e s m below meth c ls hsz C hl wd
  subst hsz
  have C : Cx p s m _ meth c cX9_put 3 none RX9 := C
  obtain ⟨hx, hb, hr, hml, hown, hts, hlk⟩ := id C
  have hl : lv_has ls 3 [(0, .ref (ad k)), (1, .int x1), (2, .int x2)] := hl
  unfold wpX9_put at h
  refine lv_iload_n hx hb dX9_put_0 rfl (lv_at hl 1 rfl) ?_
  refine lv_if_lt (tgt := 14) hx hb dX9_put_1 (by decide) (fun c1 => ?_) (fun c1 => ?_)
  · have h := h.1 c1
    exact retV C wd h dX9_put_14
  · have h := h.2 c1
    refine lv_iload_n hx hb dX9_put_4 rfl (lv_at hl 1 rfl) ?_
    refine lv_aload_n hx hb dX9_put_5 rfl (lv_at hl 0 rfl) ?_
    refine alenI C wd (k := k) (by omega) (cc_A (k := k) (by omega) (by omega)) dX9_put_6 ?_
    refine lv_icmp_ge (tgt := 14) hx hb dX9_put_7 (by decide) (fun c2 => ?_) (fun c2 => ?_)
    · have h := h.1 c2
      exact retV C wd h dX9_put_14
    · have h := h.2 c2
      refine lv_aload_n hx hb dX9_put_10 rfl (lv_at hl 0 rfl) ?_
      refine lv_iload_n hx hb dX9_put_11 rfl (lv_at hl 1 rfl) ?_
      refine lv_iload_n hx hb dX9_put_12 rfl (lv_at hl 2 rfl) ?_
      obtain ⟨hi3, h⟩ := h
      refine stI C wd (k := k) (N := (cLen k)) (by omega) (cc_A (k := k) (by omega) (by omega)) (cs_A (by omega) (by omega)) hi3 dX9_put_13 (fun H locs wd => ?_)
      obtain ⟨t4, et4⟩ : ∃ z : St, z = wr σ k x1 x2 := ⟨_, rfl⟩
      rw [← et4] at wd
      have h := h t4 et4
      exact retV C wd h dX9_put_14
abbrev rmX5_set : Room := rmOf 1 22
def wpX5_set (k : Nat) (x1 : Int32) (x2 : Int32) (x3 : Int32) (x4 : Int32) (σ : St) (Φ : St → Prop) : Prop :=
  wpX9_put (2 * k - 4) ((x1 * (5 : Int32)) + x2) x3 σ (fun t1 => wpX9_put (2 * k - 3) ((x1 * (5 : Int32)) + x2) x4 t1 (fun t2 => Φ t2))
set_option maxHeartbeats 4000000 in
set_option maxRecDepth 100000 in
theorem cmX5_set {D : va_G} {cyI cyO : ClassId} {ad : Nat → Nat} {n : Nat} {l : Launch} {k : Nat} (hn : 52 ≤ n) (hf0 : 10 ≤ k) (hf1 : k < 16) {x1 : Int32} {x2 : Int32} {x3 : Int32} {x4 : Int32} {σ : St} {sz : Nat} {Φ : St → Prop} (h : wpX5_set k x1 x2 x3 x4 σ Φ) : gMet D (tyL cyI cyO) (cCell ad cyI cyO) ad n l yX5_set cX5_set 5 none rmX5_set [.ref (ad k), .int x1, .int x2, .int x3, .int x4] σ sz (gQv D (cCell ad cyI cyO) ad n sz Φ) := by
  refine gMet.of (by decide) (Nat.le_of_ble_eq_true rfl) ?_
  intro p e s m below meth c ls hsz C hl wd
  subst hsz
  have C : Cx p s m _ meth c cX5_set 5 none RX5 := C
  obtain ⟨hx, hb, hr, hml, hown, hts, hlk⟩ := id C
  have hl : lv_has ls 5 [(0, .ref (ad k)), (1, .int x1), (2, .int x2), (3, .int x3), (4, .int x4)] := hl
  unfold wpX5_set at h
  refine lv_aload_n hx hb dX5_set_0 rfl (lv_at hl 0 rfl) ?_
  refine getF C wd (k := k) (Cn := RX5) (T := TX5) (N := 2) (v := .ref (ad (2 * k - 4))) (by omega) (cc_X5 (k := k) (by omega) (by omega)) rfl 0 (by decide) rfl inX5 tw1_47 dX5_set_1 ?_
  refine lv_iload_n hx hb dX5_set_4 rfl (lv_at hl 1 rfl) ?_
  refine lv_iconst (v := (5 : Int32)) hx hb dX5_set_5 (by decide) ?_
  refine lv_imul hx hb dX5_set_6 ?_
  refine lv_iload_n hx hb dX5_set_7 rfl (lv_at hl 2 rfl) ?_
  refine lv_iadd hx hb dX5_set_8 ?_
  refine lv_iload_n hx hb dX5_set_9 rfl (lv_at hl 3 rfl) ?_
  refine gCv wd (gRunSN (y := yX9_put) (As := [.ref (ad (2 * k - 4)), .int ((x1 * (5 : Int32)) + x2), .int x3]) (rest := []) C wd (cmX9_put (by omega) (by omega) (by omega) h) ⟨rfl, rfl⟩ gc_X9_put ns_29 tw1_1 tw1_188 nk_X9_put ⟨Nat.le_of_ble_eq_true rfl, Nat.le_of_ble_eq_true rfl⟩ hl.1 (Nat.le_of_ble_eq_true rfl) dX5_set_10 rfl) (fun t1 H locs h wd => ?_)
  try dsimp only at h
  refine lv_aload_n hx hb dX5_set_13 rfl (lv_at hl 0 rfl) ?_
  refine getF C wd (k := k) (Cn := RX5) (T := TX5) (N := 2) (v := .ref (ad (2 * k - 3))) (by omega) (cc_X5 (k := k) (by omega) (by omega)) rfl 1 (by decide) rfl inX5 tw1_48 dX5_set_14 ?_
  refine lv_iload_n hx hb dX5_set_17 rfl (lv_at hl 1 rfl) ?_
  refine lv_iconst (v := (5 : Int32)) hx hb dX5_set_18 (by decide) ?_
  refine lv_imul hx hb dX5_set_19 ?_
  refine lv_iload_n hx hb dX5_set_20 rfl (lv_at hl 2 rfl) ?_
  refine lv_iadd hx hb dX5_set_21 ?_
  refine lv_iload hx hb dX5_set_22 (lv_at hl 4 rfl) ?_
  refine gCv wd (gRunSN (y := yX9_put) (As := [.ref (ad (2 * k - 3)), .int ((x1 * (5 : Int32)) + x2), .int x4]) (rest := []) C wd (cmX9_put (by omega) (by omega) (by omega) h) ⟨rfl, rfl⟩ gc_X9_put ns_29 tw1_1 tw1_188 nk_X9_put ⟨Nat.le_of_ble_eq_true rfl, Nat.le_of_ble_eq_true rfl⟩ hl.1 (Nat.le_of_ble_eq_true rfl) dX5_set_24 rfl) (fun t2 H locs h wd => ?_)
  try dsimp only at h
  exact retV C wd h dX5_set_27
abbrev rmX0_begin : Room := rmOf 2 46
def wlX0_begin_40_body (k : Nat) (Φ : St → Prop) (k_40 : Int32 → St → Prop) (x1 : Int32) (σ : St) : Prop :=
  (((5 : Int32) ≤ x1 → Φ σ) ∧ (¬ (5 : Int32) ≤ x1 → wpX5_set (k + 5) (0 : Int32) x1 (0 : Int32) (0 : Int32) σ (fun t2 => (∀ y3 : Int32, y3 = x1 + (1 : Int32) → k_40 y3 t2))))
def wlX0_begin_40 (k : Nat) (Φ : St → Prop) : Nat → Int32 → St → Prop
  | 0 => fun _ _ => False
  | N + 1 => fun x1 σ => wlX0_begin_40_body k Φ (wlX0_begin_40 k Φ N) x1 σ
set_option maxHeartbeats 4000000 in
set_option maxRecDepth 100000 in
theorem llX0_begin_40 {p : Program} {l : Launch} {e : Env} {s : State} {m : MethodId} {args : Array Value} {below : List Frame} {meth : Method} {c : Code} {k : Nat} (hn : 52 ≤ n) (hf0 : 5 ≤ k) (hf1 : k < 10) (C : Cx p s m args meth c cX0_begin 2 none RX0) {Φ : St → Prop} : ∀ (N : Nat) (x1 : Int32) (σ : St) (H : Heap) (locs : List Loc) (ls : Array Slot), wlX0_begin_40 k Φ N x1 σ → gWd D (tyL cyI cyO) (cCell ad cyI cyO) ad n s H locs σ → lv_has ls 2 [(0, .ref (ad k)), (1, .int x1)] → W p l e rmX0_begin s m args below meth c H locs 0 0 (MQ below (gQv D (cCell ad cyI cyO) ad n s.heap.size Φ) args s 0 0 (gA ad n s.heap.size)) (F0 m 40 ls []) := by
  obtain ⟨hx, hb, hr, hml, hown, hts, hlk⟩ := id C
  intro N
  induction N with
  | zero =>
    intro x1 σ H locs ls h
    exact False.elim h
  | succ N ih =>
    intro x1 σ H locs ls h wd hl
    have h : wlX0_begin_40_body k Φ (wlX0_begin_40 k Φ N) x1 σ := h
    have hk_40 := ih
    unfold wlX0_begin_40_body at h
    refine lv_iload_n hx hb dX0_begin_40 rfl (lv_at hl 1 rfl) ?_
    refine lv_iconst (v := (5 : Int32)) hx hb dX0_begin_41 (by decide) ?_
    refine lv_icmp_ge (tgt := 62) hx hb dX0_begin_42 (by decide) (fun c1 => ?_) (fun c1 => ?_)
    · have h := h.1 c1
      exact retV C wd h dX0_begin_62
    · have h := h.2 c1
      refine lv_aload_n hx hb dX0_begin_45 rfl (lv_at hl 0 rfl) ?_
      refine getF C wd (k := k) (Cn := RX0) (T := TX0) (N := 9) (v := .ref (ad (k + 5))) (by omega) (cc_X0 (k := k) (by omega) (by omega)) rfl 7 (by decide) rfl inX0 tw1_151 dX0_begin_46 ?_
      refine lv_iconst (v := (0 : Int32)) hx hb dX0_begin_49 (by decide) ?_
      refine lv_iload_n hx hb dX0_begin_50 rfl (lv_at hl 1 rfl) ?_
      refine lv_iconst (v := (0 : Int32)) hx hb dX0_begin_51 (by decide) ?_
      refine lv_iconst (v := (0 : Int32)) hx hb dX0_begin_52 (by decide) ?_
      refine gCv wd (gRunV (y := yX5_set) (k := k + 5) (As := [.int (0 : Int32), .int x1, .int (0 : Int32), .int (0 : Int32)]) (rest := []) C wd (cmX5_set (by omega) (by omega) (by omega) h) ⟨rfl, rfl⟩ gd_X0_50 nk_X5_set ⟨Nat.le_of_ble_eq_true rfl, Nat.le_of_ble_eq_true rfl⟩ (by omega) (cc_X5 (k := k + 5) (by omega) (by omega)) rfl rfl hl.1 (Nat.le_of_ble_eq_true rfl) dX0_begin_53 rfl) (fun t2 H locs h wd => ?_)
      try dsimp only at h
      obtain ⟨y3, ey3⟩ : ∃ y : Int32, y = x1 + (1 : Int32) := ⟨_, rfl⟩
      refine lv_iinc (v := y3) (lv' := [(1, .int y3), (0, .ref (ad k))]) hx hb dX0_begin_56 hl (k := 1) rfl (by rw [ey3]; rfl) (by decide) rfl (fun ls hl => ?_)
      have h := h y3 ey3
      refine lv_goto (tgt := 40) hx hb dX0_begin_59 (by decide) ?_
      exact hk_40 _ _ _ _ _ h wd (lv_sub hl [1, 0] rfl)
def wpX0_begin (k : Nat) (σ : St) (Φ : St → Prop) : Prop :=
  (∀ t1 : St, t1 = setI σ (32 * k + 1) (0 : Int32) → (∀ t2 : St, t2 = setI t1 (32 * k + 2) (0 : Int32) → (∀ t3 : St, t3 = setI t2 (32 * k + 3) (0 : Int32) → (∀ t4 : St, t4 = setI t3 (32 * k + 4) (0 : Int32) → wpX9_put (13 + 3 * k) (0 : Int32) (0 : Int32) t4 (fun t5 => wpX9_put (14 + 3 * k) (0 : Int32) (0 : Int32) t5 (fun t6 => (∃ N, wlX0_begin_40 k Φ N (0 : Int32) t6)))))))
set_option maxHeartbeats 4000000 in
set_option maxRecDepth 100000 in
theorem cmX0_begin {D : va_G} {cyI cyO : ClassId} {ad : Nat → Nat} {n : Nat} {l : Launch} {k : Nat} (hn : 52 ≤ n) (hf0 : 5 ≤ k) (hf1 : k < 10) {σ : St} {sz : Nat} {Φ : St → Prop} (h : wpX0_begin k σ Φ) : gMet D (tyL cyI cyO) (cCell ad cyI cyO) ad n l yX0_begin cX0_begin 2 none rmX0_begin [.ref (ad k)] σ sz (gQv D (cCell ad cyI cyO) ad n sz Φ) := by
  refine gMet.of (by decide) (Nat.le_of_ble_eq_true rfl) ?_
  intro p e s m below meth c ls hsz C hl wd
  subst hsz
  have C : Cx p s m _ meth c cX0_begin 2 none RX0 := C
  obtain ⟨hx, hb, hr, hml, hown, hts, hlk⟩ := id C
  have hl : lv_has ls 2 [(0, .ref (ad k))] := hl
  unfold wpX0_begin at h
  refine lv_aload_n hx hb dX0_begin_0 rfl (lv_at hl 0 rfl) ?_
  refine lv_iconst (v := (0 : Int32)) hx hb dX0_begin_1 (by decide) ?_
  refine putF C wd (k := k) (Cn := RX0) (T := TX0) (N := 9) (σ' := setI σ (32 * k + 1) (0 : Int32)) (by omega) (cc_X0 (k := k) (by omega) (by omega)) rfl tyX0_ok nmX0 1 (by decide) rfl (by decide +kernel) (Nat.le_of_ble_eq_true rfl) inX0 tw1_135 (cs_X0_life (by omega) (by omega)) dX0_begin_2 (fun H locs wd => ?_)
  obtain ⟨t1, et1⟩ : ∃ z : St, z = setI σ (32 * k + 1) (0 : Int32) := ⟨_, rfl⟩
  rw [← et1] at wd
  have h := h t1 et1
  refine lv_aload_n hx hb dX0_begin_5 rfl (lv_at hl 0 rfl) ?_
  refine lv_iconst (v := (0 : Int32)) hx hb dX0_begin_6 (by decide) ?_
  refine putF C wd (k := k) (Cn := RX0) (T := TX0) (N := 9) (σ' := setI t1 (32 * k + 2) (0 : Int32)) (by omega) (cc_X0 (k := k) (by omega) (by omega)) rfl tyX0_ok nmX0 2 (by decide) rfl (by decide +kernel) (Nat.le_of_ble_eq_true rfl) inX0 tw1_137 (cs_X0_now (by omega) (by omega)) dX0_begin_7 (fun H locs wd => ?_)
  obtain ⟨t2, et2⟩ : ∃ z : St, z = setI t1 (32 * k + 2) (0 : Int32) := ⟨_, rfl⟩
  rw [← et2] at wd
  have h := h t2 et2
  refine lv_aload_n hx hb dX0_begin_10 rfl (lv_at hl 0 rfl) ?_
  refine lv_iconst (v := (0 : Int32)) hx hb dX0_begin_11 (by decide) ?_
  refine putF C wd (k := k) (Cn := RX0) (T := TX0) (N := 9) (σ' := setI t2 (32 * k + 3) (0 : Int32)) (by omega) (cc_X0 (k := k) (by omega) (by omega)) rfl tyX0_ok nmX0 3 (by decide) rfl (by decide +kernel) (Nat.le_of_ble_eq_true rfl) inX0 tw1_141 (cs_X0_written (by omega) (by omega)) dX0_begin_12 (fun H locs wd => ?_)
  obtain ⟨t3, et3⟩ : ∃ z : St, z = setI t2 (32 * k + 3) (0 : Int32) := ⟨_, rfl⟩
  rw [← et3] at wd
  have h := h t3 et3
  refine lv_aload_n hx hb dX0_begin_15 rfl (lv_at hl 0 rfl) ?_
  refine lv_iconst (v := (0 : Int32)) hx hb dX0_begin_16 (by decide) ?_
  refine putF C wd (k := k) (Cn := RX0) (T := TX0) (N := 9) (σ' := setI t3 (32 * k + 4) (0 : Int32)) (by omega) (cc_X0 (k := k) (by omega) (by omega)) rfl tyX0_ok nmX0 4 (by decide) rfl (by decide +kernel) (Nat.le_of_ble_eq_true rfl) inX0 tw1_144 (cs_X0_leastKept (by omega) (by omega)) dX0_begin_17 (fun H locs wd => ?_)
  obtain ⟨t4, et4⟩ : ∃ z : St, z = setI t3 (32 * k + 4) (0 : Int32) := ⟨_, rfl⟩
  rw [← et4] at wd
  have h := h t4 et4
  refine lv_aload_n hx hb dX0_begin_20 rfl (lv_at hl 0 rfl) ?_
  refine getF C wd (k := k) (Cn := RX0) (T := TX0) (N := 9) (v := .ref (ad (13 + 3 * k))) (by omega) (cc_X0 (k := k) (by omega) (by omega)) rfl 5 (by decide) rfl inX0 tw1_147 dX0_begin_21 ?_
  refine lv_iconst (v := (0 : Int32)) hx hb dX0_begin_24 (by decide) ?_
  refine lv_iconst (v := (0 : Int32)) hx hb dX0_begin_25 (by decide) ?_
  refine gCv wd (gRunSN (y := yX9_put) (As := [.ref (ad (13 + 3 * k)), .int (0 : Int32), .int (0 : Int32)]) (rest := []) C wd (cmX9_put (by omega) (by omega) (by omega) h) ⟨rfl, rfl⟩ gc_X9_put ns_28 tw1_1 tw1_188 nk_X9_put ⟨Nat.le_of_ble_eq_true rfl, Nat.le_of_ble_eq_true rfl⟩ hl.1 (Nat.le_of_ble_eq_true rfl) dX0_begin_26 rfl) (fun t5 H locs h wd => ?_)
  try dsimp only at h
  refine lv_aload_n hx hb dX0_begin_29 rfl (lv_at hl 0 rfl) ?_
  refine getF C wd (k := k) (Cn := RX0) (T := TX0) (N := 9) (v := .ref (ad (14 + 3 * k))) (by omega) (cc_X0 (k := k) (by omega) (by omega)) rfl 6 (by decide) rfl inX0 tw1_149 dX0_begin_30 ?_
  refine lv_iconst (v := (0 : Int32)) hx hb dX0_begin_33 (by decide) ?_
  refine lv_iconst (v := (0 : Int32)) hx hb dX0_begin_34 (by decide) ?_
  refine gCv wd (gRunSN (y := yX9_put) (As := [.ref (ad (14 + 3 * k)), .int (0 : Int32), .int (0 : Int32)]) (rest := []) C wd (cmX9_put (by omega) (by omega) (by omega) h) ⟨rfl, rfl⟩ gc_X9_put ns_28 tw1_1 tw1_188 nk_X9_put ⟨Nat.le_of_ble_eq_true rfl, Nat.le_of_ble_eq_true rfl⟩ hl.1 (Nat.le_of_ble_eq_true rfl) dX0_begin_35 rfl) (fun t6 H locs h wd => ?_)
  try dsimp only at h
  refine lv_iconst (v := (0 : Int32)) hx hb dX0_begin_38 (by decide) ?_
  refine lv_istore_n (lv' := [(1, .int (0 : Int32)), (0, .ref (ad k))]) hx hb dX0_begin_39 rfl hl (by decide) rfl (fun ls hl => ?_)
  obtain ⟨N, h⟩ := h
  exact llX0_begin_40 hn hf0 hf1 C N _ _ _ _ _ h wd (lv_sub hl [1, 0] rfl)
abbrev rmX0_isFull : Room := rmOf 0 0
def wpX0_isFull (k : Nat) (σ : St) (Φ : Int32 → St → Prop) : Prop :=
  (((σ.1 (32 * k + 2)) < (23 : Int32) → Φ (0 : Int32) σ) ∧ (¬ (σ.1 (32 * k + 2)) < (23 : Int32) → Φ (1 : Int32) σ))
set_option maxHeartbeats 4000000 in
set_option maxRecDepth 100000 in
theorem cmX0_isFull {D : va_G} {cyI cyO : ClassId} {ad : Nat → Nat} {n : Nat} {l : Launch} {k : Nat} (hn : 52 ≤ n) (hf0 : 5 ≤ k) (hf1 : k < 10) {σ : St} {sz : Nat} {Φ : Int32 → St → Prop} (h : wpX0_isFull k σ Φ) : gMet D (tyL cyI cyO) (cCell ad cyI cyO) ad n l yX0_isFull cX0_isFull 1 (some .boolean) rmX0_isFull [.ref (ad k)] σ sz (gQi D (cCell ad cyI cyO) ad n sz Φ) := by
  refine gMet.of (by decide) (Nat.le_of_ble_eq_true rfl) ?_
  intro p e s m below meth c ls hsz C hl wd
  subst hsz
  have C : Cx p s m _ meth c cX0_isFull 1 (some .boolean) RX0 := C
  obtain ⟨hx, hb, hr, hml, hown, hts, hlk⟩ := id C
  have hl : lv_has ls 1 [(0, .ref (ad k))] := hl
  unfold wpX0_isFull at h
  refine lv_aload_n hx hb dX0_isFull_0 rfl (lv_at hl 0 rfl) ?_
  refine getF C wd (k := k) (Cn := RX0) (T := TX0) (N := 9) (v := .int (σ.1 (32 * k + 2))) (by omega) (cc_X0 (k := k) (by omega) (by omega)) rfl 2 (by decide) rfl inX0 tw1_137 dX0_isFull_1 ?_
  refine lv_bipush (v := (23 : Int32)) hx hb dX0_isFull_4 (by decide) ?_
  refine lv_icmp_lt (tgt := 13) hx hb dX0_isFull_6 (by decide) (fun c1 => ?_) (fun c1 => ?_)
  · have h := h.1 c1
    refine lv_iconst (v := (0 : Int32)) hx hb dX0_isFull_13 (by decide) ?_
    exact retZ C wd rfl h dX0_isFull_14
  · have h := h.2 c1
    refine lv_iconst (v := (1 : Int32)) hx hb dX0_isFull_9 (by decide) ?_
    refine lv_goto (tgt := 14) hx hb dX0_isFull_10 (by decide) ?_
    exact retZ C wd rfl h dX0_isFull_14
abbrev rmX9_at : Room := rmOf 0 0
def wpX9_at (k : Nat) (x1 : Int32) (σ : St) (Φ : Int32 → St → Prop) : Prop :=
  ((x1 < 0 → Φ (0 : Int32) σ) ∧ (¬ x1 < 0 → (((Int32.ofNat (cLen k)) ≤ x1 → Φ (0 : Int32) σ) ∧ (¬ (Int32.ofNat (cLen k)) ≤ x1 → (vp_in x1 (cLen k) ∧ Φ (rd σ k x1) σ)))))
set_option maxHeartbeats 4000000 in
set_option maxRecDepth 100000 in
theorem cmX9_at {D : va_G} {cyI cyO : ClassId} {ad : Nat → Nat} {n : Nat} {l : Launch} {k : Nat} (hf0 : 16 ≤ k) (hf1 : k < 56) (hf2 : k < n) {x1 : Int32} {σ : St} {sz : Nat} {Φ : Int32 → St → Prop} (h : wpX9_at k x1 σ Φ) : gMet D (tyL cyI cyO) (cCell ad cyI cyO) ad n l yX9_at cX9_at 2 (some .int) rmX9_at [.ref (ad k), .int x1] σ sz (gQi D (cCell ad cyI cyO) ad n sz Φ) := by
  refine gMet.of (by decide) (Nat.le_of_ble_eq_true rfl) ?_
  intro p e s m below meth c ls hsz C hl wd
  subst hsz
  have C : Cx p s m _ meth c cX9_at 2 (some .int) RX9 := C
  obtain ⟨hx, hb, hr, hml, hown, hts, hlk⟩ := id C
  have hl : lv_has ls 2 [(0, .ref (ad k)), (1, .int x1)] := hl
  unfold wpX9_at at h
  refine lv_iload_n hx hb dX9_at_0 rfl (lv_at hl 1 rfl) ?_
  refine lv_if_lt (tgt := 16) hx hb dX9_at_1 (by decide) (fun c1 => ?_) (fun c1 => ?_)
  · have h := h.1 c1
    refine lv_iconst (v := (0 : Int32)) hx hb dX9_at_16 (by decide) ?_
    exact retI C wd h dX9_at_17
  · have h := h.2 c1
    refine lv_iload_n hx hb dX9_at_4 rfl (lv_at hl 1 rfl) ?_
    refine lv_aload_n hx hb dX9_at_5 rfl (lv_at hl 0 rfl) ?_
    refine alenI C wd (k := k) (by omega) (cc_A (k := k) (by omega) (by omega)) dX9_at_6 ?_
    refine lv_icmp_ge (tgt := 16) hx hb dX9_at_7 (by decide) (fun c2 => ?_) (fun c2 => ?_)
    · have h := h.1 c2
      refine lv_iconst (v := (0 : Int32)) hx hb dX9_at_16 (by decide) ?_
      exact retI C wd h dX9_at_17
    · have h := h.2 c2
      refine lv_aload_n hx hb dX9_at_10 rfl (lv_at hl 0 rfl) ?_
      refine lv_iload_n hx hb dX9_at_11 rfl (lv_at hl 1 rfl) ?_
      obtain ⟨hi3, h⟩ := h
      refine ldI C wd (k := k) (N := (cLen k)) (by omega) (cc_A (k := k) (by omega) (by omega)) hi3 dX9_at_12 ?_
      refine lv_goto (tgt := 17) hx hb dX9_at_13 (by decide) ?_
      exact retI C wd h dX9_at_17
abbrev rmX9_leftOver : Room := rmOf 0 0
def wpX9_leftOver (x0 : Int64) (x2 : Int32) (σ : St) (Φ : Int32 → St → Prop) : Prop :=
  ((x2 ≤ 0 → Φ (0 : Int32) σ) ∧ (¬ x2 ≤ 0 → (¬ x2.toInt64 = 0 ∧ Φ ((x0 - x0 / x2.toInt64 * x2.toInt64).toInt32) σ)))
set_option maxHeartbeats 4000000 in
set_option maxRecDepth 100000 in
theorem cmX9_leftOver {D : va_G} {cyI cyO : ClassId} {ad : Nat → Nat} {n : Nat} {l : Launch} {x0 : Int64} {x2 : Int32} {σ : St} {sz : Nat} {Φ : Int32 → St → Prop} (h : wpX9_leftOver x0 x2 σ Φ) : gMet D (tyL cyI cyO) (cCell ad cyI cyO) ad n l yX9_leftOver cX9_leftOver 3 (some .int) rmX9_leftOver [.long x0, .int x2] σ sz (gQi D (cCell ad cyI cyO) ad n sz Φ) := by
  refine gMet.of (by decide) (Nat.le_of_ble_eq_true rfl) ?_
  intro p e s m below meth c ls hsz C hl wd
  subst hsz
  have C : Cx p s m _ meth c cX9_leftOver 3 (some .int) RX9 := C
  obtain ⟨hx, hb, hr, hml, hown, hts, hlk⟩ := id C
  have hl : lv_has ls 3 [(0, .long x0), (2, .int x2)] := hl
  unfold wpX9_leftOver at h
  refine lv_iload_n hx hb dX9_leftOver_0 rfl (lv_at hl 1 rfl) ?_
  refine lv_if_le (tgt := 12) hx hb dX9_leftOver_1 (by decide) (fun c1 => ?_) (fun c1 => ?_)
  · have h := h.1 c1
    refine lv_iconst (v := (0 : Int32)) hx hb dX9_leftOver_12 (by decide) ?_
    exact retI C wd h dX9_leftOver_13
  · have h := h.2 c1
    refine lv_lload_n hx hb dX9_leftOver_4 rfl (lv_at hl 0 rfl) ?_
    refine lv_iload_n hx hb dX9_leftOver_5 rfl (lv_at hl 1 rfl) ?_
    refine lv_i2l hx hb dX9_leftOver_6 rfl ?_
    obtain ⟨hz2, h⟩ := h
    refine lv_lrem hx hb dX9_leftOver_7 hz2 ?_
    refine lv_l2i hx hb dX9_leftOver_8 rfl ?_
    refine lv_goto (tgt := 13) hx hb dX9_leftOver_9 (by decide) ?_
    exact retI C wd h dX9_leftOver_13
abbrev rmX5_lifeOf : Room := rmOf 1 21
def wpX5_lifeOf (k : Nat) (x1 : Int32) (x2 : Int32) (σ : St) (Φ : Int32 → St → Prop) : Prop :=
  wpX9_at (2 * k - 4) ((x1 * (5 : Int32)) + x2) σ (fun r2 t1 => Φ r2 t1)
set_option maxHeartbeats 4000000 in
set_option maxRecDepth 100000 in
theorem cmX5_lifeOf {D : va_G} {cyI cyO : ClassId} {ad : Nat → Nat} {n : Nat} {l : Launch} {k : Nat} (hn : 52 ≤ n) (hf0 : 10 ≤ k) (hf1 : k < 16) {x1 : Int32} {x2 : Int32} {σ : St} {sz : Nat} {Φ : Int32 → St → Prop} (h : wpX5_lifeOf k x1 x2 σ Φ) : gMet D (tyL cyI cyO) (cCell ad cyI cyO) ad n l yX5_lifeOf cX5_lifeOf 3 (some .int) rmX5_lifeOf [.ref (ad k), .int x1, .int x2] σ sz (gQi D (cCell ad cyI cyO) ad n sz Φ) := by
  refine gMet.of (by decide) (Nat.le_of_ble_eq_true rfl) ?_
  intro p e s m below meth c ls hsz C hl wd
  subst hsz
  have C : Cx p s m _ meth c cX5_lifeOf 3 (some .int) RX5 := C
  obtain ⟨hx, hb, hr, hml, hown, hts, hlk⟩ := id C
  have hl : lv_has ls 3 [(0, .ref (ad k)), (1, .int x1), (2, .int x2)] := hl
  unfold wpX5_lifeOf at h
  refine lv_aload_n hx hb dX5_lifeOf_0 rfl (lv_at hl 0 rfl) ?_
  refine getF C wd (k := k) (Cn := RX5) (T := TX5) (N := 2) (v := .ref (ad (2 * k - 4))) (by omega) (cc_X5 (k := k) (by omega) (by omega)) rfl 0 (by decide) rfl inX5 tw1_47 dX5_lifeOf_1 ?_
  refine lv_iload_n hx hb dX5_lifeOf_4 rfl (lv_at hl 1 rfl) ?_
  refine lv_iconst (v := (5 : Int32)) hx hb dX5_lifeOf_5 (by decide) ?_
  refine lv_imul hx hb dX5_lifeOf_6 ?_
  refine lv_iload_n hx hb dX5_lifeOf_7 rfl (lv_at hl 2 rfl) ?_
  refine lv_iadd hx hb dX5_lifeOf_8 ?_
  refine gCi wd (gRunSN (y := yX9_at) (As := [.ref (ad (2 * k - 4)), .int ((x1 * (5 : Int32)) + x2)]) (rest := []) C wd (cmX9_at (by omega) (by omega) (by omega) h) ⟨rfl, rfl⟩ gc_X9_at ns_49 tw1_1 tw2_92 nk_X9_at ⟨Nat.le_of_ble_eq_true rfl, Nat.le_of_ble_eq_true rfl⟩ hl.1 (Nat.le_of_ble_eq_true rfl) dX5_lifeOf_9 rfl) (fun r2 t1 H locs h wd => ?_)
  try dsimp only at h
  exact retI C wd h dX5_lifeOf_12
abbrev rmX5_pageOf : Room := rmOf 1 21
def wpX5_pageOf (k : Nat) (x1 : Int32) (x2 : Int32) (σ : St) (Φ : Int32 → St → Prop) : Prop :=
  wpX9_at (2 * k - 3) ((x1 * (5 : Int32)) + x2) σ (fun r2 t1 => Φ r2 t1)
set_option maxHeartbeats 4000000 in
set_option maxRecDepth 100000 in
theorem cmX5_pageOf {D : va_G} {cyI cyO : ClassId} {ad : Nat → Nat} {n : Nat} {l : Launch} {k : Nat} (hn : 52 ≤ n) (hf0 : 10 ≤ k) (hf1 : k < 16) {x1 : Int32} {x2 : Int32} {σ : St} {sz : Nat} {Φ : Int32 → St → Prop} (h : wpX5_pageOf k x1 x2 σ Φ) : gMet D (tyL cyI cyO) (cCell ad cyI cyO) ad n l yX5_pageOf cX5_pageOf 3 (some .int) rmX5_pageOf [.ref (ad k), .int x1, .int x2] σ sz (gQi D (cCell ad cyI cyO) ad n sz Φ) := by
  refine gMet.of (by decide) (Nat.le_of_ble_eq_true rfl) ?_
  intro p e s m below meth c ls hsz C hl wd
  subst hsz
  have C : Cx p s m _ meth c cX5_pageOf 3 (some .int) RX5 := C
  obtain ⟨hx, hb, hr, hml, hown, hts, hlk⟩ := id C
  have hl : lv_has ls 3 [(0, .ref (ad k)), (1, .int x1), (2, .int x2)] := hl
  unfold wpX5_pageOf at h
  refine lv_aload_n hx hb dX5_pageOf_0 rfl (lv_at hl 0 rfl) ?_
  refine getF C wd (k := k) (Cn := RX5) (T := TX5) (N := 2) (v := .ref (ad (2 * k - 3))) (by omega) (cc_X5 (k := k) (by omega) (by omega)) rfl 1 (by decide) rfl inX5 tw1_48 dX5_pageOf_1 ?_
  refine lv_iload_n hx hb dX5_pageOf_4 rfl (lv_at hl 1 rfl) ?_
  refine lv_iconst (v := (5 : Int32)) hx hb dX5_pageOf_5 (by decide) ?_
  refine lv_imul hx hb dX5_pageOf_6 ?_
  refine lv_iload_n hx hb dX5_pageOf_7 rfl (lv_at hl 2 rfl) ?_
  refine lv_iadd hx hb dX5_pageOf_8 ?_
  refine gCi wd (gRunSN (y := yX9_at) (As := [.ref (ad (2 * k - 3)), .int ((x1 * (5 : Int32)) + x2)]) (rest := []) C wd (cmX9_at (by omega) (by omega) (by omega) h) ⟨rfl, rfl⟩ gc_X9_at ns_49 tw1_1 tw2_92 nk_X9_at ⟨Nat.le_of_ble_eq_true rfl, Nat.le_of_ble_eq_true rfl⟩ hl.1 (Nat.le_of_ble_eq_true rfl) dX5_pageOf_9 rfl) (fun r2 t1 H locs h wd => ?_)
  try dsimp only at h
  exact retI C wd h dX5_pageOf_12
abbrev rmX5_copyRow : Room := rmOf 2 46
def wlX5_copyRow_3_body (k : Nat) (k2 : Nat) (Φ : St → Prop) (k_3 : Int32 → Int32 → Int32 → St → Prop) (x2 : Int32) (x3 : Int32) (x4 : Int32) (σ : St) : Prop :=
  (((5 : Int32) ≤ x4 → Φ σ) ∧ (¬ (5 : Int32) ≤ x4 → wpX5_lifeOf k2 x2 x4 σ (fun r3 t2 => wpX5_pageOf k2 x2 x4 t2 (fun r5 t4 => wpX5_set k x3 x4 r3 r5 t4 (fun t6 => (∀ y7 : Int32, y7 = x4 + (1 : Int32) → k_3 x2 x3 y7 t6))))))
def wlX5_copyRow_3 (k : Nat) (k2 : Nat) (Φ : St → Prop) : Nat → Int32 → Int32 → Int32 → St → Prop
  | 0 => fun _ _ _ _ => False
  | N + 1 => fun x2 x3 x4 σ => wlX5_copyRow_3_body k k2 Φ (wlX5_copyRow_3 k k2 Φ N) x2 x3 x4 σ
set_option maxHeartbeats 4000000 in
set_option maxRecDepth 100000 in
theorem llX5_copyRow_3 {p : Program} {l : Launch} {e : Env} {s : State} {m : MethodId} {args : Array Value} {below : List Frame} {meth : Method} {c : Code} {k : Nat} {k2 : Nat} (hn : 52 ≤ n) (hf0 : 10 ≤ k) (hf1 : k < 16) (hf2 : 10 ≤ k2) (hf3 : k2 < 16) (C : Cx p s m args meth c cX5_copyRow 5 none RX5) {Φ : St → Prop} : ∀ (N : Nat) (x2 : Int32) (x3 : Int32) (x4 : Int32) (σ : St) (H : Heap) (locs : List Loc) (ls : Array Slot), wlX5_copyRow_3 k k2 Φ N x2 x3 x4 σ → gWd D (tyL cyI cyO) (cCell ad cyI cyO) ad n s H locs σ → lv_has ls 5 [(0, .ref (ad k)), (1, .ref (ad k2)), (2, .int x2), (3, .int x3), (4, .int x4)] → W p l e rmX5_copyRow s m args below meth c H locs 0 0 (MQ below (gQv D (cCell ad cyI cyO) ad n s.heap.size Φ) args s 0 0 (gA ad n s.heap.size)) (F0 m 3 ls []) := by
  obtain ⟨hx, hb, hr, hml, hown, hts, hlk⟩ := id C
  intro N
  induction N with
  | zero =>
    intro x2 x3 x4 σ H locs ls h
    exact False.elim h
  | succ N ih =>
    intro x2 x3 x4 σ H locs ls h wd hl
    have h : wlX5_copyRow_3_body k k2 Φ (wlX5_copyRow_3 k k2 Φ N) x2 x3 x4 σ := h
    have hk_3 := ih
    unfold wlX5_copyRow_3_body at h
    refine lv_iload hx hb dX5_copyRow_3 (lv_at hl 4 rfl) ?_
    refine lv_iconst (v := (5 : Int32)) hx hb dX5_copyRow_5 (by decide) ?_
    refine lv_icmp_ge (tgt := 36) hx hb dX5_copyRow_6 (by decide) (fun c1 => ?_) (fun c1 => ?_)
    · have h := h.1 c1
      exact retV C wd h dX5_copyRow_36
    · have h := h.2 c1
      refine lv_aload_n hx hb dX5_copyRow_9 rfl (lv_at hl 0 rfl) ?_
      refine lv_iload_n hx hb dX5_copyRow_10 rfl (lv_at hl 3 rfl) ?_
      refine lv_iload hx hb dX5_copyRow_11 (lv_at hl 4 rfl) ?_
      refine lv_aload_n hx hb dX5_copyRow_13 rfl (lv_at hl 1 rfl) ?_
      refine lv_iload_n hx hb dX5_copyRow_14 rfl (lv_at hl 2 rfl) ?_
      refine lv_iload hx hb dX5_copyRow_15 (lv_at hl 4 rfl) ?_
      refine gCi wd (gRunV (y := yX5_lifeOf) (k := k2) (As := [.int x2, .int x4]) (rest := [.int x4, .int x3, .ref (ad k)]) C wd (cmX5_lifeOf (by omega) (by omega) (by omega) h) ⟨rfl, rfl⟩ gd_X5_35 nk_X5_lifeOf ⟨Nat.le_of_ble_eq_true rfl, Nat.le_of_ble_eq_true rfl⟩ (by omega) (cc_X5 (k := k2) (by omega) (by omega)) rfl rfl hl.1 (Nat.le_of_ble_eq_true rfl) dX5_copyRow_17 rfl) (fun r3 t2 H locs h wd => ?_)
      try dsimp only at h
      refine lv_aload_n hx hb dX5_copyRow_20 rfl (lv_at hl 1 rfl) ?_
      refine lv_iload_n hx hb dX5_copyRow_21 rfl (lv_at hl 2 rfl) ?_
      refine lv_iload hx hb dX5_copyRow_22 (lv_at hl 4 rfl) ?_
      refine gCi wd (gRunV (y := yX5_pageOf) (k := k2) (As := [.int x2, .int x4]) (rest := [.int r3, .int x4, .int x3, .ref (ad k)]) C wd (cmX5_pageOf (by omega) (by omega) (by omega) h) ⟨rfl, rfl⟩ gd_X5_38 nk_X5_pageOf ⟨Nat.le_of_ble_eq_true rfl, Nat.le_of_ble_eq_true rfl⟩ (by omega) (cc_X5 (k := k2) (by omega) (by omega)) rfl rfl hl.1 (Nat.le_of_ble_eq_true rfl) dX5_copyRow_24 rfl) (fun r5 t4 H locs h wd => ?_)
      try dsimp only at h
      refine gCv wd (gRunV (y := yX5_set) (k := k) (As := [.int x3, .int x4, .int r3, .int r5]) (rest := []) C wd (cmX5_set (by omega) (by omega) (by omega) h) ⟨rfl, rfl⟩ gd_X5_41 nk_X5_set ⟨Nat.le_of_ble_eq_true rfl, Nat.le_of_ble_eq_true rfl⟩ (by omega) (cc_X5 (k := k) (by omega) (by omega)) rfl rfl hl.1 (Nat.le_of_ble_eq_true rfl) dX5_copyRow_27 rfl) (fun t6 H locs h wd => ?_)
      try dsimp only at h
      obtain ⟨y7, ey7⟩ : ∃ y : Int32, y = x4 + (1 : Int32) := ⟨_, rfl⟩
      refine lv_iinc (v := y7) (lv' := [(4, .int y7), (0, .ref (ad k)), (1, .ref (ad k2)), (2, .int x2), (3, .int x3)]) hx hb dX5_copyRow_30 hl (k := 4) rfl (by rw [ey7]; rfl) (by decide) rfl (fun ls hl => ?_)
      have h := h y7 ey7
      refine lv_goto (tgt := 3) hx hb dX5_copyRow_33 (by decide) ?_
      exact hk_3 _ _ _ _ _ _ _ h wd (lv_sub hl [1, 2, 3, 4, 0] rfl)
def wpX5_copyRow (k : Nat) (k2 : Nat) (x2 : Int32) (x3 : Int32) (σ : St) (Φ : St → Prop) : Prop :=
  (∃ N, wlX5_copyRow_3 k k2 Φ N x2 x3 (0 : Int32) σ)
set_option maxHeartbeats 4000000 in
set_option maxRecDepth 100000 in
theorem cmX5_copyRow {D : va_G} {cyI cyO : ClassId} {ad : Nat → Nat} {n : Nat} {l : Launch} {k : Nat} {k2 : Nat} (hn : 52 ≤ n) (hf0 : 10 ≤ k) (hf1 : k < 16) (hf2 : 10 ≤ k2) (hf3 : k2 < 16) {x2 : Int32} {x3 : Int32} {σ : St} {sz : Nat} {Φ : St → Prop} (h : wpX5_copyRow k k2 x2 x3 σ Φ) : gMet D (tyL cyI cyO) (cCell ad cyI cyO) ad n l yX5_copyRow cX5_copyRow 5 none rmX5_copyRow [.ref (ad k), .ref (ad k2), .int x2, .int x3] σ sz (gQv D (cCell ad cyI cyO) ad n sz Φ) := by
  refine gMet.of (by decide) (Nat.le_of_ble_eq_true rfl) ?_
  intro p e s m below meth c ls hsz C hl wd
  subst hsz
  have C : Cx p s m _ meth c cX5_copyRow 5 none RX5 := C
  obtain ⟨hx, hb, hr, hml, hown, hts, hlk⟩ := id C
  have hl : lv_has ls 5 [(0, .ref (ad k)), (1, .ref (ad k2)), (2, .int x2), (3, .int x3)] := hl
  unfold wpX5_copyRow at h
  refine lv_iconst (v := (0 : Int32)) hx hb dX5_copyRow_0 (by decide) ?_
  refine lv_istore (lv' := [(4, .int (0 : Int32)), (0, .ref (ad k)), (1, .ref (ad k2)), (2, .int x2), (3, .int x3)]) hx hb dX5_copyRow_1 hl (by decide) rfl (fun ls hl => ?_)
  obtain ⟨N, h⟩ := h
  exact llX5_copyRow_3 hn hf0 hf1 hf2 hf3 C N _ _ _ _ _ _ _ h wd (lv_sub hl [1, 2, 3, 4, 0] rfl)
abbrev rmX0_addPage : Room := rmOf 3 70
def wpX0_addPage (k : Nat) (x1 : Int32) (σ : St) (Φ : Int32 → St → Prop) : Prop :=
  (∀ y1 : Int32, y1 = (σ.1 (32 * k + 2)) + (1 : Int32) → wpX9_at (14 + 3 * k) (σ.1 (32 * k + 2)) σ (fun r3 t2 => (∀ y4 : Int64, y4 = (r3.toInt64 * (3 : Int64)) + x1.toInt64 → wpX9_put (13 + 3 * k) y1 (t2.1 (32 * k + 1)) t2 (fun t5 => wpX9_leftOver y4 (1000003 : Int32) t5 (fun r7 t6 => wpX9_put (14 + 3 * k) y1 r7 t6 (fun t8 => wpX5_copyRow (k + 5) (k + 5) (t8.1 (32 * k + 2)) y1 t8 (fun t9 => wpX5_set (k + 5) y1 (nI (k - 5)) (t9.1 (32 * k + 1)) y1 t9 (fun t10 => (∀ t11 : St, t11 = setI t10 (32 * k + 2) y1 → Φ y1 t11)))))))))
set_option maxHeartbeats 4000000 in
set_option maxRecDepth 100000 in
theorem cmX0_addPage {D : va_G} {cyI cyO : ClassId} {ad : Nat → Nat} {n : Nat} {l : Launch} {k : Nat} (hn : 52 ≤ n) (hf0 : 5 ≤ k) (hf1 : k < 10) {x1 : Int32} {σ : St} {sz : Nat} {Φ : Int32 → St → Prop} (h : wpX0_addPage k x1 σ Φ) : gMet D (tyL cyI cyO) (cCell ad cyI cyO) ad n l yX0_addPage cX0_addPage 5 (some .int) rmX0_addPage [.ref (ad k), .int x1] σ sz (gQi D (cCell ad cyI cyO) ad n sz Φ) := by
  refine gMet.of (by decide) (Nat.le_of_ble_eq_true rfl) ?_
  intro p e s m below meth c ls hsz C hl wd
  subst hsz
  have C : Cx p s m _ meth c cX0_addPage 5 (some .int) RX0 := C
  obtain ⟨hx, hb, hr, hml, hown, hts, hlk⟩ := id C
  have hl : lv_has ls 5 [(0, .ref (ad k)), (1, .int x1)] := hl
  unfold wpX0_addPage at h
  refine lv_aload_n hx hb dX0_addPage_0 rfl (lv_at hl 0 rfl) ?_
  refine getF C wd (k := k) (Cn := RX0) (T := TX0) (N := 9) (v := .int (σ.1 (32 * k + 2))) (by omega) (cc_X0 (k := k) (by omega) (by omega)) rfl 2 (by decide) rfl inX0 tw1_137 dX0_addPage_1 ?_
  refine lv_iconst (v := (1 : Int32)) hx hb dX0_addPage_4 (by decide) ?_
  refine lv_iadd hx hb dX0_addPage_5 ?_
  refine lv_topi (fun y1 ey1 => ?_)
  have h := h y1 ey1
  refine lv_istore_n (lv' := [(2, .int y1), (0, .ref (ad k)), (1, .int x1)]) hx hb dX0_addPage_6 rfl hl (by decide) rfl (fun ls hl => ?_)
  refine lv_aload_n hx hb dX0_addPage_7 rfl (lv_at hl 1 rfl) ?_
  refine getF C wd (k := k) (Cn := RX0) (T := TX0) (N := 9) (v := .ref (ad (14 + 3 * k))) (by omega) (cc_X0 (k := k) (by omega) (by omega)) rfl 6 (by decide) rfl inX0 tw1_149 dX0_addPage_8 ?_
  refine lv_aload_n hx hb dX0_addPage_11 rfl (lv_at hl 1 rfl) ?_
  refine getF C wd (k := k) (Cn := RX0) (T := TX0) (N := 9) (v := .int (σ.1 (32 * k + 2))) (by omega) (cc_X0 (k := k) (by omega) (by omega)) rfl 2 (by decide) rfl inX0 tw1_137 dX0_addPage_12 ?_
  refine gCi wd (gRunSN (y := yX9_at) (As := [.ref (ad (14 + 3 * k)), .int (σ.1 (32 * k + 2))]) (rest := []) C wd (cmX9_at (by omega) (by omega) (by omega) h) ⟨rfl, rfl⟩ gc_X9_at ns_47 tw1_1 tw2_92 nk_X9_at ⟨Nat.le_of_ble_eq_true rfl, Nat.le_of_ble_eq_true rfl⟩ hl.1 (Nat.le_of_ble_eq_true rfl) dX0_addPage_15 rfl) (fun r3 t2 H locs h wd => ?_)
  try dsimp only at h
  refine lv_i2l hx hb dX0_addPage_18 rfl ?_
  refine lv_ldc2 (v := (3 : Int64)) hx hb hown (hts _ tw2_94) dX0_addPage_19 ?_
  refine lv_lmul hx hb dX0_addPage_22 ?_
  refine lv_iload_n hx hb dX0_addPage_23 rfl (lv_at hl 2 rfl) ?_
  refine lv_i2l hx hb dX0_addPage_24 rfl ?_
  refine lv_ladd hx hb dX0_addPage_25 ?_
  refine lv_topl (fun y4 ey4 => ?_)
  have h := h y4 ey4
  refine lv_lstore_n (lv' := [(3, .long y4), (2, .int y1), (0, .ref (ad k)), (1, .int x1)]) hx hb dX0_addPage_26 rfl hl (by decide) rfl (fun ls hl => ?_)
  refine lv_aload_n hx hb dX0_addPage_27 rfl (lv_at hl 2 rfl) ?_
  refine getF C wd (k := k) (Cn := RX0) (T := TX0) (N := 9) (v := .ref (ad (13 + 3 * k))) (by omega) (cc_X0 (k := k) (by omega) (by omega)) rfl 5 (by decide) rfl inX0 tw1_147 dX0_addPage_28 ?_
  refine lv_iload_n hx hb dX0_addPage_31 rfl (lv_at hl 1 rfl) ?_
  refine lv_aload_n hx hb dX0_addPage_32 rfl (lv_at hl 2 rfl) ?_
  refine getF C wd (k := k) (Cn := RX0) (T := TX0) (N := 9) (v := .int (t2.1 (32 * k + 1))) (by omega) (cc_X0 (k := k) (by omega) (by omega)) rfl 1 (by decide) rfl inX0 tw1_135 dX0_addPage_33 ?_
  refine gCv wd (gRunSN (y := yX9_put) (As := [.ref (ad (13 + 3 * k)), .int y1, .int (t2.1 (32 * k + 1))]) (rest := []) C wd (cmX9_put (by omega) (by omega) (by omega) h) ⟨rfl, rfl⟩ gc_X9_put ns_28 tw1_1 tw1_188 nk_X9_put ⟨Nat.le_of_ble_eq_true rfl, Nat.le_of_ble_eq_true rfl⟩ hl.1 (Nat.le_of_ble_eq_true rfl) dX0_addPage_36 rfl) (fun t5 H locs h wd => ?_)
  try dsimp only at h
  refine lv_aload_n hx hb dX0_addPage_39 rfl (lv_at hl 2 rfl) ?_
  refine getF C wd (k := k) (Cn := RX0) (T := TX0) (N := 9) (v := .ref (ad (14 + 3 * k))) (by omega) (cc_X0 (k := k) (by omega) (by omega)) rfl 6 (by decide) rfl inX0 tw1_149 dX0_addPage_40 ?_
  refine lv_iload_n hx hb dX0_addPage_43 rfl (lv_at hl 1 rfl) ?_
  refine lv_lload_n hx hb dX0_addPage_44 rfl (lv_at hl 0 rfl) ?_
  refine lv_ldc (v := (1000003 : Int32)) hx hb hown (hts _ tw2_95) dX0_addPage_45 ?_
  refine gCi wd (gRunSN (y := yX9_leftOver) (As := [.long y4, .int (1000003 : Int32)]) (rest := [.int y1, .ref (ad (14 + 3 * k))]) C wd (cmX9_leftOver h) ⟨rfl, rfl⟩ gc_X9_leftOver ns_48 tw1_1 tw2_97 nk_X9_leftOver ⟨Nat.le_of_ble_eq_true rfl, Nat.le_of_ble_eq_true rfl⟩ hl.1 (Nat.le_of_ble_eq_true rfl) dX0_addPage_47 rfl) (fun r7 t6 H locs h wd => ?_)
  try dsimp only at h
  refine gCv wd (gRunSN (y := yX9_put) (As := [.ref (ad (14 + 3 * k)), .int y1, .int r7]) (rest := []) C wd (cmX9_put (by omega) (by omega) (by omega) h) ⟨rfl, rfl⟩ gc_X9_put ns_28 tw1_1 tw1_188 nk_X9_put ⟨Nat.le_of_ble_eq_true rfl, Nat.le_of_ble_eq_true rfl⟩ hl.1 (Nat.le_of_ble_eq_true rfl) dX0_addPage_50 rfl) (fun t8 H locs h wd => ?_)
  try dsimp only at h
  refine lv_aload_n hx hb dX0_addPage_53 rfl (lv_at hl 2 rfl) ?_
  refine getF C wd (k := k) (Cn := RX0) (T := TX0) (N := 9) (v := .ref (ad (k + 5))) (by omega) (cc_X0 (k := k) (by omega) (by omega)) rfl 7 (by decide) rfl inX0 tw1_151 dX0_addPage_54 ?_
  refine lv_aload_n hx hb dX0_addPage_57 rfl (lv_at hl 2 rfl) ?_
  refine getF C wd (k := k) (Cn := RX0) (T := TX0) (N := 9) (v := .ref (ad (k + 5))) (by omega) (cc_X0 (k := k) (by omega) (by omega)) rfl 7 (by decide) rfl inX0 tw1_151 dX0_addPage_58 ?_
  refine lv_aload_n hx hb dX0_addPage_61 rfl (lv_at hl 2 rfl) ?_
  refine getF C wd (k := k) (Cn := RX0) (T := TX0) (N := 9) (v := .int (t8.1 (32 * k + 2))) (by omega) (cc_X0 (k := k) (by omega) (by omega)) rfl 2 (by decide) rfl inX0 tw1_137 dX0_addPage_62 ?_
  refine lv_iload_n hx hb dX0_addPage_65 rfl (lv_at hl 1 rfl) ?_
  refine gCv wd (gRunV (y := yX5_copyRow) (k := k + 5) (As := [.ref (ad (k + 5)), .int (t8.1 (32 * k + 2)), .int y1]) (rest := []) C wd (cmX5_copyRow (by omega) (by omega) (by omega) (by omega) (by omega) h) ⟨rfl, rfl⟩ gd_X0_65 nk_X5_copyRow ⟨Nat.le_of_ble_eq_true rfl, Nat.le_of_ble_eq_true rfl⟩ (by omega) (cc_X5 (k := k + 5) (by omega) (by omega)) rfl rfl hl.1 (Nat.le_of_ble_eq_true rfl) dX0_addPage_66 rfl) (fun t9 H locs h wd => ?_)
  try dsimp only at h
  refine lv_aload_n hx hb dX0_addPage_69 rfl (lv_at hl 2 rfl) ?_
  refine getF C wd (k := k) (Cn := RX0) (T := TX0) (N := 9) (v := .ref (ad (k + 5))) (by omega) (cc_X0 (k := k) (by omega) (by omega)) rfl 7 (by decide) rfl inX0 tw1_151 dX0_addPage_70 ?_
  refine lv_iload_n hx hb dX0_addPage_73 rfl (lv_at hl 1 rfl) ?_
  refine lv_aload_n hx hb dX0_addPage_74 rfl (lv_at hl 2 rfl) ?_
  refine getF C wd (k := k) (Cn := RX0) (T := TX0) (N := 9) (v := .int (nI (k - 5))) (by omega) (cc_X0 (k := k) (by omega) (by omega)) rfl 0 (by decide) rfl inX0 tw1_133 dX0_addPage_75 ?_
  refine lv_aload_n hx hb dX0_addPage_78 rfl (lv_at hl 2 rfl) ?_
  refine getF C wd (k := k) (Cn := RX0) (T := TX0) (N := 9) (v := .int (t9.1 (32 * k + 1))) (by omega) (cc_X0 (k := k) (by omega) (by omega)) rfl 1 (by decide) rfl inX0 tw1_135 dX0_addPage_79 ?_
  refine lv_iload_n hx hb dX0_addPage_82 rfl (lv_at hl 1 rfl) ?_
  refine gCv wd (gRunV (y := yX5_set) (k := k + 5) (As := [.int y1, .int (nI (k - 5)), .int (t9.1 (32 * k + 1)), .int y1]) (rest := []) C wd (cmX5_set (by omega) (by omega) (by omega) h) ⟨rfl, rfl⟩ gd_X0_50 nk_X5_set ⟨Nat.le_of_ble_eq_true rfl, Nat.le_of_ble_eq_true rfl⟩ (by omega) (cc_X5 (k := k + 5) (by omega) (by omega)) rfl rfl hl.1 (Nat.le_of_ble_eq_true rfl) dX0_addPage_83 rfl) (fun t10 H locs h wd => ?_)
  try dsimp only at h
  refine lv_aload_n hx hb dX0_addPage_86 rfl (lv_at hl 2 rfl) ?_
  refine lv_iload_n hx hb dX0_addPage_87 rfl (lv_at hl 1 rfl) ?_
  refine putF C wd (k := k) (Cn := RX0) (T := TX0) (N := 9) (σ' := setI t10 (32 * k + 2) y1) (by omega) (cc_X0 (k := k) (by omega) (by omega)) rfl tyX0_ok nmX0 2 (by decide) rfl (by decide +kernel) (Nat.le_of_ble_eq_true rfl) inX0 tw1_137 (cs_X0_now (by omega) (by omega)) dX0_addPage_88 (fun H locs wd => ?_)
  obtain ⟨t11, et11⟩ : ∃ z : St, z = setI t10 (32 * k + 2) y1 := ⟨_, rfl⟩
  rw [← et11] at wd
  have h := h t11 et11
  refine lv_iload_n hx hb dX0_addPage_91 rfl (lv_at hl 1 rfl) ?_
  exact retI C wd h dX0_addPage_92
abbrev rmX5_raise : Room := rmOf 2 46
def wbX5_raise_36 (k : Nat) (Φ : St → Prop) (x1 : Int32) (x2 : Int32) (x3 : Int32) (x4 : Int32) (z0 : Int32) (σ : St) : Prop :=
  ((z0 = 0 → Φ σ) ∧ (¬ z0 = 0 → wpX5_set k x1 x2 x3 x4 σ (fun t2 => Φ t2)))
set_option maxHeartbeats 4000000 in
set_option maxRecDepth 100000 in
theorem blX5_raise_36 {p : Program} {l : Launch} {e : Env} {s : State} {m : MethodId} {args : Array Value} {below : List Frame} {meth : Method} {c : Code} {k : Nat} (hn : 52 ≤ n) (hf0 : 10 ≤ k) (hf1 : k < 16) (C : Cx p s m args meth c cX5_raise 7 none RX5) {Φ : St → Prop} {x1 : Int32} {x2 : Int32} {x3 : Int32} {x4 : Int32} {z0 : Int32} {σ : St} {H : Heap} {locs : List Loc} {ls : Array Slot} (h : wbX5_raise_36 k Φ x1 x2 x3 x4 z0 σ) (wd : gWd D (tyL cyI cyO) (cCell ad cyI cyO) ad n s H locs σ) (hl : lv_has ls 7 [(0, .ref (ad k)), (1, .int x1), (2, .int x2), (3, .int x3), (4, .int x4)]) : W p l e rmX5_raise s m args below meth c H locs 0 0 (MQ below (gQv D (cCell ad cyI cyO) ad n s.heap.size Φ) args s 0 0 (gA ad n s.heap.size)) (F0 m 36 ls [.int z0]) := by
  obtain ⟨hx, hb, hr, hml, hown, hts, hlk⟩ := id C
  unfold wbX5_raise_36 at h
  refine lv_istore (lv' := [(6, .int z0), (0, .ref (ad k)), (1, .int x1), (2, .int x2), (3, .int x3), (4, .int x4)]) hx hb dX5_raise_36 hl (by decide) rfl (fun ls hl => ?_)
  refine lv_iload hx hb dX5_raise_38 (lv_at hl 0 rfl) ?_
  refine lv_if_eq (tgt := 52) hx hb dX5_raise_40 (by decide) (fun c1 => ?_) (fun c1 => ?_)
  · have h := h.1 c1
    exact retV C wd h dX5_raise_52
  · have h := h.2 c1
    refine lv_aload_n hx hb dX5_raise_43 rfl (lv_at hl 1 rfl) ?_
    refine lv_iload_n hx hb dX5_raise_44 rfl (lv_at hl 2 rfl) ?_
    refine lv_iload_n hx hb dX5_raise_45 rfl (lv_at hl 3 rfl) ?_
    refine lv_iload_n hx hb dX5_raise_46 rfl (lv_at hl 4 rfl) ?_
    refine lv_iload hx hb dX5_raise_47 (lv_at hl 5 rfl) ?_
    refine gCv wd (gRunV (y := yX5_set) (k := k) (As := [.int x1, .int x2, .int x3, .int x4]) (rest := []) C wd (cmX5_set (by omega) (by omega) (by omega) h) ⟨rfl, rfl⟩ gd_X5_41 nk_X5_set ⟨Nat.le_of_ble_eq_true rfl, Nat.le_of_ble_eq_true rfl⟩ (by omega) (cc_X5 (k := k) (by omega) (by omega)) rfl rfl hl.1 (Nat.le_of_ble_eq_true rfl) dX5_raise_49 rfl) (fun t2 H locs h wd => ?_)
    try dsimp only at h
    exact retV C wd h dX5_raise_52
def wbX5_raise_35 (k : Nat) (Φ : St → Prop) (x1 : Int32) (x2 : Int32) (x3 : Int32) (x4 : Int32) (σ : St) : Prop :=
  wbX5_raise_36 k Φ x1 x2 x3 x4 (0 : Int32) σ
set_option maxHeartbeats 4000000 in
set_option maxRecDepth 100000 in
theorem blX5_raise_35 {p : Program} {l : Launch} {e : Env} {s : State} {m : MethodId} {args : Array Value} {below : List Frame} {meth : Method} {c : Code} {k : Nat} (hn : 52 ≤ n) (hf0 : 10 ≤ k) (hf1 : k < 16) (C : Cx p s m args meth c cX5_raise 7 none RX5) {Φ : St → Prop} {x1 : Int32} {x2 : Int32} {x3 : Int32} {x4 : Int32} {σ : St} {H : Heap} {locs : List Loc} {ls : Array Slot} (h : wbX5_raise_35 k Φ x1 x2 x3 x4 σ) (wd : gWd D (tyL cyI cyO) (cCell ad cyI cyO) ad n s H locs σ) (hl : lv_has ls 7 [(0, .ref (ad k)), (1, .int x1), (2, .int x2), (3, .int x3), (4, .int x4)]) : W p l e rmX5_raise s m args below meth c H locs 0 0 (MQ below (gQv D (cCell ad cyI cyO) ad n s.heap.size Φ) args s 0 0 (gA ad n s.heap.size)) (F0 m 35 ls []) := by
  obtain ⟨hx, hb, hr, hml, hown, hts, hlk⟩ := id C
  unfold wbX5_raise_35 at h
  refine lv_iconst (v := (0 : Int32)) hx hb dX5_raise_35 (by decide) ?_
  exact blX5_raise_36 hn hf0 hf1 C h wd (lv_sub hl [0, 1, 2, 3, 4] rfl)
def wpX5_raise (k : Nat) (x1 : Int32) (x2 : Int32) (x3 : Int32) (x4 : Int32) (σ : St) (Φ : St → Prop) : Prop :=
  wpX5_lifeOf k x1 x2 σ (fun r2 t1 => ((r2 < x3 → wbX5_raise_36 k Φ x1 x2 x3 x4 (1 : Int32) t1) ∧ (¬ r2 < x3 → ((x3 = r2 → wpX5_pageOf k x1 x2 t1 (fun r6 t5 => ((x4 ≤ r6 → wbX5_raise_35 k Φ x1 x2 x3 x4 t5) ∧ (¬ x4 ≤ r6 → wbX5_raise_36 k Φ x1 x2 x3 x4 (1 : Int32) t5)))) ∧ (¬ x3 = r2 → wbX5_raise_35 k Φ x1 x2 x3 x4 t1)))))
set_option maxHeartbeats 4000000 in
set_option maxRecDepth 100000 in
theorem cmX5_raise {D : va_G} {cyI cyO : ClassId} {ad : Nat → Nat} {n : Nat} {l : Launch} {k : Nat} (hn : 52 ≤ n) (hf0 : 10 ≤ k) (hf1 : k < 16) {x1 : Int32} {x2 : Int32} {x3 : Int32} {x4 : Int32} {σ : St} {sz : Nat} {Φ : St → Prop} (h : wpX5_raise k x1 x2 x3 x4 σ Φ) : gMet D (tyL cyI cyO) (cCell ad cyI cyO) ad n l yX5_raise cX5_raise 7 none rmX5_raise [.ref (ad k), .int x1, .int x2, .int x3, .int x4] σ sz (gQv D (cCell ad cyI cyO) ad n sz Φ) := by
  refine gMet.of (by decide) (Nat.le_of_ble_eq_true rfl) ?_
  intro p e s m below meth c ls hsz C hl wd
  subst hsz
  have C : Cx p s m _ meth c cX5_raise 7 none RX5 := C
  obtain ⟨hx, hb, hr, hml, hown, hts, hlk⟩ := id C
  have hl : lv_has ls 7 [(0, .ref (ad k)), (1, .int x1), (2, .int x2), (3, .int x3), (4, .int x4)] := hl
  unfold wpX5_raise at h
  refine lv_aload_n hx hb dX5_raise_0 rfl (lv_at hl 0 rfl) ?_
  refine lv_iload_n hx hb dX5_raise_1 rfl (lv_at hl 1 rfl) ?_
  refine lv_iload_n hx hb dX5_raise_2 rfl (lv_at hl 2 rfl) ?_
  refine gCi wd (gRunV (y := yX5_lifeOf) (k := k) (As := [.int x1, .int x2]) (rest := []) C wd (cmX5_lifeOf (by omega) (by omega) (by omega) h) ⟨rfl, rfl⟩ gd_X5_35 nk_X5_lifeOf ⟨Nat.le_of_ble_eq_true rfl, Nat.le_of_ble_eq_true rfl⟩ (by omega) (cc_X5 (k := k) (by omega) (by omega)) rfl rfl hl.1 (Nat.le_of_ble_eq_true rfl) dX5_raise_3 rfl) (fun r2 t1 H locs h wd => ?_)
  try dsimp only at h
  refine lv_istore (lv' := [(5, .int r2), (0, .ref (ad k)), (1, .int x1), (2, .int x2), (3, .int x3), (4, .int x4)]) hx hb dX5_raise_6 hl (by decide) rfl (fun ls hl => ?_)
  refine lv_iload_n hx hb dX5_raise_8 rfl (lv_at hl 4 rfl) ?_
  refine lv_iload hx hb dX5_raise_9 (lv_at hl 0 rfl) ?_
  refine lv_icmp_gt (tgt := 31) hx hb dX5_raise_11 (by decide) (fun c3 => ?_) (fun c3 => ?_)
  · have h := h.1 c3
    refine lv_iconst (v := (1 : Int32)) hx hb dX5_raise_31 (by decide) ?_
    refine lv_goto (tgt := 36) hx hb dX5_raise_32 (by decide) ?_
    exact blX5_raise_36 hn hf0 hf1 C h wd (lv_sub hl [1, 2, 3, 4, 5] rfl)
  · have h := h.2 c3
    refine lv_iload_n hx hb dX5_raise_14 rfl (lv_at hl 4 rfl) ?_
    refine lv_iload hx hb dX5_raise_15 (lv_at hl 0 rfl) ?_
    refine lv_icmp_ne (tgt := 35) hx hb dX5_raise_17 (by decide) (fun c4 => ?_) (fun c4 => ?_)
    · have h := h.2 c4
      exact blX5_raise_35 hn hf0 hf1 C h wd (lv_sub hl [1, 2, 3, 4, 5] rfl)
    · have h := h.1 c4
      refine lv_iload hx hb dX5_raise_20 (lv_at hl 5 rfl) ?_
      refine lv_aload_n hx hb dX5_raise_22 rfl (lv_at hl 1 rfl) ?_
      refine lv_iload_n hx hb dX5_raise_23 rfl (lv_at hl 2 rfl) ?_
      refine lv_iload_n hx hb dX5_raise_24 rfl (lv_at hl 3 rfl) ?_
      refine gCi wd (gRunV (y := yX5_pageOf) (k := k) (As := [.int x1, .int x2]) (rest := [.int x4]) C wd (cmX5_pageOf (by omega) (by omega) (by omega) h) ⟨rfl, rfl⟩ gd_X5_38 nk_X5_pageOf ⟨Nat.le_of_ble_eq_true rfl, Nat.le_of_ble_eq_true rfl⟩ (by omega) (cc_X5 (k := k) (by omega) (by omega)) rfl rfl hl.1 (Nat.le_of_ble_eq_true rfl) dX5_raise_25 rfl) (fun r6 t5 H locs h wd => ?_)
      try dsimp only at h
      refine lv_icmp_le (tgt := 35) hx hb dX5_raise_28 (by decide) (fun c7 => ?_) (fun c7 => ?_)
      · have h := h.1 c7
        exact blX5_raise_35 hn hf0 hf1 C h wd (lv_sub hl [1, 2, 3, 4, 5] rfl)
      · have h := h.2 c7
        refine lv_iconst (v := (1 : Int32)) hx hb dX5_raise_31 (by decide) ?_
        refine lv_goto (tgt := 36) hx hb dX5_raise_32 (by decide) ?_
        exact blX5_raise_36 hn hf0 hf1 C h wd (lv_sub hl [1, 2, 3, 4, 5] rfl)
abbrev rmX0_restAlsoOn : Room := rmOf 3 72
def wbX0_restAlsoOn_39 (k : Nat) (k2 : Nat) (Φ : St → Prop) (k_2 : Int32 → Int32 → St → Prop) (x2 : Int32) (x3 : Int32) (σ : St) : Prop :=
  (∀ y1 : Int32, y1 = x3 + (1 : Int32) → k_2 x2 y1 σ)
set_option maxHeartbeats 4000000 in
set_option maxRecDepth 100000 in
theorem blX0_restAlsoOn_39 {p : Program} {l : Launch} {e : Env} {s : State} {m : MethodId} {args : Array Value} {below : List Frame} {meth : Method} {c : Code} {k : Nat} {k2 : Nat} (hn : 52 ≤ n) (hf0 : 5 ≤ k) (hf1 : k < 10) (hf2 : 10 ≤ k2) (hf3 : k2 < 16) (C : Cx p s m args meth c cX0_restAlsoOn 4 none RX0) {Φ : St → Prop} {k_2 : Int32 → Int32 → St → Prop} (hk_2 : ∀ (x2 : Int32) (x3 : Int32) (σ : St) (H : Heap) (locs : List Loc) (ls : Array Slot), k_2 x2 x3 σ → gWd D (tyL cyI cyO) (cCell ad cyI cyO) ad n s H locs σ → lv_has ls 4 [(0, .ref (ad k)), (1, .ref (ad k2)), (2, .int x2), (3, .int x3)] → W p l e rmX0_restAlsoOn s m args below meth c H locs 0 0 (MQ below (gQv D (cCell ad cyI cyO) ad n s.heap.size Φ) args s 0 0 (gA ad n s.heap.size)) (F0 m 2 ls [])) {x2 : Int32} {x3 : Int32} {σ : St} {H : Heap} {locs : List Loc} {ls : Array Slot} (h : wbX0_restAlsoOn_39 k k2 Φ k_2 x2 x3 σ) (wd : gWd D (tyL cyI cyO) (cCell ad cyI cyO) ad n s H locs σ) (hl : lv_has ls 4 [(0, .ref (ad k)), (1, .ref (ad k2)), (2, .int x2), (3, .int x3)]) : W p l e rmX0_restAlsoOn s m args below meth c H locs 0 0 (MQ below (gQv D (cCell ad cyI cyO) ad n s.heap.size Φ) args s 0 0 (gA ad n s.heap.size)) (F0 m 39 ls []) := by
  obtain ⟨hx, hb, hr, hml, hown, hts, hlk⟩ := id C
  unfold wbX0_restAlsoOn_39 at h
  obtain ⟨y1, ey1⟩ : ∃ y : Int32, y = x3 + (1 : Int32) := ⟨_, rfl⟩
  refine lv_iinc (v := y1) (lv' := [(3, .int y1), (0, .ref (ad k)), (1, .ref (ad k2)), (2, .int x2)]) hx hb dX0_restAlsoOn_39 hl (k := 3) rfl (by rw [ey1]; rfl) (by decide) rfl (fun ls hl => ?_)
  have h := h y1 ey1
  refine lv_goto (tgt := 2) hx hb dX0_restAlsoOn_42 (by decide) ?_
  exact hk_2 _ _ _ _ _ _ h wd (lv_sub hl [1, 2, 3, 0] rfl)
def wlX0_restAlsoOn_2_body (k : Nat) (k2 : Nat) (Φ : St → Prop) (k_2 : Int32 → Int32 → St → Prop) (x2 : Int32) (x3 : Int32) (σ : St) : Prop :=
  (((5 : Int32) ≤ x3 → Φ σ) ∧ (¬ (5 : Int32) ≤ x3 → ((x3 = (nI (k - 5)) → wbX0_restAlsoOn_39 k k2 Φ k_2 x2 x3 σ) ∧ (¬ x3 = (nI (k - 5)) → wpX5_lifeOf k2 x2 x3 σ (fun r4 t3 => wpX5_pageOf k2 x2 x3 t3 (fun r6 t5 => wpX5_raise (k + 5) (σ.1 (32 * k + 2)) x3 r4 r6 t5 (fun t7 => wbX0_restAlsoOn_39 k k2 Φ k_2 x2 x3 t7)))))))
def wlX0_restAlsoOn_2 (k : Nat) (k2 : Nat) (Φ : St → Prop) : Nat → Int32 → Int32 → St → Prop
  | 0 => fun _ _ _ => False
  | N + 1 => fun x2 x3 σ => wlX0_restAlsoOn_2_body k k2 Φ (wlX0_restAlsoOn_2 k k2 Φ N) x2 x3 σ
set_option maxHeartbeats 4000000 in
set_option maxRecDepth 100000 in
theorem llX0_restAlsoOn_2 {p : Program} {l : Launch} {e : Env} {s : State} {m : MethodId} {args : Array Value} {below : List Frame} {meth : Method} {c : Code} {k : Nat} {k2 : Nat} (hn : 52 ≤ n) (hf0 : 5 ≤ k) (hf1 : k < 10) (hf2 : 10 ≤ k2) (hf3 : k2 < 16) (C : Cx p s m args meth c cX0_restAlsoOn 4 none RX0) {Φ : St → Prop} : ∀ (N : Nat) (x2 : Int32) (x3 : Int32) (σ : St) (H : Heap) (locs : List Loc) (ls : Array Slot), wlX0_restAlsoOn_2 k k2 Φ N x2 x3 σ → gWd D (tyL cyI cyO) (cCell ad cyI cyO) ad n s H locs σ → lv_has ls 4 [(0, .ref (ad k)), (1, .ref (ad k2)), (2, .int x2), (3, .int x3)] → W p l e rmX0_restAlsoOn s m args below meth c H locs 0 0 (MQ below (gQv D (cCell ad cyI cyO) ad n s.heap.size Φ) args s 0 0 (gA ad n s.heap.size)) (F0 m 2 ls []) := by
  obtain ⟨hx, hb, hr, hml, hown, hts, hlk⟩ := id C
  intro N
  induction N with
  | zero =>
    intro x2 x3 σ H locs ls h
    exact False.elim h
  | succ N ih =>
    intro x2 x3 σ H locs ls h wd hl
    have h : wlX0_restAlsoOn_2_body k k2 Φ (wlX0_restAlsoOn_2 k k2 Φ N) x2 x3 σ := h
    have hk_2 := ih
    unfold wlX0_restAlsoOn_2_body at h
    refine lv_iload_n hx hb dX0_restAlsoOn_2 rfl (lv_at hl 3 rfl) ?_
    refine lv_iconst (v := (5 : Int32)) hx hb dX0_restAlsoOn_3 (by decide) ?_
    refine lv_icmp_ge (tgt := 45) hx hb dX0_restAlsoOn_4 (by decide) (fun c1 => ?_) (fun c1 => ?_)
    · have h := h.1 c1
      exact retV C wd h dX0_restAlsoOn_45
    · have h := h.2 c1
      refine lv_iload_n hx hb dX0_restAlsoOn_7 rfl (lv_at hl 3 rfl) ?_
      refine lv_aload_n hx hb dX0_restAlsoOn_8 rfl (lv_at hl 0 rfl) ?_
      refine getF C wd (k := k) (Cn := RX0) (T := TX0) (N := 9) (v := .int (nI (k - 5))) (by omega) (cc_X0 (k := k) (by omega) (by omega)) rfl 0 (by decide) rfl inX0 tw1_133 dX0_restAlsoOn_9 ?_
      refine lv_icmp_eq (tgt := 39) hx hb dX0_restAlsoOn_12 (by decide) (fun c2 => ?_) (fun c2 => ?_)
      · have h := h.1 c2
        exact blX0_restAlsoOn_39 hn hf0 hf1 hf2 hf3 C hk_2 h wd (lv_sub hl [0, 1, 2, 3] rfl)
      · have h := h.2 c2
        refine lv_aload_n hx hb dX0_restAlsoOn_15 rfl (lv_at hl 0 rfl) ?_
        refine getF C wd (k := k) (Cn := RX0) (T := TX0) (N := 9) (v := .ref (ad (k + 5))) (by omega) (cc_X0 (k := k) (by omega) (by omega)) rfl 7 (by decide) rfl inX0 tw1_151 dX0_restAlsoOn_16 ?_
        refine lv_aload_n hx hb dX0_restAlsoOn_19 rfl (lv_at hl 0 rfl) ?_
        refine getF C wd (k := k) (Cn := RX0) (T := TX0) (N := 9) (v := .int (σ.1 (32 * k + 2))) (by omega) (cc_X0 (k := k) (by omega) (by omega)) rfl 2 (by decide) rfl inX0 tw1_137 dX0_restAlsoOn_20 ?_
        refine lv_iload_n hx hb dX0_restAlsoOn_23 rfl (lv_at hl 3 rfl) ?_
        refine lv_aload_n hx hb dX0_restAlsoOn_24 rfl (lv_at hl 1 rfl) ?_
        refine lv_iload_n hx hb dX0_restAlsoOn_25 rfl (lv_at hl 2 rfl) ?_
        refine lv_iload_n hx hb dX0_restAlsoOn_26 rfl (lv_at hl 3 rfl) ?_
        refine gCi wd (gRunV (y := yX5_lifeOf) (k := k2) (As := [.int x2, .int x3]) (rest := [.int x3, .int (σ.1 (32 * k + 2)), .ref (ad (k + 5))]) C wd (cmX5_lifeOf (by omega) (by omega) (by omega) h) ⟨rfl, rfl⟩ gd_X0_69 nk_X5_lifeOf ⟨Nat.le_of_ble_eq_true rfl, Nat.le_of_ble_eq_true rfl⟩ (by omega) (cc_X5 (k := k2) (by omega) (by omega)) rfl rfl hl.1 (Nat.le_of_ble_eq_true rfl) dX0_restAlsoOn_27 rfl) (fun r4 t3 H locs h wd => ?_)
        try dsimp only at h
        refine lv_aload_n hx hb dX0_restAlsoOn_30 rfl (lv_at hl 1 rfl) ?_
        refine lv_iload_n hx hb dX0_restAlsoOn_31 rfl (lv_at hl 2 rfl) ?_
        refine lv_iload_n hx hb dX0_restAlsoOn_32 rfl (lv_at hl 3 rfl) ?_
        refine gCi wd (gRunV (y := yX5_pageOf) (k := k2) (As := [.int x2, .int x3]) (rest := [.int r4, .int x3, .int (σ.1 (32 * k + 2)), .ref (ad (k + 5))]) C wd (cmX5_pageOf (by omega) (by omega) (by omega) h) ⟨rfl, rfl⟩ gd_X0_73 nk_X5_pageOf ⟨Nat.le_of_ble_eq_true rfl, Nat.le_of_ble_eq_true rfl⟩ (by omega) (cc_X5 (k := k2) (by omega) (by omega)) rfl rfl hl.1 (Nat.le_of_ble_eq_true rfl) dX0_restAlsoOn_33 rfl) (fun r6 t5 H locs h wd => ?_)
        try dsimp only at h
        refine gCv wd (gRunV (y := yX5_raise) (k := k + 5) (As := [.int (σ.1 (32 * k + 2)), .int x3, .int r4, .int r6]) (rest := []) C wd (cmX5_raise (by omega) (by omega) (by omega) h) ⟨rfl, rfl⟩ gd_X0_76 nk_X5_raise ⟨Nat.le_of_ble_eq_true rfl, Nat.le_of_ble_eq_true rfl⟩ (by omega) (cc_X5 (k := k + 5) (by omega) (by omega)) rfl rfl hl.1 (Nat.le_of_ble_eq_true rfl) dX0_restAlsoOn_36 rfl) (fun t7 H locs h wd => ?_)
        try dsimp only at h
        exact blX0_restAlsoOn_39 hn hf0 hf1 hf2 hf3 C hk_2 h wd (lv_sub hl [0, 1, 2, 3] rfl)
def wpX0_restAlsoOn (k : Nat) (k2 : Nat) (x2 : Int32) (σ : St) (Φ : St → Prop) : Prop :=
  (∃ N, wlX0_restAlsoOn_2 k k2 Φ N x2 (0 : Int32) σ)
set_option maxHeartbeats 4000000 in
set_option maxRecDepth 100000 in
theorem cmX0_restAlsoOn {D : va_G} {cyI cyO : ClassId} {ad : Nat → Nat} {n : Nat} {l : Launch} {k : Nat} {k2 : Nat} (hn : 52 ≤ n) (hf0 : 5 ≤ k) (hf1 : k < 10) (hf2 : 10 ≤ k2) (hf3 : k2 < 16) {x2 : Int32} {σ : St} {sz : Nat} {Φ : St → Prop} (h : wpX0_restAlsoOn k k2 x2 σ Φ) : gMet D (tyL cyI cyO) (cCell ad cyI cyO) ad n l yX0_restAlsoOn cX0_restAlsoOn 4 none rmX0_restAlsoOn [.ref (ad k), .ref (ad k2), .int x2] σ sz (gQv D (cCell ad cyI cyO) ad n sz Φ) := by
  refine gMet.of (by decide) (Nat.le_of_ble_eq_true rfl) ?_
  intro p e s m below meth c ls hsz C hl wd
  subst hsz
  have C : Cx p s m _ meth c cX0_restAlsoOn 4 none RX0 := C
  obtain ⟨hx, hb, hr, hml, hown, hts, hlk⟩ := id C
  have hl : lv_has ls 4 [(0, .ref (ad k)), (1, .ref (ad k2)), (2, .int x2)] := hl
  unfold wpX0_restAlsoOn at h
  refine lv_iconst (v := (0 : Int32)) hx hb dX0_restAlsoOn_0 (by decide) ?_
  refine lv_istore_n (lv' := [(3, .int (0 : Int32)), (0, .ref (ad k)), (1, .ref (ad k2)), (2, .int x2)]) hx hb dX0_restAlsoOn_1 rfl hl (by decide) rfl (fun ls hl => ?_)
  obtain ⟨N, h⟩ := h
  exact llX0_restAlsoOn_2 hn hf0 hf1 hf2 hf3 C N _ _ _ _ _ _ h wd (lv_sub hl [1, 2, 3, 0] rfl)
abbrev rmX0_writeMore : Room := rmOf 1 21
def wpX0_writeMore (k : Nat) (x1 : Int32) (σ : St) (Φ : Int32 → St → Prop) : Prop :=
  (∀ t1 : St, t1 = setI σ (32 * k + 3) (if ((σ.1 (32 * k + 3)) + x1) < (σ.1 (32 * k + 2)) then ((σ.1 (32 * k + 3)) + x1) else (σ.1 (32 * k + 2))) → Φ (t1.1 (32 * k + 3)) t1)
set_option maxHeartbeats 4000000 in
set_option maxRecDepth 100000 in
theorem cmX0_writeMore {D : va_G} {cyI cyO : ClassId} {ad : Nat → Nat} {n : Nat} {l : Launch} {k : Nat} (hn : 52 ≤ n) (hf0 : 5 ≤ k) (hf1 : k < 10) {x1 : Int32} {σ : St} {sz : Nat} {Φ : Int32 → St → Prop} (h : wpX0_writeMore k x1 σ Φ) : gMet D (tyL cyI cyO) (cCell ad cyI cyO) ad n l yX0_writeMore cX0_writeMore 2 (some .int) rmX0_writeMore [.ref (ad k), .int x1] σ sz (gQi D (cCell ad cyI cyO) ad n sz Φ) := by
  refine gMet.of (by decide) (Nat.le_of_ble_eq_true rfl) ?_
  intro p e s m below meth c ls hsz C hl wd
  subst hsz
  have C : Cx p s m _ meth c cX0_writeMore 2 (some .int) RX0 := C
  obtain ⟨hx, hb, hr, hml, hown, hts, hlk⟩ := id C
  have hl : lv_has ls 2 [(0, .ref (ad k)), (1, .int x1)] := hl
  unfold wpX0_writeMore at h
  refine lv_aload_n hx hb dX0_writeMore_0 rfl (lv_at hl 0 rfl) ?_
  refine lv_aload_n hx hb dX0_writeMore_1 rfl (lv_at hl 0 rfl) ?_
  refine getF C wd (k := k) (Cn := RX0) (T := TX0) (N := 9) (v := .int (σ.1 (32 * k + 2))) (by omega) (cc_X0 (k := k) (by omega) (by omega)) rfl 2 (by decide) rfl inX0 tw1_137 dX0_writeMore_2 ?_
  refine lv_aload_n hx hb dX0_writeMore_5 rfl (lv_at hl 0 rfl) ?_
  refine getF C wd (k := k) (Cn := RX0) (T := TX0) (N := 9) (v := .int (σ.1 (32 * k + 3))) (by omega) (cc_X0 (k := k) (by omega) (by omega)) rfl 3 (by decide) rfl inX0 tw1_141 dX0_writeMore_6 ?_
  refine lv_iload_n hx hb dX0_writeMore_9 rfl (lv_at hl 1 rfl) ?_
  refine lv_iadd hx hb dX0_writeMore_10 ?_
  refine gMin C hl.1 tw2_182 tw1_42 tw1_5 tw1_43 (Nat.le_of_ble_eq_true rfl) (Nat.le_of_ble_eq_true rfl) dX0_writeMore_11 ?_
  refine putF C wd (k := k) (Cn := RX0) (T := TX0) (N := 9) (σ' := setI σ (32 * k + 3) (if ((σ.1 (32 * k + 3)) + x1) < (σ.1 (32 * k + 2)) then ((σ.1 (32 * k + 3)) + x1) else (σ.1 (32 * k + 2)))) (by omega) (cc_X0 (k := k) (by omega) (by omega)) rfl tyX0_ok nmX0 3 (by decide) rfl (by decide +kernel) (Nat.le_of_ble_eq_true rfl) inX0 tw1_141 (cs_X0_written (by omega) (by omega)) dX0_writeMore_14 (fun H locs wd => ?_)
  obtain ⟨t1, et1⟩ : ∃ z : St, z = setI σ (32 * k + 3) (if ((σ.1 (32 * k + 3)) + x1) < (σ.1 (32 * k + 2)) then ((σ.1 (32 * k + 3)) + x1) else (σ.1 (32 * k + 2))) := ⟨_, rfl⟩
  rw [← et1] at wd
  have h := h t1 et1
  refine lv_aload_n hx hb dX0_writeMore_17 rfl (lv_at hl 0 rfl) ?_
  refine getF C wd (k := k) (Cn := RX0) (T := TX0) (N := 9) (v := .int (t1.1 (32 * k + 3))) (by omega) (cc_X0 (k := k) (by omega) (by omega)) rfl 3 (by decide) rfl inX0 tw1_141 dX0_writeMore_18 ?_
  exact retI C wd h dX0_writeMore_21
abbrev rmX0_fallBack : Room := rmOf 1 22
def wpX0_fallBack (k : Nat) (x1 : Int32) (σ : St) (Φ : St → Prop) : Prop :=
  wpX9_put (15 + 3 * k) (σ.1 (32 * k + 1)) x1 σ (fun t1 => (∀ t2 : St, t2 = setI t1 (32 * k + 1) ((t1.1 (32 * k + 1)) + (1 : Int32)) → (∀ t3 : St, t3 = setI t2 (32 * k + 2) x1 → (∀ t4 : St, t4 = setI t3 (32 * k + 3) (if x1 < (t3.1 (32 * k + 3)) then x1 else (t3.1 (32 * k + 3))) → Φ t4))))
set_option maxHeartbeats 4000000 in
set_option maxRecDepth 100000 in
theorem cmX0_fallBack {D : va_G} {cyI cyO : ClassId} {ad : Nat → Nat} {n : Nat} {l : Launch} {k : Nat} (hn : 52 ≤ n) (hf0 : 5 ≤ k) (hf1 : k < 10) {x1 : Int32} {σ : St} {sz : Nat} {Φ : St → Prop} (h : wpX0_fallBack k x1 σ Φ) : gMet D (tyL cyI cyO) (cCell ad cyI cyO) ad n l yX0_fallBack cX0_fallBack 2 none rmX0_fallBack [.ref (ad k), .int x1] σ sz (gQv D (cCell ad cyI cyO) ad n sz Φ) := by
  refine gMet.of (by decide) (Nat.le_of_ble_eq_true rfl) ?_
  intro p e s m below meth c ls hsz C hl wd
  subst hsz
  have C : Cx p s m _ meth c cX0_fallBack 2 none RX0 := C
  obtain ⟨hx, hb, hr, hml, hown, hts, hlk⟩ := id C
  have hl : lv_has ls 2 [(0, .ref (ad k)), (1, .int x1)] := hl
  unfold wpX0_fallBack at h
  refine lv_aload_n hx hb dX0_fallBack_0 rfl (lv_at hl 0 rfl) ?_
  refine getF C wd (k := k) (Cn := RX0) (T := TX0) (N := 9) (v := .ref (ad (15 + 3 * k))) (by omega) (cc_X0 (k := k) (by omega) (by omega)) rfl 8 (by decide) rfl inX0 tw1_155 dX0_fallBack_1 ?_
  refine lv_aload_n hx hb dX0_fallBack_4 rfl (lv_at hl 0 rfl) ?_
  refine getF C wd (k := k) (Cn := RX0) (T := TX0) (N := 9) (v := .int (σ.1 (32 * k + 1))) (by omega) (cc_X0 (k := k) (by omega) (by omega)) rfl 1 (by decide) rfl inX0 tw1_135 dX0_fallBack_5 ?_
  refine lv_iload_n hx hb dX0_fallBack_8 rfl (lv_at hl 1 rfl) ?_
  refine gCv wd (gRunSN (y := yX9_put) (As := [.ref (ad (15 + 3 * k)), .int (σ.1 (32 * k + 1)), .int x1]) (rest := []) C wd (cmX9_put (by omega) (by omega) (by omega) h) ⟨rfl, rfl⟩ gc_X9_put ns_28 tw1_1 tw1_188 nk_X9_put ⟨Nat.le_of_ble_eq_true rfl, Nat.le_of_ble_eq_true rfl⟩ hl.1 (Nat.le_of_ble_eq_true rfl) dX0_fallBack_9 rfl) (fun t1 H locs h wd => ?_)
  try dsimp only at h
  refine lv_aload_n hx hb dX0_fallBack_12 rfl (lv_at hl 0 rfl) ?_
  refine lv_dup hx hb dX0_fallBack_13 rfl ?_
  refine getF C wd (k := k) (Cn := RX0) (T := TX0) (N := 9) (v := .int (t1.1 (32 * k + 1))) (by omega) (cc_X0 (k := k) (by omega) (by omega)) rfl 1 (by decide) rfl inX0 tw1_135 dX0_fallBack_14 ?_
  refine lv_iconst (v := (1 : Int32)) hx hb dX0_fallBack_17 (by decide) ?_
  refine lv_iadd hx hb dX0_fallBack_18 ?_
  refine putF C wd (k := k) (Cn := RX0) (T := TX0) (N := 9) (σ' := setI t1 (32 * k + 1) ((t1.1 (32 * k + 1)) + (1 : Int32))) (by omega) (cc_X0 (k := k) (by omega) (by omega)) rfl tyX0_ok nmX0 1 (by decide) rfl (by decide +kernel) (Nat.le_of_ble_eq_true rfl) inX0 tw1_135 (cs_X0_life (by omega) (by omega)) dX0_fallBack_19 (fun H locs wd => ?_)
  obtain ⟨t2, et2⟩ : ∃ z : St, z = setI t1 (32 * k + 1) ((t1.1 (32 * k + 1)) + (1 : Int32)) := ⟨_, rfl⟩
  rw [← et2] at wd
  have h := h t2 et2
  refine lv_aload_n hx hb dX0_fallBack_22 rfl (lv_at hl 0 rfl) ?_
  refine lv_iload_n hx hb dX0_fallBack_23 rfl (lv_at hl 1 rfl) ?_
  refine putF C wd (k := k) (Cn := RX0) (T := TX0) (N := 9) (σ' := setI t2 (32 * k + 2) x1) (by omega) (cc_X0 (k := k) (by omega) (by omega)) rfl tyX0_ok nmX0 2 (by decide) rfl (by decide +kernel) (Nat.le_of_ble_eq_true rfl) inX0 tw1_137 (cs_X0_now (by omega) (by omega)) dX0_fallBack_24 (fun H locs wd => ?_)
  obtain ⟨t3, et3⟩ : ∃ z : St, z = setI t2 (32 * k + 2) x1 := ⟨_, rfl⟩
  rw [← et3] at wd
  have h := h t3 et3
  refine lv_aload_n hx hb dX0_fallBack_27 rfl (lv_at hl 0 rfl) ?_
  refine lv_aload_n hx hb dX0_fallBack_28 rfl (lv_at hl 0 rfl) ?_
  refine getF C wd (k := k) (Cn := RX0) (T := TX0) (N := 9) (v := .int (t3.1 (32 * k + 3))) (by omega) (cc_X0 (k := k) (by omega) (by omega)) rfl 3 (by decide) rfl inX0 tw1_141 dX0_fallBack_29 ?_
  refine lv_iload_n hx hb dX0_fallBack_32 rfl (lv_at hl 1 rfl) ?_
  refine gMin C hl.1 tw2_182 tw1_42 tw1_5 tw1_43 (Nat.le_of_ble_eq_true rfl) (Nat.le_of_ble_eq_true rfl) dX0_fallBack_33 ?_
  refine putF C wd (k := k) (Cn := RX0) (T := TX0) (N := 9) (σ' := setI t3 (32 * k + 3) (if x1 < (t3.1 (32 * k + 3)) then x1 else (t3.1 (32 * k + 3)))) (by omega) (cc_X0 (k := k) (by omega) (by omega)) rfl tyX0_ok nmX0 3 (by decide) rfl (by decide +kernel) (Nat.le_of_ble_eq_true rfl) inX0 tw1_141 (cs_X0_written (by omega) (by omega)) dX0_fallBack_36 (fun H locs wd => ?_)
  obtain ⟨t4, et4⟩ : ∃ z : St, z = setI t3 (32 * k + 3) (if x1 < (t3.1 (32 * k + 3)) then x1 else (t3.1 (32 * k + 3))) := ⟨_, rfl⟩
  rw [← et4] at wd
  have h := h t4 et4
  exact retV C wd h dX0_fallBack_39
abbrev rmX0_endOf : Room := rmOf 1 21
def wpX0_endOf (k : Nat) (x1 : Int32) (σ : St) (Φ : Int32 → St → Prop) : Prop :=
  ((x1 < 0 → Φ (-1 : Int32) σ) ∧ (¬ x1 < 0 → (((σ.1 (32 * k + 1)) ≤ x1 → Φ (-1 : Int32) σ) ∧ (¬ (σ.1 (32 * k + 1)) ≤ x1 → wpX9_at (15 + 3 * k) x1 σ (fun r4 t3 => Φ r4 t3)))))
set_option maxHeartbeats 4000000 in
set_option maxRecDepth 100000 in
theorem cmX0_endOf {D : va_G} {cyI cyO : ClassId} {ad : Nat → Nat} {n : Nat} {l : Launch} {k : Nat} (hn : 52 ≤ n) (hf0 : 5 ≤ k) (hf1 : k < 10) {x1 : Int32} {σ : St} {sz : Nat} {Φ : Int32 → St → Prop} (h : wpX0_endOf k x1 σ Φ) : gMet D (tyL cyI cyO) (cCell ad cyI cyO) ad n l yX0_endOf cX0_endOf 2 (some .int) rmX0_endOf [.ref (ad k), .int x1] σ sz (gQi D (cCell ad cyI cyO) ad n sz Φ) := by
  refine gMet.of (by decide) (Nat.le_of_ble_eq_true rfl) ?_
  intro p e s m below meth c ls hsz C hl wd
  subst hsz
  have C : Cx p s m _ meth c cX0_endOf 2 (some .int) RX0 := C
  obtain ⟨hx, hb, hr, hml, hown, hts, hlk⟩ := id C
  have hl : lv_has ls 2 [(0, .ref (ad k)), (1, .int x1)] := hl
  unfold wpX0_endOf at h
  refine lv_iload_n hx hb dX0_endOf_0 rfl (lv_at hl 1 rfl) ?_
  refine lv_if_lt (tgt := 23) hx hb dX0_endOf_1 (by decide) (fun c1 => ?_) (fun c1 => ?_)
  · have h := h.1 c1
    refine lv_iconst (v := (-1 : Int32)) hx hb dX0_endOf_23 (by decide) ?_
    exact retI C wd h dX0_endOf_24
  · have h := h.2 c1
    refine lv_iload_n hx hb dX0_endOf_4 rfl (lv_at hl 1 rfl) ?_
    refine lv_aload_n hx hb dX0_endOf_5 rfl (lv_at hl 0 rfl) ?_
    refine getF C wd (k := k) (Cn := RX0) (T := TX0) (N := 9) (v := .int (σ.1 (32 * k + 1))) (by omega) (cc_X0 (k := k) (by omega) (by omega)) rfl 1 (by decide) rfl inX0 tw1_135 dX0_endOf_6 ?_
    refine lv_icmp_ge (tgt := 23) hx hb dX0_endOf_9 (by decide) (fun c2 => ?_) (fun c2 => ?_)
    · have h := h.1 c2
      refine lv_iconst (v := (-1 : Int32)) hx hb dX0_endOf_23 (by decide) ?_
      exact retI C wd h dX0_endOf_24
    · have h := h.2 c2
      refine lv_aload_n hx hb dX0_endOf_12 rfl (lv_at hl 0 rfl) ?_
      refine getF C wd (k := k) (Cn := RX0) (T := TX0) (N := 9) (v := .ref (ad (15 + 3 * k))) (by omega) (cc_X0 (k := k) (by omega) (by omega)) rfl 8 (by decide) rfl inX0 tw1_155 dX0_endOf_13 ?_
      refine lv_iload_n hx hb dX0_endOf_16 rfl (lv_at hl 1 rfl) ?_
      refine gCi wd (gRunSN (y := yX9_at) (As := [.ref (ad (15 + 3 * k)), .int x1]) (rest := []) C wd (cmX9_at (by omega) (by omega) (by omega) h) ⟨rfl, rfl⟩ gc_X9_at ns_47 tw1_1 tw2_92 nk_X9_at ⟨Nat.le_of_ble_eq_true rfl, Nat.le_of_ble_eq_true rfl⟩ hl.1 (Nat.le_of_ble_eq_true rfl) dX0_endOf_17 rfl) (fun r4 t3 H locs h wd => ?_)
      try dsimp only at h
      refine lv_goto (tgt := 24) hx hb dX0_endOf_20 (by decide) ?_
      exact retI C wd h dX0_endOf_24
abbrev rmX0_isDeadRest : Room := rmOf 1 21
def wlX0_isDeadRest_6_body (k : Nat) (Φ : Int32 → St → Prop) (k_6 : Int32 → Int32 → St → Prop) (x2 : Int32) (x3 : Int32) (σ : St) : Prop :=
  (((σ.1 (32 * k + 1)) ≤ x3 → Φ (0 : Int32) σ) ∧ (¬ (σ.1 (32 * k + 1)) ≤ x3 → wpX9_at (15 + 3 * k) x3 σ (fun r3 t2 => ((x2 ≤ r3 → (∀ y5 : Int32, y5 = x3 + (1 : Int32) → k_6 x2 y5 t2)) ∧ (¬ x2 ≤ r3 → Φ (1 : Int32) t2)))))
def wlX0_isDeadRest_6 (k : Nat) (Φ : Int32 → St → Prop) : Nat → Int32 → Int32 → St → Prop
  | 0 => fun _ _ _ => False
  | N + 1 => fun x2 x3 σ => wlX0_isDeadRest_6_body k Φ (wlX0_isDeadRest_6 k Φ N) x2 x3 σ
set_option maxHeartbeats 4000000 in
set_option maxRecDepth 100000 in
theorem llX0_isDeadRest_6 {p : Program} {l : Launch} {e : Env} {s : State} {m : MethodId} {args : Array Value} {below : List Frame} {meth : Method} {c : Code} {k : Nat} (hn : 52 ≤ n) (hf0 : 5 ≤ k) (hf1 : k < 10) (C : Cx p s m args meth c cX0_isDeadRest 4 (some .boolean) RX0) {Φ : Int32 → St → Prop} : ∀ (N : Nat) (x2 : Int32) (x3 : Int32) (σ : St) (H : Heap) (locs : List Loc) (ls : Array Slot), wlX0_isDeadRest_6 k Φ N x2 x3 σ → gWd D (tyL cyI cyO) (cCell ad cyI cyO) ad n s H locs σ → lv_has ls 4 [(0, .ref (ad k)), (2, .int x2), (3, .int x3)] → W p l e rmX0_isDeadRest s m args below meth c H locs 0 0 (MQ below (gQi D (cCell ad cyI cyO) ad n s.heap.size Φ) args s 0 0 (gA ad n s.heap.size)) (F0 m 6 ls []) := by
  obtain ⟨hx, hb, hr, hml, hown, hts, hlk⟩ := id C
  intro N
  induction N with
  | zero =>
    intro x2 x3 σ H locs ls h
    exact False.elim h
  | succ N ih =>
    intro x2 x3 σ H locs ls h wd hl
    have h : wlX0_isDeadRest_6_body k Φ (wlX0_isDeadRest_6 k Φ N) x2 x3 σ := h
    have hk_6 := ih
    unfold wlX0_isDeadRest_6_body at h
    refine lv_iload_n hx hb dX0_isDeadRest_6 rfl (lv_at hl 2 rfl) ?_
    refine lv_aload_n hx hb dX0_isDeadRest_7 rfl (lv_at hl 0 rfl) ?_
    refine getF C wd (k := k) (Cn := RX0) (T := TX0) (N := 9) (v := .int (σ.1 (32 * k + 1))) (by omega) (cc_X0 (k := k) (by omega) (by omega)) rfl 1 (by decide) rfl inX0 tw1_135 dX0_isDeadRest_8 ?_
    refine lv_icmp_ge (tgt := 34) hx hb dX0_isDeadRest_11 (by decide) (fun c1 => ?_) (fun c1 => ?_)
    · have h := h.1 c1
      refine lv_iconst (v := (0 : Int32)) hx hb dX0_isDeadRest_34 (by decide) ?_
      exact retZ C wd rfl h dX0_isDeadRest_35
    · have h := h.2 c1
      refine lv_aload_n hx hb dX0_isDeadRest_14 rfl (lv_at hl 0 rfl) ?_
      refine getF C wd (k := k) (Cn := RX0) (T := TX0) (N := 9) (v := .ref (ad (15 + 3 * k))) (by omega) (cc_X0 (k := k) (by omega) (by omega)) rfl 8 (by decide) rfl inX0 tw1_155 dX0_isDeadRest_15 ?_
      refine lv_iload_n hx hb dX0_isDeadRest_18 rfl (lv_at hl 2 rfl) ?_
      refine gCi wd (gRunSN (y := yX9_at) (As := [.ref (ad (15 + 3 * k)), .int x3]) (rest := []) C wd (cmX9_at (by omega) (by omega) (by omega) h) ⟨rfl, rfl⟩ gc_X9_at ns_47 tw1_1 tw2_92 nk_X9_at ⟨Nat.le_of_ble_eq_true rfl, Nat.le_of_ble_eq_true rfl⟩ hl.1 (Nat.le_of_ble_eq_true rfl) dX0_isDeadRest_19 rfl) (fun r3 t2 H locs h wd => ?_)
      try dsimp only at h
      refine lv_iload_n hx hb dX0_isDeadRest_22 rfl (lv_at hl 1 rfl) ?_
      refine lv_icmp_ge (tgt := 28) hx hb dX0_isDeadRest_23 (by decide) (fun c4 => ?_) (fun c4 => ?_)
      · have h := h.1 c4
        obtain ⟨y5, ey5⟩ : ∃ y : Int32, y = x3 + (1 : Int32) := ⟨_, rfl⟩
        refine lv_iinc (v := y5) (lv' := [(3, .int y5), (0, .ref (ad k)), (2, .int x2)]) hx hb dX0_isDeadRest_28 hl (k := 2) rfl (by rw [ey5]; rfl) (by decide) rfl (fun ls hl => ?_)
        have h := h y5 ey5
        refine lv_goto (tgt := 6) hx hb dX0_isDeadRest_31 (by decide) ?_
        exact hk_6 _ _ _ _ _ _ h wd (lv_sub hl [1, 2, 0] rfl)
      · have h := h.2 c4
        refine lv_iconst (v := (1 : Int32)) hx hb dX0_isDeadRest_26 (by decide) ?_
        exact retZ C wd rfl h dX0_isDeadRest_27
def wpX0_isDeadRest (k : Nat) (x1 : Int32) (x2 : Int32) (σ : St) (Φ : Int32 → St → Prop) : Prop :=
  (∀ y1 : Int32, y1 = (if (0 : Int32) < x1 then x1 else (0 : Int32)) → (∃ N, wlX0_isDeadRest_6 k Φ N x2 y1 σ))
set_option maxHeartbeats 4000000 in
set_option maxRecDepth 100000 in
theorem cmX0_isDeadRest {D : va_G} {cyI cyO : ClassId} {ad : Nat → Nat} {n : Nat} {l : Launch} {k : Nat} (hn : 52 ≤ n) (hf0 : 5 ≤ k) (hf1 : k < 10) {x1 : Int32} {x2 : Int32} {σ : St} {sz : Nat} {Φ : Int32 → St → Prop} (h : wpX0_isDeadRest k x1 x2 σ Φ) : gMet D (tyL cyI cyO) (cCell ad cyI cyO) ad n l yX0_isDeadRest cX0_isDeadRest 4 (some .boolean) rmX0_isDeadRest [.ref (ad k), .int x1, .int x2] σ sz (gQi D (cCell ad cyI cyO) ad n sz Φ) := by
  refine gMet.of (by decide) (Nat.le_of_ble_eq_true rfl) ?_
  intro p e s m below meth c ls hsz C hl wd
  subst hsz
  have C : Cx p s m _ meth c cX0_isDeadRest 4 (some .boolean) RX0 := C
  obtain ⟨hx, hb, hr, hml, hown, hts, hlk⟩ := id C
  have hl : lv_has ls 4 [(0, .ref (ad k)), (1, .int x1), (2, .int x2)] := hl
  unfold wpX0_isDeadRest at h
  refine lv_iconst (v := (0 : Int32)) hx hb dX0_isDeadRest_0 (by decide) ?_
  refine lv_iload_n hx hb dX0_isDeadRest_1 rfl (lv_at hl 1 rfl) ?_
  refine gMax C hl.1 tw2_154 tw1_45 tw1_5 tw1_46 (Nat.le_of_ble_eq_true rfl) (Nat.le_of_ble_eq_true rfl) dX0_isDeadRest_2 ?_
  refine lv_topi (fun y1 ey1 => ?_)
  have h := h y1 ey1
  refine lv_istore_n (lv' := [(3, .int y1), (0, .ref (ad k)), (1, .int x1), (2, .int x2)]) hx hb dX0_isDeadRest_5 rfl hl (by decide) rfl (fun ls hl => ?_)
  obtain ⟨N, h⟩ := h
  exact llX0_isDeadRest_6 hn hf0 hf1 C N _ _ _ _ _ _ h wd (lv_sub hl [1, 3, 0] rfl)
end
