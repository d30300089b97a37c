section
variable {D : va_G} {cyI cyO : ClassId} {ad : Nat → Nat} {n : Nat}
abbrev rmX0_hasPage : Room := rmOf 0 0
def wpX0_hasPage (k : Nat) (x1 : Int32) (σ : St) (Φ : Int32 → St → Prop) : Prop :=
  ((x1 < (σ.1 (32 * k + 4)) → Φ (0 : Int32) σ) ∧ (¬ x1 < (σ.1 (32 * k + 4)) → (((σ.1 (32 * k + 2)) < x1 → Φ (0 : Int32) σ) ∧ (¬ (σ.1 (32 * k + 2)) < x1 → Φ (1 : Int32) σ))))
set_option maxHeartbeats 4000000 in
set_option maxRecDepth 100000 in
theorem cmX0_hasPage {D : va_G} {cyI cyO : ClassId} {ad : Nat → Nat} {n : Nat} {l : Launch} {k : Nat} (hn : 52 ≤ n) (hf0 : 5 ≤ k) (hf1 : k < 10) {x1 : Int32} {σ : St} {sz : Nat} {Φ : Int32 → St → Prop} (h : wpX0_hasPage k x1 σ Φ) : gMet D (tyL cyI cyO) (cCell ad cyI cyO) ad n l yX0_hasPage cX0_hasPage 2 (some .boolean) rmX0_hasPage [.ref (ad k), .int x1] σ sz (gQi D (cCell ad cyI cyO) ad n sz Φ) := by
  refine gMet.of (by decide) (Nat.le_of_ble_eq_true rfl) ?_
  intro p e s m below meth c ls hsz C hl wd
  subst hsz
  have C : Cx p s m _ meth c cX0_hasPage 2 (some .boolean) RX0 := C
  obtain ⟨hx, hb, hr, hml, hown, hts, hlk⟩ := id C
  have hl : lv_has ls 2 [(0, .ref (ad k)), (1, .int x1)] := hl
  unfold wpX0_hasPage at h
  refine lv_iload_n hx hb dX0_hasPage_0 rfl (lv_at hl 1 rfl) ?_
  refine lv_aload_n hx hb dX0_hasPage_1 rfl (lv_at hl 0 rfl) ?_
  refine getF C wd (k := k) (Cn := RX0) (T := TX0) (N := 9) (v := .int (σ.1 (32 * k + 4))) (by omega) (cc_X0 (k := k) (by omega) (by omega)) rfl 4 (by decide) rfl inX0 tw1_144 dX0_hasPage_2 ?_
  refine lv_icmp_lt (tgt := 20) hx hb dX0_hasPage_5 (by decide) (fun c1 => ?_) (fun c1 => ?_)
  · have h := h.1 c1
    refine lv_iconst (v := (0 : Int32)) hx hb dX0_hasPage_20 (by decide) ?_
    exact retZ C wd rfl h dX0_hasPage_21
  · have h := h.2 c1
    refine lv_iload_n hx hb dX0_hasPage_8 rfl (lv_at hl 1 rfl) ?_
    refine lv_aload_n hx hb dX0_hasPage_9 rfl (lv_at hl 0 rfl) ?_
    refine getF C wd (k := k) (Cn := RX0) (T := TX0) (N := 9) (v := .int (σ.1 (32 * k + 2))) (by omega) (cc_X0 (k := k) (by omega) (by omega)) rfl 2 (by decide) rfl inX0 tw1_137 dX0_hasPage_10 ?_
    refine lv_icmp_gt (tgt := 20) hx hb dX0_hasPage_13 (by decide) (fun c2 => ?_) (fun c2 => ?_)
    · have h := h.1 c2
      refine lv_iconst (v := (0 : Int32)) hx hb dX0_hasPage_20 (by decide) ?_
      exact retZ C wd rfl h dX0_hasPage_21
    · have h := h.2 c2
      refine lv_iconst (v := (1 : Int32)) hx hb dX0_hasPage_16 (by decide) ?_
      refine lv_goto (tgt := 21) hx hb dX0_hasPage_17 (by decide) ?_
      exact retZ C wd rfl h dX0_hasPage_21
abbrev rmX0_sumNow : Room := rmOf 1 21
def wpX0_sumNow (k : Nat) (σ : St) (Φ : Int32 → St → Prop) : Prop :=
  wpX9_at (14 + 3 * k) (σ.1 (32 * k + 2)) σ (fun r2 t1 => Φ r2 t1)
set_option maxHeartbeats 4000000 in
set_option maxRecDepth 100000 in
theorem cmX0_sumNow {D : va_G} {cyI cyO : ClassId} {ad : Nat → Nat} {n : Nat} {l : Launch} {k : Nat} (hn : 52 ≤ n) (hf0 : 5 ≤ k) (hf1 : k < 10) {σ : St} {sz : Nat} {Φ : Int32 → St → Prop} (h : wpX0_sumNow k σ Φ) : gMet D (tyL cyI cyO) (cCell ad cyI cyO) ad n l yX0_sumNow cX0_sumNow 1 (some .int) rmX0_sumNow [.ref (ad k)] σ sz (gQi D (cCell ad cyI cyO) ad n sz Φ) := by
  refine gMet.of (by decide) (Nat.le_of_ble_eq_true rfl) ?_
  intro p e s m below meth c ls hsz C hl wd
  subst hsz
  have C : Cx p s m _ meth c cX0_sumNow 1 (some .int) RX0 := C
  obtain ⟨hx, hb, hr, hml, hown, hts, hlk⟩ := id C
  have hl : lv_has ls 1 [(0, .ref (ad k))] := hl
  unfold wpX0_sumNow at h
  refine lv_aload_n hx hb dX0_sumNow_0 rfl (lv_at hl 0 rfl) ?_
  refine getF C wd (k := k) (Cn := RX0) (T := TX0) (N := 9) (v := .ref (ad (14 + 3 * k))) (by omega) (cc_X0 (k := k) (by omega) (by omega)) rfl 6 (by decide) rfl inX0 tw1_149 dX0_sumNow_1 ?_
  refine lv_aload_n hx hb dX0_sumNow_4 rfl (lv_at hl 0 rfl) ?_
  refine getF C wd (k := k) (Cn := RX0) (T := TX0) (N := 9) (v := .int (σ.1 (32 * k + 2))) (by omega) (cc_X0 (k := k) (by omega) (by omega)) rfl 2 (by decide) rfl inX0 tw1_137 dX0_sumNow_5 ?_
  refine gCi wd (gRunSN (y := yX9_at) (As := [.ref (ad (14 + 3 * k)), .int (σ.1 (32 * k + 2))]) (rest := []) C wd (cmX9_at (by omega) (by omega) (by omega) h) ⟨rfl, rfl⟩ gc_X9_at ns_47 tw1_1 tw2_92 nk_X9_at ⟨Nat.le_of_ble_eq_true rfl, Nat.le_of_ble_eq_true rfl⟩ hl.1 (Nat.le_of_ble_eq_true rfl) dX0_sumNow_8 rfl) (fun r2 t1 H locs h wd => ?_)
  try dsimp only at h
  exact retI C wd h dX0_sumNow_11
abbrev rmX2_clerk : Room := rmOf 0 0
def wbX2_clerk_22 (Φ : Nat → St → Prop) (z1 : Int32) (σ : St) : Prop :=
  (vp_in z1 5 ∧ Φ (5 + z1.toNatClampNeg) σ)
set_option maxHeartbeats 4000000 in
set_option maxRecDepth 100000 in
theorem blX2_clerk_22 {p : Program} {l : Launch} {e : Env} {s : State} {m : MethodId} {args : Array Value} {below : List Frame} {meth : Method} {c : Code} (hn : 52 ≤ n) (C : Cx p s m args meth c cX2_clerk 2 (some (.object "OrphanLogs$Clerk")) RX2) {Φ : Nat → St → Prop} {z1 : Int32} {σ : St} {H : Heap} {locs : List Loc} {ls : Array Slot} (h : wbX2_clerk_22 Φ z1 σ) (wd : gWd D (tyL cyI cyO) (cCell ad cyI cyO) ad n s H locs σ) (hl : lv_has ls 2 []) : W p l e rmX2_clerk s m args below meth c H locs 0 0 (MQ below (gQr D (cCell ad cyI cyO) ad n s.heap.size Φ) args s 0 0 (gA ad n s.heap.size)) (F0 m 22 ls [.int z1, .ref (ad 1)]) := by
  obtain ⟨hx, hb, hr, hml, hown, hts, hlk⟩ := id C
  unfold wbX2_clerk_22 at h
  obtain ⟨hi1, h⟩ := h
  have hi1b : z1.toNatClampNeg < 5 := Nat.not_le.mp fun q => hi1 (Or.inr q)
  refine ldQ C wd (k := 1) (by omega) cc_Q hi1 dX2_clerk_22 ?_
  exact retR (k := (5 + z1.toNatClampNeg)) C wd (by omega) (by omega) h dX2_clerk_23
def wbX2_clerk_21 (Φ : Nat → St → Prop) (σ : St) : Prop :=
  wbX2_clerk_22 Φ (0 : Int32) σ
set_option maxHeartbeats 4000000 in
set_option maxRecDepth 100000 in
theorem blX2_clerk_21 {p : Program} {l : Launch} {e : Env} {s : State} {m : MethodId} {args : Array Value} {below : List Frame} {meth : Method} {c : Code} (hn : 52 ≤ n) (C : Cx p s m args meth c cX2_clerk 2 (some (.object "OrphanLogs$Clerk")) RX2) {Φ : Nat → St → Prop} {σ : St} {H : Heap} {locs : List Loc} {ls : Array Slot} (h : wbX2_clerk_21 Φ σ) (wd : gWd D (tyL cyI cyO) (cCell ad cyI cyO) ad n s H locs σ) (hl : lv_has ls 2 []) : W p l e rmX2_clerk s m args below meth c H locs 0 0 (MQ below (gQr D (cCell ad cyI cyO) ad n s.heap.size Φ) args s 0 0 (gA ad n s.heap.size)) (F0 m 21 ls [.ref (ad 1)]) := by
  obtain ⟨hx, hb, hr, hml, hown, hts, hlk⟩ := id C
  unfold wbX2_clerk_21 at h
  refine lv_iconst (v := (0 : Int32)) hx hb dX2_clerk_21 (by decide) ?_
  exact blX2_clerk_22 hn C h wd (lv_sub hl [] rfl)
def wpX2_clerk (x1 : Int32) (σ : St) (Φ : Nat → St → Prop) : Prop :=
  ((x1 < 0 → wbX2_clerk_21 Φ σ) ∧ (¬ x1 < 0 → (((Int32.ofNat 5) ≤ x1 → wbX2_clerk_21 Φ σ) ∧ (¬ (Int32.ofNat 5) ≤ x1 → wbX2_clerk_22 Φ x1 σ))))
set_option maxHeartbeats 4000000 in
set_option maxRecDepth 100000 in
theorem cmX2_clerk {D : va_G} {cyI cyO : ClassId} {ad : Nat → Nat} {n : Nat} {l : Launch} (hn : 52 ≤ n) {x1 : Int32} {σ : St} {sz : Nat} {Φ : Nat → St → Prop} (h : wpX2_clerk x1 σ Φ) : gMet D (tyL cyI cyO) (cCell ad cyI cyO) ad n l yX2_clerk cX2_clerk 2 (some (.object "OrphanLogs$Clerk")) rmX2_clerk [.ref (ad 0), .int x1] σ sz (gQr D (cCell ad cyI cyO) ad n sz Φ) := by
  refine gMet.of (by decide) (Nat.le_of_ble_eq_true rfl) ?_
  intro p e s m below meth c ls hsz C hl wd
  subst hsz
  have C : Cx p s m _ meth c cX2_clerk 2 (some (.object "OrphanLogs$Clerk")) RX2 := C
  obtain ⟨hx, hb, hr, hml, hown, hts, hlk⟩ := id C
  have hl : lv_has ls 2 [(0, .ref (ad 0)), (1, .int x1)] := hl
  unfold wpX2_clerk at h
  refine lv_aload_n hx hb dX2_clerk_0 rfl (lv_at hl 0 rfl) ?_
  refine getF C wd (k := 0) (Cn := RX2) (T := TX2) (N := 6) (v := .ref (ad 1)) (by omega) cc_X2 rfl 2 (by decide) rfl inX2 tw1_200 dX2_clerk_1 ?_
  refine lv_iload_n hx hb dX2_clerk_4 rfl (lv_at hl 1 rfl) ?_
  refine lv_if_lt (tgt := 21) hx hb dX2_clerk_5 (by decide) (fun c1 => ?_) (fun c1 => ?_)
  · have h := h.1 c1
    exact blX2_clerk_21 hn C h wd (lv_sub hl [] rfl)
  · have h := h.2 c1
    refine lv_iload_n hx hb dX2_clerk_8 rfl (lv_at hl 1 rfl) ?_
    refine lv_aload_n hx hb dX2_clerk_9 rfl (lv_at hl 0 rfl) ?_
    refine getF C wd (k := 0) (Cn := RX2) (T := TX2) (N := 6) (v := .ref (ad 1)) (by omega) cc_X2 rfl 2 (by decide) rfl inX2 tw1_200 dX2_clerk_10 ?_
    refine alenQ C wd (k := 1) (by omega) cc_Q dX2_clerk_13 ?_
    refine lv_icmp_ge (tgt := 21) hx hb dX2_clerk_14 (by decide) (fun c2 => ?_) (fun c2 => ?_)
    · have h := h.1 c2
      exact blX2_clerk_21 hn C h wd (lv_sub hl [] rfl)
    · have h := h.2 c2
      refine lv_iload_n hx hb dX2_clerk_17 rfl (lv_at hl 1 rfl) ?_
      refine lv_goto (tgt := 22) hx hb dX2_clerk_18 (by decide) ?_
      exact blX2_clerk_22 hn C h wd (lv_sub hl [] rfl)
abbrev rmX1_firstDead : Room := rmOf 2 43
def wlX1_firstDead_13_body (k : Nat) (Φ : Int32 → St → Prop) (k_5 : Int32 → Int32 → St → Prop) (k_13 : Int32 → Int32 → Int32 → St → Prop) (x2 : Int32) (x3 : Int32) (x4 : Int32) (σ : St) : Prop :=
  (((σ.1 129) ≤ x4 → (∀ y2 : Int32, y2 = x3 + (1 : Int32) → k_5 x2 y2 σ)) ∧ (¬ (σ.1 129) ≤ x4 → wpX5_pageOf (k + 5) x3 x4 σ (fun r4 t3 => wpX9_at 50 x4 t3 (fun r6 t5 => ((r4 ≤ r6 → (∀ y8 : Int32, y8 = x4 + (1 : Int32) → k_13 x2 x3 y8 t5)) ∧ (¬ r4 ≤ r6 → Φ x3 t5))))))
def wlX1_firstDead_13 (k : Nat) (Φ : Int32 → St → Prop) (k_5 : Int32 → Int32 → St → Prop) : Nat → Int32 → Int32 → Int32 → St → Prop
  | 0 => fun _ _ _ _ => False
  | N + 1 => fun x2 x3 x4 σ => wlX1_firstDead_13_body k Φ k_5 (wlX1_firstDead_13 k Φ k_5 N) x2 x3 x4 σ
set_option maxHeartbeats 4000000 in
set_option maxRecDepth 100000 in
theorem llX1_firstDead_13 {p : Program} {l : Launch} {e : Env} {s : State} {m : MethodId} {args : Array Value} {below : List Frame} {meth : Method} {c : Code} {k : Nat} (hn : 52 ≤ n) (hf0 : 5 ≤ k) (hf1 : k < 10) (C : Cx p s m args meth c cX1_firstDead 5 (some .int) RX1) {Φ : Int32 → St → Prop} {k_5 : Int32 → Int32 → St → Prop} (hk_5 : ∀ (x2 : Int32) (x3 : Int32) (σ : St) (H : Heap) (locs : List Loc) (ls : Array Slot), k_5 x2 x3 σ → gWd D (tyL cyI cyO) (cCell ad cyI cyO) ad n s H locs σ → lv_has ls 5 [(0, .ref (ad 4)), (1, .ref (ad k)), (2, .int x2), (3, .int x3)] → W p l e rmX1_firstDead s m args below meth c H locs 0 0 (MQ below (gQi D (cCell ad cyI cyO) ad n s.heap.size Φ) args s 0 0 (gA ad n s.heap.size)) (F0 m 5 ls [])) : ∀ (N : Nat) (x2 : Int32) (x3 : Int32) (x4 : Int32) (σ : St) (H : Heap) (locs : List Loc) (ls : Array Slot), wlX1_firstDead_13 k Φ k_5 N x2 x3 x4 σ → gWd D (tyL cyI cyO) (cCell ad cyI cyO) ad n s H locs σ → lv_has ls 5 [(0, .ref (ad 4)), (1, .ref (ad k)), (2, .int x2), (3, .int x3), (4, .int x4)] → W p l e rmX1_firstDead s m args below meth c H locs 0 0 (MQ below (gQi D (cCell ad cyI cyO) ad n s.heap.size Φ) args s 0 0 (gA ad n s.heap.size)) (F0 m 13 ls []) := by
  obtain ⟨hx, hb, hr, hml, hown, hts, hlk⟩ := id C
  intro N
  induction N with
  | zero =>
    intro x2 x3 x4 σ H locs ls h
    exact False.elim h
  | succ N ih =>
    intro x2 x3 x4 σ H locs ls h wd hl
    have h : wlX1_firstDead_13_body k Φ k_5 (wlX1_firstDead_13 k Φ k_5 N) x2 x3 x4 σ := h
    have hk_13 := ih
    unfold wlX1_firstDead_13_body at h
    refine lv_iload hx hb dX1_firstDead_13 (lv_at hl 4 rfl) ?_
    refine lv_aload_n hx hb dX1_firstDead_15 rfl (lv_at hl 0 rfl) ?_
    refine getF C wd (k := 4) (Cn := RX1) (T := TX1) (N := 4) (v := .int (σ.1 129)) (by omega) cc_X1 rfl 1 (by decide) rfl inX1 tw1_114 dX1_firstDead_16 ?_
    refine lv_icmp_ge (tgt := 52) hx hb dX1_firstDead_19 (by decide) (fun c1 => ?_) (fun c1 => ?_)
    · have h := h.1 c1
      obtain ⟨y2, ey2⟩ : ∃ y : Int32, y = x3 + (1 : Int32) := ⟨_, rfl⟩
      refine lv_iinc (v := y2) (lv' := [(3, .int y2), (0, .ref (ad 4)), (1, .ref (ad k)), (2, .int x2), (4, .int x4)]) hx hb dX1_firstDead_52 hl (k := 3) rfl (by rw [ey2]; rfl) (by decide) rfl (fun ls hl => ?_)
      have h := h y2 ey2
      refine lv_goto (tgt := 5) hx hb dX1_firstDead_55 (by decide) ?_
      exact hk_5 _ _ _ _ _ _ h wd (lv_sub hl [1, 2, 3, 0] rfl)
    · have h := h.2 c1
      refine lv_aload_n hx hb dX1_firstDead_22 rfl (lv_at hl 1 rfl) ?_
      refine getN C wd (k := k) (Cn := RX0) (T := TX0) (N := 9) (v := .ref (ad (k + 5))) (by omega) (cc_X0 (k := k) (by omega) (by omega)) rfl 7 (by decide) rfl inX0 ns_26 dX1_firstDead_23 ?_
      refine lv_iload_n hx hb dX1_firstDead_26 rfl (lv_at hl 3 rfl) ?_
      refine lv_iload hx hb dX1_firstDead_27 (lv_at hl 4 rfl) ?_
      refine gCi wd (gRunV (y := yX5_pageOf) (k := k + 5) (As := [.int x3, .int x4]) (rest := []) C wd (cmX5_pageOf (by omega) (by omega) (by omega) h) ⟨rfl, rfl⟩ gd_X1_59 nk_X5_pageOf ⟨Nat.le_of_ble_eq_true rfl, Nat.le_of_ble_eq_true rfl⟩ (by omega) (cc_X5 (k := k + 5) (by omega) (by omega)) rfl rfl hl.1 (Nat.le_of_ble_eq_true rfl) dX1_firstDead_29 rfl) (fun r4 t3 H locs h wd => ?_)
      try dsimp only at h
      refine lv_aload_n hx hb dX1_firstDead_32 rfl (lv_at hl 0 rfl) ?_
      refine getF C wd (k := 4) (Cn := RX1) (T := TX1) (N := 4) (v := .ref (ad 50)) (by omega) cc_X1 rfl 2 (by decide) rfl inX1 tw1_115 dX1_firstDead_33 ?_
      refine lv_iload hx hb dX1_firstDead_36 (lv_at hl 4 rfl) ?_
      refine gCi wd (gRunSN (y := yX9_at) (As := [.ref (ad 50), .int x4]) (rest := [.int r4]) C wd (cmX9_at (by omega) (by omega) (by omega) h) ⟨rfl, rfl⟩ gc_X9_at ns_54 tw1_1 tw2_92 nk_X9_at ⟨Nat.le_of_ble_eq_true rfl, Nat.le_of_ble_eq_true rfl⟩ hl.1 (Nat.le_of_ble_eq_true rfl) dX1_firstDead_38 rfl) (fun r6 t5 H locs h wd => ?_)
      try dsimp only at h
      refine lv_icmp_le (tgt := 46) hx hb dX1_firstDead_41 (by decide) (fun c7 => ?_) (fun c7 => ?_)
      · have h := h.1 c7
        obtain ⟨y8, ey8⟩ : ∃ y : Int32, y = x4 + (1 : Int32) := ⟨_, rfl⟩
        refine lv_iinc (v := y8) (lv' := [(4, .int y8), (0, .ref (ad 4)), (1, .ref (ad k)), (2, .int x2), (3, .int x3)]) hx hb dX1_firstDead_46 hl (k := 4) rfl (by rw [ey8]; rfl) (by decide) rfl (fun ls hl => ?_)
        have h := h y8 ey8
        refine lv_goto (tgt := 13) hx hb dX1_firstDead_49 (by decide) ?_
        exact hk_13 _ _ _ _ _ _ _ h wd (lv_sub hl [1, 2, 3, 4, 0] rfl)
      · have h := h.2 c7
        refine lv_iload_n hx hb dX1_firstDead_44 rfl (lv_at hl 3 rfl) ?_
        exact retI C wd h dX1_firstDead_45
def wlX1_firstDead_5_body (k : Nat) (Φ : Int32 → St → Prop) (k_5 : Int32 → Int32 → St → Prop) (x2 : Int32) (x3 : Int32) (σ : St) : Prop :=
  ((x2 < x3 → Φ (-1 : Int32) σ) ∧ (¬ x2 < x3 → (∃ N, wlX1_firstDead_13 k Φ k_5 N x2 x3 (0 : Int32) σ)))
def wlX1_firstDead_5 (k : Nat) (Φ : Int32 → St → Prop) : Nat → Int32 → Int32 → St → Prop
  | 0 => fun _ _ _ => False
  | N + 1 => fun x2 x3 σ => wlX1_firstDead_5_body k Φ (wlX1_firstDead_5 k Φ N) x2 x3 σ
set_option maxHeartbeats 4000000 in
set_option maxRecDepth 100000 in
theorem llX1_firstDead_5 {p : Program} {l : Launch} {e : Env} {s : State} {m : MethodId} {args : Array Value} {below : List Frame} {meth : Method} {c : Code} {k : Nat} (hn : 52 ≤ n) (hf0 : 5 ≤ k) (hf1 : k < 10) (C : Cx p s m args meth c cX1_firstDead 5 (some .int) RX1) {Φ : Int32 → St → Prop} : ∀ (N : Nat) (x2 : Int32) (x3 : Int32) (σ : St) (H : Heap) (locs : List Loc) (ls : Array Slot), wlX1_firstDead_5 k Φ N x2 x3 σ → gWd D (tyL cyI cyO) (cCell ad cyI cyO) ad n s H locs σ → lv_has ls 5 [(0, .ref (ad 4)), (1, .ref (ad k)), (2, .int x2), (3, .int x3)] → W p l e rmX1_firstDead s m args below meth c H locs 0 0 (MQ below (gQi D (cCell ad cyI cyO) ad n s.heap.size Φ) args s 0 0 (gA ad n s.heap.size)) (F0 m 5 ls []) := by
  obtain ⟨hx, hb, hr, hml, hown, hts, hlk⟩ := id C
  intro N
  induction N with
  | zero =>
    intro x2 x3 σ H locs ls h
    exact False.elim h
  | succ N ih =>
    intro x2 x3 σ H locs ls h wd hl
    have h : wlX1_firstDead_5_body k Φ (wlX1_firstDead_5 k Φ N) x2 x3 σ := h
    have hk_5 := ih
    unfold wlX1_firstDead_5_body at h
    refine lv_iload_n hx hb dX1_firstDead_5 rfl (lv_at hl 3 rfl) ?_
    refine lv_iload_n hx hb dX1_firstDead_6 rfl (lv_at hl 2 rfl) ?_
    refine lv_icmp_gt (tgt := 58) hx hb dX1_firstDead_7 (by decide) (fun c1 => ?_) (fun c1 => ?_)
    · have h := h.1 c1
      refine lv_iconst (v := (-1 : Int32)) hx hb dX1_firstDead_58 (by decide) ?_
      exact retI C wd h dX1_firstDead_59
    · have h := h.2 c1
      refine lv_iconst (v := (0 : Int32)) hx hb dX1_firstDead_10 (by decide) ?_
      refine lv_istore (lv' := [(4, .int (0 : Int32)), (0, .ref (ad 4)), (1, .ref (ad k)), (2, .int x2), (3, .int x3)]) hx hb dX1_firstDead_11 hl (by decide) rfl (fun ls hl => ?_)
      obtain ⟨N, h⟩ := h
      exact llX1_firstDead_13 hn hf0 hf1 C hk_5 N _ _ _ _ _ _ _ h wd (lv_sub hl [1, 2, 3, 4, 0] rfl)
def wpX1_firstDead (k : Nat) (x2 : Int32) (σ : St) (Φ : Int32 → St → Prop) : Prop :=
  (∀ y1 : Int32, y1 = σ.1 (32 * k + 4) → (∃ N, wlX1_firstDead_5 k Φ N x2 y1 σ))
set_option maxHeartbeats 4000000 in
set_option maxRecDepth 100000 in
theorem cmX1_firstDead {D : va_G} {cyI cyO : ClassId} {ad : Nat → Nat} {n : Nat} {l : Launch} {k : Nat} (hn : 52 ≤ n) (hf0 : 5 ≤ k) (hf1 : k < 10) {x2 : Int32} {σ : St} {sz : Nat} {Φ : Int32 → St → Prop} (h : wpX1_firstDead k x2 σ Φ) : gMet D (tyL cyI cyO) (cCell ad cyI cyO) ad n l yX1_firstDead cX1_firstDead 5 (some .int) rmX1_firstDead [.ref (ad 4), .ref (ad k), .int x2] σ sz (gQi D (cCell ad cyI cyO) ad n sz Φ) := by
  refine gMet.of (by decide) (Nat.le_of_ble_eq_true rfl) ?_
  intro p e s m below meth c ls hsz C hl wd
  subst hsz
  have C : Cx p s m _ meth c cX1_firstDead 5 (some .int) RX1 := C
  obtain ⟨hx, hb, hr, hml, hown, hts, hlk⟩ := id C
  have hl : lv_has ls 5 [(0, .ref (ad 4)), (1, .ref (ad k)), (2, .int x2)] := hl
  unfold wpX1_firstDead at h
  refine lv_aload_n hx hb dX1_firstDead_0 rfl (lv_at hl 1 rfl) ?_
  refine getN C wd (k := k) (Cn := RX0) (T := TX0) (N := 9) (v := .int (σ.1 (32 * k + 4))) (by omega) (cc_X0 (k := k) (by omega) (by omega)) rfl 4 (by decide) rfl inX0 ns_21 dX1_firstDead_1 ?_
  refine lv_topi (fun y1 ey1 => ?_)
  have h := h y1 ey1
  refine lv_istore_n (lv' := [(3, .int y1), (0, .ref (ad 4)), (1, .ref (ad k)), (2, .int x2)]) hx hb dX1_firstDead_4 rfl hl (by decide) rfl (fun ls hl => ?_)
  obtain ⟨N, h⟩ := h
  exact llX1_firstDead_5 hn hf0 hf1 C N _ _ _ _ _ _ h wd (lv_sub hl [1, 2, 3, 0] rfl)
abbrev rmX1_foresee : Room := rmOf 3 67
def wbX1_foresee_148 (Φ : St → Prop) (k_82 : Int32 → Int32 → St → Prop) (x4 : Int32) (z0 : Int32) (σ : St) : Prop :=
  (∀ y1 : Int32, y1 = x4 + (1 : Int32) → k_82 z0 y1 σ)
set_option maxHeartbeats 4000000 in
set_option maxRecDepth 100000 in
theorem blX1_foresee_148 {p : Program} {l : Launch} {e : Env} {s : State} {m : MethodId} {args : Array Value} {below : List Frame} {meth : Method} {c : Code} (hn : 52 ≤ n) (C : Cx p s m args meth c cX1_foresee 6 none RX1) {Φ : St → Prop} {k_82 : Int32 → Int32 → St → Prop} (hk_82 : ∀ (x3 : Int32) (x4 : Int32) (σ : St) (H : Heap) (locs : List Loc) (ls : Array Slot), k_82 x3 x4 σ → gWd D (tyL cyI cyO) (cCell ad cyI cyO) ad n s H locs σ → lv_has ls 6 [(0, .ref (ad 4)), (1, .ref (ad 0)), (3, .int x3), (4, .int x4)] → W p l e rmX1_foresee s m args below meth c H locs 0 0 (MQ below (gQv D (cCell ad cyI cyO) ad n s.heap.size Φ) args s 0 0 (gA ad n s.heap.size)) (F0 m 82 ls [])) {x4 : Int32} {z0 : Int32} {σ : St} {H : Heap} {locs : List Loc} {ls : Array Slot} (h : wbX1_foresee_148 Φ k_82 x4 z0 σ) (wd : gWd D (tyL cyI cyO) (cCell ad cyI cyO) ad n s H locs σ) (hl : lv_has ls 6 [(0, .ref (ad 4)), (1, .ref (ad 0)), (4, .int x4)]) : W p l e rmX1_foresee s m args below meth c H locs 0 0 (MQ below (gQv D (cCell ad cyI cyO) ad n s.heap.size Φ) args s 0 0 (gA ad n s.heap.size)) (F0 m 148 ls [.int z0]) := by
  obtain ⟨hx, hb, hr, hml, hown, hts, hlk⟩ := id C
  unfold wbX1_foresee_148 at h
  refine lv_istore_n (lv' := [(3, .int z0), (0, .ref (ad 4)), (1, .ref (ad 0)), (4, .int x4)]) hx hb dX1_foresee_148 rfl hl (by decide) rfl (fun ls hl => ?_)
  obtain ⟨y1, ey1⟩ : ∃ y : Int32, y = x4 + (1 : Int32) := ⟨_, rfl⟩
  refine lv_iinc (v := y1) (lv' := [(4, .int y1), (3, .int z0), (0, .ref (ad 4)), (1, .ref (ad 0))]) hx hb dX1_foresee_149 hl (k := 3) rfl (by rw [ey1]; rfl) (by decide) rfl (fun ls hl => ?_)
  have h := h y1 ey1
  refine lv_goto (tgt := 82) hx hb dX1_foresee_152 (by decide) ?_
  exact hk_82 _ _ _ _ _ _ h wd (lv_sub hl [2, 3, 1, 0] rfl)
def wbX1_foresee_135 (Φ : St → Prop) (k_82 : Int32 → Int32 → St → Prop) (x3 : Int32) (x4 : Int32) (x5 : Int32) (σ : St) : Prop :=
  ((x5 = (-1 : Int32) → wbX1_foresee_148 Φ k_82 x4 (x3 + (1 : Int32)) σ) ∧ (¬ x5 = (-1 : Int32) → wbX1_foresee_148 Φ k_82 x4 (0 : Int32) σ))
set_option maxHeartbeats 4000000 in
set_option maxRecDepth 100000 in
theorem blX1_foresee_135 {p : Program} {l : Launch} {e : Env} {s : State} {m : MethodId} {args : Array Value} {below : List Frame} {meth : Method} {c : Code} (hn : 52 ≤ n) (C : Cx p s m args meth c cX1_foresee 6 none RX1) {Φ : St → Prop} {k_82 : Int32 → Int32 → St → Prop} (hk_82 : ∀ (x3 : Int32) (x4 : Int32) (σ : St) (H : Heap) (locs : List Loc) (ls : Array Slot), k_82 x3 x4 σ → gWd D (tyL cyI cyO) (cCell ad cyI cyO) ad n s H locs σ → lv_has ls 6 [(0, .ref (ad 4)), (1, .ref (ad 0)), (3, .int x3), (4, .int x4)] → W p l e rmX1_foresee s m args below meth c H locs 0 0 (MQ below (gQv D (cCell ad cyI cyO) ad n s.heap.size Φ) args s 0 0 (gA ad n s.heap.size)) (F0 m 82 ls [])) {x3 : Int32} {x4 : Int32} {x5 : Int32} {σ : St} {H : Heap} {locs : List Loc} {ls : Array Slot} (h : wbX1_foresee_135 Φ k_82 x3 x4 x5 σ) (wd : gWd D (tyL cyI cyO) (cCell ad cyI cyO) ad n s H locs σ) (hl : lv_has ls 6 [(0, .ref (ad 4)), (1, .ref (ad 0)), (3, .int x3), (4, .int x4), (5, .int x5)]) : W p l e rmX1_foresee s m args below meth c H locs 0 0 (MQ below (gQv D (cCell ad cyI cyO) ad n s.heap.size Φ) args s 0 0 (gA ad n s.heap.size)) (F0 m 135 ls []) := by
  obtain ⟨hx, hb, hr, hml, hown, hts, hlk⟩ := id C
  unfold wbX1_foresee_135 at h
  refine lv_iload hx hb dX1_foresee_135 (lv_at hl 4 rfl) ?_
  refine lv_iconst (v := (-1 : Int32)) hx hb dX1_foresee_137 (by decide) ?_
  refine lv_icmp_ne (tgt := 147) hx hb dX1_foresee_138 (by decide) (fun c1 => ?_) (fun c1 => ?_)
  · have h := h.2 c1
    refine lv_iconst (v := (0 : Int32)) hx hb dX1_foresee_147 (by decide) ?_
    exact blX1_foresee_148 hn C hk_82 h wd (lv_sub hl [0, 1, 3] rfl)
  · have h := h.1 c1
    refine lv_iload_n hx hb dX1_foresee_141 rfl (lv_at hl 2 rfl) ?_
    refine lv_iconst (v := (1 : Int32)) hx hb dX1_foresee_142 (by decide) ?_
    refine lv_iadd hx hb dX1_foresee_143 ?_
    refine lv_goto (tgt := 148) hx hb dX1_foresee_144 (by decide) ?_
    exact blX1_foresee_148 hn C hk_82 h wd (lv_sub hl [0, 1, 3] rfl)
def wlX1_foresee_82_body (Φ : St → Prop) (k_82 : Int32 → Int32 → St → Prop) (x3 : Int32) (x4 : Int32) (σ : St) : Prop :=
  (((σ.1 129) ≤ x3 → Φ σ) ∧ (¬ (σ.1 129) ≤ x3 → (((10000 : Int32) ≤ x4 → Φ σ) ∧ (¬ (10000 : Int32) ≤ x4 → wpX2_clerk x3 σ (fun r4 t3 => wpX9_at 50 x3 t3 (fun r6 t5 => wpX1_firstDead r4 r6 t5 (fun r8 t7 => ((r8 = (-1 : Int32) → wbX1_foresee_135 Φ k_82 x3 x4 r8 t7) ∧ (¬ r8 = (-1 : Int32) → wpX9_put 50 x3 (r8 - (1 : Int32)) t7 (fun t10 => wbX1_foresee_135 Φ k_82 x3 x4 r8 t10))))))))))
def wlX1_foresee_82 (Φ : St → Prop) : Nat → Int32 → Int32 → St → Prop
  | 0 => fun _ _ _ => False
  | N + 1 => fun x3 x4 σ => wlX1_foresee_82_body Φ (wlX1_foresee_82 Φ N) x3 x4 σ
set_option maxHeartbeats 4000000 in
set_option maxRecDepth 100000 in
theorem llX1_foresee_82 {p : Program} {l : Launch} {e : Env} {s : State} {m : MethodId} {args : Array Value} {below : List Frame} {meth : Method} {c : Code} (hn : 52 ≤ n) (C : Cx p s m args meth c cX1_foresee 6 none RX1) {Φ : St → Prop} : ∀ (N : Nat) (x3 : Int32) (x4 : Int32) (σ : St) (H : Heap) (locs : List Loc) (ls : Array Slot), wlX1_foresee_82 Φ N x3 x4 σ → gWd D (tyL cyI cyO) (cCell ad cyI cyO) ad n s H locs σ → lv_has ls 6 [(0, .ref (ad 4)), (1, .ref (ad 0)), (3, .int x3), (4, .int x4)] → W p l e rmX1_foresee s m args below meth c H locs 0 0 (MQ below (gQv D (cCell ad cyI cyO) ad n s.heap.size Φ) args s 0 0 (gA ad n s.heap.size)) (F0 m 82 ls []) := by
  obtain ⟨hx, hb, hr, hml, hown, hts, hlk⟩ := id C
  intro N
  induction N with
  | zero =>
    intro x3 x4 σ H locs ls h
    exact False.elim h
  | succ N ih =>
    intro x3 x4 σ H locs ls h wd hl
    have h : wlX1_foresee_82_body Φ (wlX1_foresee_82 Φ N) x3 x4 σ := h
    have hk_82 := ih
    unfold wlX1_foresee_82_body at h
    refine lv_iload_n hx hb dX1_foresee_82 rfl (lv_at hl 2 rfl) ?_
    refine lv_aload_n hx hb dX1_foresee_83 rfl (lv_at hl 0 rfl) ?_
    refine getF C wd (k := 4) (Cn := RX1) (T := TX1) (N := 4) (v := .int (σ.1 129)) (by omega) cc_X1 rfl 1 (by decide) rfl inX1 tw1_114 dX1_foresee_84 ?_
    refine lv_icmp_ge (tgt := 155) hx hb dX1_foresee_87 (by decide) (fun c1 => ?_) (fun c1 => ?_)
    · have h := h.1 c1
      exact retV C wd h dX1_foresee_155
    · have h := h.2 c1
      refine lv_iload hx hb dX1_foresee_90 (lv_at hl 3 rfl) ?_
      refine lv_sipush (v := (10000 : Int32)) hx hb dX1_foresee_92 (by decide) ?_
      refine lv_icmp_ge (tgt := 155) hx hb dX1_foresee_95 (by decide) (fun c2 => ?_) (fun c2 => ?_)
      · have h := h.1 c2
        exact retV C wd h dX1_foresee_155
      · have h := h.2 c2
        refine lv_aload_n hx hb dX1_foresee_98 rfl (lv_at hl 0 rfl) ?_
        refine lv_aload_n hx hb dX1_foresee_99 rfl (lv_at hl 1 rfl) ?_
        refine lv_iload_n hx hb dX1_foresee_100 rfl (lv_at hl 2 rfl) ?_
        refine gCr wd (gRunV (y := yX2_clerk) (k := 0) (As := [.int x3]) (rest := [.ref (ad 4)]) C wd (cmX2_clerk (by omega) h) ⟨rfl, rfl⟩ gd_X1_28 nk_X2_clerk ⟨Nat.le_of_ble_eq_true rfl, Nat.le_of_ble_eq_true rfl⟩ (by omega) cc_X2 rfl rfl hl.1 (Nat.le_of_ble_eq_true rfl) dX1_foresee_101 rfl) (fun r4 t3 H locs hr4a hr4b h wd => ?_)
        try dsimp only at h
        refine lv_aload_n hx hb dX1_foresee_104 rfl (lv_at hl 0 rfl) ?_
        refine getF C wd (k := 4) (Cn := RX1) (T := TX1) (N := 4) (v := .ref (ad 50)) (by omega) cc_X1 rfl 2 (by decide) rfl inX1 tw1_115 dX1_foresee_105 ?_
        refine lv_iload_n hx hb dX1_foresee_108 rfl (lv_at hl 2 rfl) ?_
        refine gCi wd (gRunSN (y := yX9_at) (As := [.ref (ad 50), .int x3]) (rest := [.ref (ad r4), .ref (ad 4)]) C wd (cmX9_at (by omega) (by omega) (by omega) h) ⟨rfl, rfl⟩ gc_X9_at ns_54 tw1_1 tw2_92 nk_X9_at ⟨Nat.le_of_ble_eq_true rfl, Nat.le_of_ble_eq_true rfl⟩ hl.1 (Nat.le_of_ble_eq_true rfl) dX1_foresee_109 rfl) (fun r6 t5 H locs h wd => ?_)
        try dsimp only at h
        refine gCi wd (gRunV (y := yX1_firstDead) (k := 4) (As := [.ref (ad r4), .int r6]) (rest := []) C wd (cmX1_firstDead (by omega) (by omega) (by omega) h) ⟨rfl, rfl⟩ gd_X1_48 nk_X1_firstDead ⟨Nat.le_of_ble_eq_true rfl, Nat.le_of_ble_eq_true rfl⟩ (by omega) cc_X1 rfl rfl hl.1 (Nat.le_of_ble_eq_true rfl) dX1_foresee_112 rfl) (fun r8 t7 H locs h wd => ?_)
        try dsimp only at h
        refine lv_istore (lv' := [(5, .int r8), (0, .ref (ad 4)), (1, .ref (ad 0)), (3, .int x3), (4, .int x4)]) hx hb dX1_foresee_115 hl (by decide) rfl (fun ls hl => ?_)
        refine lv_iload hx hb dX1_foresee_117 (lv_at hl 0 rfl) ?_
        refine lv_iconst (v := (-1 : Int32)) hx hb dX1_foresee_119 (by decide) ?_
        refine lv_icmp_eq (tgt := 135) hx hb dX1_foresee_120 (by decide) (fun c9 => ?_) (fun c9 => ?_)
        · have h := h.1 c9
          exact blX1_foresee_135 hn C hk_82 h wd (lv_sub hl [1, 2, 3, 4, 0] rfl)
        · have h := h.2 c9
          refine lv_aload_n hx hb dX1_foresee_123 rfl (lv_at hl 1 rfl) ?_
          refine getF C wd (k := 4) (Cn := RX1) (T := TX1) (N := 4) (v := .ref (ad 50)) (by omega) cc_X1 rfl 2 (by decide) rfl inX1 tw1_115 dX1_foresee_124 ?_
          refine lv_iload_n hx hb dX1_foresee_127 rfl (lv_at hl 3 rfl) ?_
          refine lv_iload hx hb dX1_foresee_128 (lv_at hl 0 rfl) ?_
          refine lv_iconst (v := (1 : Int32)) hx hb dX1_foresee_130 (by decide) ?_
          refine lv_isub hx hb dX1_foresee_131 ?_
          refine gCv wd (gRunSN (y := yX9_put) (As := [.ref (ad 50), .int x3, .int (r8 - (1 : Int32))]) (rest := []) C wd (cmX9_put (by omega) (by omega) (by omega) h) ⟨rfl, rfl⟩ gc_X9_put ns_53 tw1_1 tw1_188 nk_X9_put ⟨Nat.le_of_ble_eq_true rfl, Nat.le_of_ble_eq_true rfl⟩ hl.1 (Nat.le_of_ble_eq_true rfl) dX1_foresee_132 rfl) (fun t10 H locs h wd => ?_)
          try dsimp only at h
          exact blX1_foresee_135 hn C hk_82 h wd (lv_sub hl [1, 2, 3, 4, 0] rfl)
def wlX1_foresee_15_body (Φ : St → Prop) (k_15 : Int32 → Int32 → St → Prop) (x2 : Int32) (x3 : Int32) (σ : St) : Prop :=
  (((σ.1 129) ≤ x3 → wpX2_clerk x2 σ (fun r3 t2 => wpX9_put 50 x2 (t2.1 (32 * r3 + 3)) t2 (fun t4 => (∃ N, wlX1_foresee_82 Φ N (0 : Int32) (0 : Int32) t4)))) ∧ (¬ (σ.1 129) ≤ x3 → wpX2_clerk x3 σ (fun r6 t5 => wpX9_put 51 x3 (t5.1 (32 * r6 + 2)) t5 (fun t7 => wpX2_clerk x3 t7 (fun r9 t8 => wpX9_put 50 x3 (t8.1 (32 * r9 + 2)) t8 (fun t10 => (∀ y11 : Int32, y11 = x3 + (1 : Int32) → k_15 x2 y11 t10)))))))
def wlX1_foresee_15 (Φ : St → Prop) : Nat → Int32 → Int32 → St → Prop
  | 0 => fun _ _ _ => False
  | N + 1 => fun x2 x3 σ => wlX1_foresee_15_body Φ (wlX1_foresee_15 Φ N) x2 x3 σ
set_option maxHeartbeats 4000000 in
set_option maxRecDepth 100000 in
theorem llX1_foresee_15 {p : Program} {l : Launch} {e : Env} {s : State} {m : MethodId} {args : Array Value} {below : List Frame} {meth : Method} {c : Code} (hn : 52 ≤ n) (C : Cx p s m args meth c cX1_foresee 6 none RX1) {Φ : St → Prop} : ∀ (N : Nat) (x2 : Int32) (x3 : Int32) (σ : St) (H : Heap) (locs : List Loc) (ls : Array Slot), wlX1_foresee_15 Φ N x2 x3 σ → gWd D (tyL cyI cyO) (cCell ad cyI cyO) ad n s H locs σ → lv_has ls 6 [(0, .ref (ad 4)), (1, .ref (ad 0)), (2, .int x2), (3, .int x3)] → W p l e rmX1_foresee s m args below meth c H locs 0 0 (MQ below (gQv D (cCell ad cyI cyO) ad n s.heap.size Φ) args s 0 0 (gA ad n s.heap.size)) (F0 m 15 ls []) := by
  obtain ⟨hx, hb, hr, hml, hown, hts, hlk⟩ := id C
  intro N
  induction N with
  | zero =>
    intro x2 x3 σ H locs ls h
    exact False.elim h
  | succ N ih =>
    intro x2 x3 σ H locs ls h wd hl
    have h : wlX1_foresee_15_body Φ (wlX1_foresee_15 Φ N) x2 x3 σ := h
    have hk_15 := ih
    unfold wlX1_foresee_15_body at h
    refine lv_iload_n hx hb dX1_foresee_15 rfl (lv_at hl 3 rfl) ?_
    refine lv_aload_n hx hb dX1_foresee_16 rfl (lv_at hl 0 rfl) ?_
    refine getF C wd (k := 4) (Cn := RX1) (T := TX1) (N := 4) (v := .int (σ.1 129)) (by omega) cc_X1 rfl 1 (by decide) rfl inX1 tw1_114 dX1_foresee_17 ?_
    refine lv_icmp_ge (tgt := 61) hx hb dX1_foresee_20 (by decide) (fun c1 => ?_) (fun c1 => ?_)
    · have h := h.1 c1
      refine lv_aload_n hx hb dX1_foresee_61 rfl (lv_at hl 0 rfl) ?_
      refine getF C wd (k := 4) (Cn := RX1) (T := TX1) (N := 4) (v := .ref (ad 50)) (by omega) cc_X1 rfl 2 (by decide) rfl inX1 tw1_115 dX1_foresee_62 ?_
      refine lv_iload_n hx hb dX1_foresee_65 rfl (lv_at hl 2 rfl) ?_
      refine lv_aload_n hx hb dX1_foresee_66 rfl (lv_at hl 1 rfl) ?_
      refine lv_iload_n hx hb dX1_foresee_67 rfl (lv_at hl 2 rfl) ?_
      refine gCr wd (gRunV (y := yX2_clerk) (k := 0) (As := [.int x2]) (rest := [.int x2, .ref (ad 50)]) C wd (cmX2_clerk (by omega) h) ⟨rfl, rfl⟩ gd_X1_28 nk_X2_clerk ⟨Nat.le_of_ble_eq_true rfl, Nat.le_of_ble_eq_true rfl⟩ (by omega) cc_X2 rfl rfl hl.1 (Nat.le_of_ble_eq_true rfl) dX1_foresee_68 rfl) (fun r3 t2 H locs hr3a hr3b h wd => ?_)
      try dsimp only at h
      refine getN C wd (k := r3) (Cn := RX0) (T := TX0) (N := 9) (v := .int (t2.1 (32 * r3 + 3))) (by omega) (cc_X0 (k := r3) (by omega) (by omega)) rfl 3 (by decide) rfl inX0 ns_19 dX1_foresee_71 ?_
      refine gCv wd (gRunSN (y := yX9_put) (As := [.ref (ad 50), .int x2, .int (t2.1 (32 * r3 + 3))]) (rest := []) C wd (cmX9_put (by omega) (by omega) (by omega) h) ⟨rfl, rfl⟩ gc_X9_put ns_53 tw1_1 tw1_188 nk_X9_put ⟨Nat.le_of_ble_eq_true rfl, Nat.le_of_ble_eq_true rfl⟩ hl.1 (Nat.le_of_ble_eq_true rfl) dX1_foresee_74 rfl) (fun t4 H locs h wd => ?_)
      try dsimp only at h
      refine lv_iconst (v := (0 : Int32)) hx hb dX1_foresee_77 (by decide) ?_
      refine lv_istore_n (lv' := [(3, .int (0 : Int32)), (0, .ref (ad 4)), (1, .ref (ad 0)), (2, .int x2)]) hx hb dX1_foresee_78 rfl hl (by decide) rfl (fun ls hl => ?_)
      refine lv_iconst (v := (0 : Int32)) hx hb dX1_foresee_79 (by decide) ?_
      refine lv_istore (lv' := [(4, .int (0 : Int32)), (3, .int (0 : Int32)), (0, .ref (ad 4)), (1, .ref (ad 0)), (2, .int x2)]) hx hb dX1_foresee_80 hl (by decide) rfl (fun ls hl => ?_)
      obtain ⟨N, h⟩ := h
      exact llX1_foresee_82 hn C N _ _ _ _ _ _ h wd (lv_sub hl [2, 3, 1, 0] rfl)
    · have h := h.2 c1
      refine lv_aload_n hx hb dX1_foresee_23 rfl (lv_at hl 0 rfl) ?_
      refine getF C wd (k := 4) (Cn := RX1) (T := TX1) (N := 4) (v := .ref (ad 51)) (by omega) cc_X1 rfl 3 (by decide) rfl inX1 tw1_116 dX1_foresee_24 ?_
      refine lv_iload_n hx hb dX1_foresee_27 rfl (lv_at hl 3 rfl) ?_
      refine lv_aload_n hx hb dX1_foresee_28 rfl (lv_at hl 1 rfl) ?_
      refine lv_iload_n hx hb dX1_foresee_29 rfl (lv_at hl 3 rfl) ?_
      refine gCr wd (gRunV (y := yX2_clerk) (k := 0) (As := [.int x3]) (rest := [.int x3, .ref (ad 51)]) C wd (cmX2_clerk (by omega) h) ⟨rfl, rfl⟩ gd_X1_28 nk_X2_clerk ⟨Nat.le_of_ble_eq_true rfl, Nat.le_of_ble_eq_true rfl⟩ (by omega) cc_X2 rfl rfl hl.1 (Nat.le_of_ble_eq_true rfl) dX1_foresee_30 rfl) (fun r6 t5 H locs hr6a hr6b h wd => ?_)
      try dsimp only at h
      refine getN C wd (k := r6) (Cn := RX0) (T := TX0) (N := 9) (v := .int (t5.1 (32 * r6 + 2))) (by omega) (cc_X0 (k := r6) (by omega) (by omega)) rfl 2 (by decide) rfl inX0 ns_16 dX1_foresee_33 ?_
      refine gCv wd (gRunSN (y := yX9_put) (As := [.ref (ad 51), .int x3, .int (t5.1 (32 * r6 + 2))]) (rest := []) C wd (cmX9_put (by omega) (by omega) (by omega) h) ⟨rfl, rfl⟩ gc_X9_put ns_53 tw1_1 tw1_188 nk_X9_put ⟨Nat.le_of_ble_eq_true rfl, Nat.le_of_ble_eq_true rfl⟩ hl.1 (Nat.le_of_ble_eq_true rfl) dX1_foresee_36 rfl) (fun t7 H locs h wd => ?_)
      try dsimp only at h
      refine lv_aload_n hx hb dX1_foresee_39 rfl (lv_at hl 0 rfl) ?_
      refine getF C wd (k := 4) (Cn := RX1) (T := TX1) (N := 4) (v := .ref (ad 50)) (by omega) cc_X1 rfl 2 (by decide) rfl inX1 tw1_115 dX1_foresee_40 ?_
      refine lv_iload_n hx hb dX1_foresee_43 rfl (lv_at hl 3 rfl) ?_
      refine lv_aload_n hx hb dX1_foresee_44 rfl (lv_at hl 1 rfl) ?_
      refine lv_iload_n hx hb dX1_foresee_45 rfl (lv_at hl 3 rfl) ?_
      refine gCr wd (gRunV (y := yX2_clerk) (k := 0) (As := [.int x3]) (rest := [.int x3, .ref (ad 50)]) C wd (cmX2_clerk (by omega) h) ⟨rfl, rfl⟩ gd_X1_28 nk_X2_clerk ⟨Nat.le_of_ble_eq_true rfl, Nat.le_of_ble_eq_true rfl⟩ (by omega) cc_X2 rfl rfl hl.1 (Nat.le_of_ble_eq_true rfl) dX1_foresee_46 rfl) (fun r9 t8 H locs hr9a hr9b h wd => ?_)
      try dsimp only at h
      refine getN C wd (k := r9) (Cn := RX0) (T := TX0) (N := 9) (v := .int (t8.1 (32 * r9 + 2))) (by omega) (cc_X0 (k := r9) (by omega) (by omega)) rfl 2 (by decide) rfl inX0 ns_16 dX1_foresee_49 ?_
      refine gCv wd (gRunSN (y := yX9_put) (As := [.ref (ad 50), .int x3, .int (t8.1 (32 * r9 + 2))]) (rest := []) C wd (cmX9_put (by omega) (by omega) (by omega) h) ⟨rfl, rfl⟩ gc_X9_put ns_53 tw1_1 tw1_188 nk_X9_put ⟨Nat.le_of_ble_eq_true rfl, Nat.le_of_ble_eq_true rfl⟩ hl.1 (Nat.le_of_ble_eq_true rfl) dX1_foresee_52 rfl) (fun t10 H locs h wd => ?_)
      try dsimp only at h
      obtain ⟨y11, ey11⟩ : ∃ y : Int32, y = x3 + (1 : Int32) := ⟨_, rfl⟩
      refine lv_iinc (v := y11) (lv' := [(3, .int y11), (0, .ref (ad 4)), (1, .ref (ad 0)), (2, .int x2)]) hx hb dX1_foresee_55 hl (k := 3) rfl (by rw [ey11]; rfl) (by decide) rfl (fun ls hl => ?_)
      have h := h y11 ey11
      refine lv_goto (tgt := 15) hx hb dX1_foresee_58 (by decide) ?_
      exact hk_15 _ _ _ _ _ _ h wd (lv_sub hl [1, 2, 3, 0] rfl)
def wpX1_foresee (x2 : Int32) (σ : St) (Φ : St → Prop) : Prop :=
  (∀ t1 : St, t1 = setI σ 128 x2 → (∀ t2 : St, t2 = setI t1 129 (t1.1 0) → (∃ N, wlX1_foresee_15 Φ N x2 (0 : Int32) t2)))
set_option maxHeartbeats 4000000 in
set_option maxRecDepth 100000 in
theorem cmX1_foresee {D : va_G} {cyI cyO : ClassId} {ad : Nat → Nat} {n : Nat} {l : Launch} (hn : 52 ≤ n) {x2 : Int32} {σ : St} {sz : Nat} {Φ : St → Prop} (h : wpX1_foresee x2 σ Φ) : gMet D (tyL cyI cyO) (cCell ad cyI cyO) ad n l yX1_foresee cX1_foresee 6 none rmX1_foresee [.ref (ad 4), .ref (ad 0), .int x2] σ sz (gQv D (cCell ad cyI cyO) ad n sz Φ) := by
  refine gMet.of (by decide) (Nat.le_of_ble_eq_true rfl) ?_
  intro p e s m below meth c ls hsz C hl wd
  subst hsz
  have C : Cx p s m _ meth c cX1_foresee 6 none RX1 := C
  obtain ⟨hx, hb, hr, hml, hown, hts, hlk⟩ := id C
  have hl : lv_has ls 6 [(0, .ref (ad 4)), (1, .ref (ad 0)), (2, .int x2)] := hl
  unfold wpX1_foresee at h
  refine lv_aload_n hx hb dX1_foresee_0 rfl (lv_at hl 0 rfl) ?_
  refine lv_iload_n hx hb dX1_foresee_1 rfl (lv_at hl 2 rfl) ?_
  refine putF C wd (k := 4) (Cn := RX1) (T := TX1) (N := 4) (σ' := setI σ 128 x2) (by omega) cc_X1 rfl tyX1_ok nmX1 0 (by decide) rfl (by decide +kernel) (Nat.le_of_ble_eq_true rfl) inX1 tw1_113 cs_X1_loser dX1_foresee_2 (fun H locs wd => ?_)
  obtain ⟨t1, et1⟩ : ∃ z : St, z = setI σ 128 x2 := ⟨_, rfl⟩
  rw [← et1] at wd
  have h := h t1 et1
  refine lv_aload_n hx hb dX1_foresee_5 rfl (lv_at hl 0 rfl) ?_
  refine lv_aload_n hx hb dX1_foresee_6 rfl (lv_at hl 1 rfl) ?_
  refine getN C wd (k := 0) (Cn := RX2) (T := TX2) (N := 6) (v := .int (t1.1 0)) (by omega) cc_X2 rfl 0 (by decide) rfl inX2 ns_30 dX1_foresee_7 ?_
  refine putF C wd (k := 4) (Cn := RX1) (T := TX1) (N := 4) (σ' := setI t1 129 (t1.1 0)) (by omega) cc_X1 rfl tyX1_ok nmX1 1 (by decide) rfl (by decide +kernel) (Nat.le_of_ble_eq_true rfl) inX1 tw1_114 cs_X1_n dX1_foresee_10 (fun H locs wd => ?_)
  obtain ⟨t2, et2⟩ : ∃ z : St, z = setI t1 129 (t1.1 0) := ⟨_, rfl⟩
  rw [← et2] at wd
  have h := h t2 et2
  refine lv_iconst (v := (0 : Int32)) hx hb dX1_foresee_13 (by decide) ?_
  refine lv_istore_n (lv' := [(3, .int (0 : Int32)), (0, .ref (ad 4)), (1, .ref (ad 0)), (2, .int x2)]) hx hb dX1_foresee_14 rfl hl (by decide) rfl (fun ls hl => ?_)
  obtain ⟨N, h⟩ := h
  exact llX1_foresee_15 hn C N _ _ _ _ _ _ h wd (lv_sub hl [1, 2, 3, 0] rfl)
abbrev rmX1_keptBy : Room := rmOf 1 21
def wpX1_keptBy (x1 : Int32) (σ : St) (Φ : Int32 → St → Prop) : Prop :=
  wpX9_at 50 x1 σ (fun r2 t1 => Φ r2 t1)
set_option maxHeartbeats 4000000 in
set_option maxRecDepth 100000 in
theorem cmX1_keptBy {D : va_G} {cyI cyO : ClassId} {ad : Nat → Nat} {n : Nat} {l : Launch} (hn : 52 ≤ n) {x1 : Int32} {σ : St} {sz : Nat} {Φ : Int32 → St → Prop} (h : wpX1_keptBy x1 σ Φ) : gMet D (tyL cyI cyO) (cCell ad cyI cyO) ad n l yX1_keptBy cX1_keptBy 2 (some .int) rmX1_keptBy [.ref (ad 4), .int x1] σ sz (gQi D (cCell ad cyI cyO) ad n sz Φ) := by
  refine gMet.of (by decide) (Nat.le_of_ble_eq_true rfl) ?_
  intro p e s m below meth c ls hsz C hl wd
  subst hsz
  have C : Cx p s m _ meth c cX1_keptBy 2 (some .int) RX1 := C
  obtain ⟨hx, hb, hr, hml, hown, hts, hlk⟩ := id C
  have hl : lv_has ls 2 [(0, .ref (ad 4)), (1, .int x1)] := hl
  unfold wpX1_keptBy at h
  refine lv_aload_n hx hb dX1_keptBy_0 rfl (lv_at hl 0 rfl) ?_
  refine getF C wd (k := 4) (Cn := RX1) (T := TX1) (N := 4) (v := .ref (ad 50)) (by omega) cc_X1 rfl 2 (by decide) rfl inX1 tw1_115 dX1_keptBy_1 ?_
  refine lv_iload_n hx hb dX1_keptBy_4 rfl (lv_at hl 1 rfl) ?_
  refine gCi wd (gRunSN (y := yX9_at) (As := [.ref (ad 50), .int x1]) (rest := []) C wd (cmX9_at (by omega) (by omega) (by omega) h) ⟨rfl, rfl⟩ gc_X9_at ns_54 tw1_1 tw2_92 nk_X9_at ⟨Nat.le_of_ble_eq_true rfl, Nat.le_of_ble_eq_true rfl⟩ hl.1 (Nat.le_of_ble_eq_true rfl) dX1_keptBy_5 rfl) (fun r2 t1 H locs h wd => ?_)
  try dsimp only at h
  exact retI C wd h dX1_keptBy_8
abbrev rmX1_fells : Room := rmOf 1 21
def wpX1_fells (x1 : Int32) (σ : St) (Φ : Int32 → St → Prop) : Prop :=
  ((x1 = (σ.1 128) → Φ (1 : Int32) σ) ∧ (¬ x1 = (σ.1 128) → wpX9_at 50 x1 σ (fun r3 t2 => wpX9_at 51 x1 t2 (fun r5 t4 => ((r5 ≤ r3 → Φ (0 : Int32) t4) ∧ (¬ r5 ≤ r3 → Φ (1 : Int32) t4))))))
set_option maxHeartbeats 4000000 in
set_option maxRecDepth 100000 in
theorem cmX1_fells {D : va_G} {cyI cyO : ClassId} {ad : Nat → Nat} {n : Nat} {l : Launch} (hn : 52 ≤ n) {x1 : Int32} {σ : St} {sz : Nat} {Φ : Int32 → St → Prop} (h : wpX1_fells x1 σ Φ) : gMet D (tyL cyI cyO) (cCell ad cyI cyO) ad n l yX1_fells cX1_fells 2 (some .boolean) rmX1_fells [.ref (ad 4), .int x1] σ sz (gQi D (cCell ad cyI cyO) ad n sz Φ) := by
  refine gMet.of (by decide) (Nat.le_of_ble_eq_true rfl) ?_
  intro p e s m below meth c ls hsz C hl wd
  subst hsz
  have C : Cx p s m _ meth c cX1_fells 2 (some .boolean) RX1 := C
  obtain ⟨hx, hb, hr, hml, hown, hts, hlk⟩ := id C
  have hl : lv_has ls 2 [(0, .ref (ad 4)), (1, .int x1)] := hl
  unfold wpX1_fells at h
  refine lv_iload_n hx hb dX1_fells_0 rfl (lv_at hl 1 rfl) ?_
  refine lv_aload_n hx hb dX1_fells_1 rfl (lv_at hl 0 rfl) ?_
  refine getF C wd (k := 4) (Cn := RX1) (T := TX1) (N := 4) (v := .int (σ.1 128)) (by omega) cc_X1 rfl 0 (by decide) rfl inX1 tw1_113 dX1_fells_2 ?_
  refine lv_icmp_eq (tgt := 27) hx hb dX1_fells_5 (by decide) (fun c1 => ?_) (fun c1 => ?_)
  · have h := h.1 c1
    refine lv_iconst (v := (1 : Int32)) hx hb dX1_fells_27 (by decide) ?_
    refine lv_goto (tgt := 32) hx hb dX1_fells_28 (by decide) ?_
    exact retZ C wd rfl h dX1_fells_32
  · have h := h.2 c1
    refine lv_aload_n hx hb dX1_fells_8 rfl (lv_at hl 0 rfl) ?_
    refine getF C wd (k := 4) (Cn := RX1) (T := TX1) (N := 4) (v := .ref (ad 50)) (by omega) cc_X1 rfl 2 (by decide) rfl inX1 tw1_115 dX1_fells_9 ?_
    refine lv_iload_n hx hb dX1_fells_12 rfl (lv_at hl 1 rfl) ?_
    refine gCi wd (gRunSN (y := yX9_at) (As := [.ref (ad 50), .int x1]) (rest := []) C wd (cmX9_at (by omega) (by omega) (by omega) h) ⟨rfl, rfl⟩ gc_X9_at ns_54 tw1_1 tw2_92 nk_X9_at ⟨Nat.le_of_ble_eq_true rfl, Nat.le_of_ble_eq_true rfl⟩ hl.1 (Nat.le_of_ble_eq_true rfl) dX1_fells_13 rfl) (fun r3 t2 H locs h wd => ?_)
    try dsimp only at h
    refine lv_aload_n hx hb dX1_fells_16 rfl (lv_at hl 0 rfl) ?_
    refine getF C wd (k := 4) (Cn := RX1) (T := TX1) (N := 4) (v := .ref (ad 51)) (by omega) cc_X1 rfl 3 (by decide) rfl inX1 tw1_116 dX1_fells_17 ?_
    refine lv_iload_n hx hb dX1_fells_20 rfl (lv_at hl 1 rfl) ?_
    refine gCi wd (gRunSN (y := yX9_at) (As := [.ref (ad 51), .int x1]) (rest := [.int r3]) C wd (cmX9_at (by omega) (by omega) (by omega) h) ⟨rfl, rfl⟩ gc_X9_at ns_54 tw1_1 tw2_92 nk_X9_at ⟨Nat.le_of_ble_eq_true rfl, Nat.le_of_ble_eq_true rfl⟩ hl.1 (Nat.le_of_ble_eq_true rfl) dX1_fells_21 rfl) (fun r5 t4 H locs h wd => ?_)
    try dsimp only at h
    refine lv_icmp_ge (tgt := 31) hx hb dX1_fells_24 (by decide) (fun c6 => ?_) (fun c6 => ?_)
    · have h := h.1 c6
      refine lv_iconst (v := (0 : Int32)) hx hb dX1_fells_31 (by decide) ?_
      exact retZ C wd rfl h dX1_fells_32
    · have h := h.2 c6
      refine lv_iconst (v := (1 : Int32)) hx hb dX1_fells_27 (by decide) ?_
      refine lv_goto (tgt := 32) hx hb dX1_fells_28 (by decide) ?_
      exact retZ C wd rfl h dX1_fells_32
abbrev rmX1_pagesGone : Room := rmOf 1 21
def wlX1_pagesGone_4_body (Φ : Int32 → St → Prop) (k_4 : Int32 → Int32 → St → Prop) (x1 : Int32) (x2 : Int32) (σ : St) : Prop :=
  (((σ.1 129) ≤ x2 → Φ x1 σ) ∧ (¬ (σ.1 129) ≤ x2 → wpX9_at 51 x2 σ (fun r3 t2 => wpX9_at 50 x2 t2 (fun r5 t4 => (∀ y6 : Int32, y6 = x1 + (r3 - r5) → (∀ y7 : Int32, y7 = x2 + (1 : Int32) → k_4 y6 y7 t4))))))
def wlX1_pagesGone_4 (Φ : Int32 → St → Prop) : Nat → Int32 → Int32 → St → Prop
  | 0 => fun _ _ _ => False
  | N + 1 => fun x1 x2 σ => wlX1_pagesGone_4_body Φ (wlX1_pagesGone_4 Φ N) x1 x2 σ
set_option maxHeartbeats 4000000 in
set_option maxRecDepth 100000 in
theorem llX1_pagesGone_4 {p : Program} {l : Launch} {e : Env} {s : State} {m : MethodId} {args : Array Value} {below : List Frame} {meth : Method} {c : Code} (hn : 52 ≤ n) (C : Cx p s m args meth c cX1_pagesGone 3 (some .int) RX1) {Φ : Int32 → St → Prop} : ∀ (N : Nat) (x1 : Int32) (x2 : Int32) (σ : St) (H : Heap) (locs : List Loc) (ls : Array Slot), wlX1_pagesGone_4 Φ N x1 x2 σ → gWd D (tyL cyI cyO) (cCell ad cyI cyO) ad n s H locs σ → lv_has ls 3 [(0, .ref (ad 4)), (1, .int x1), (2, .int x2)] → W p l e rmX1_pagesGone s m args below meth c H locs 0 0 (MQ below (gQi D (cCell ad cyI cyO) ad n s.heap.size Φ) args s 0 0 (gA ad n s.heap.size)) (F0 m 4 ls []) := by
  obtain ⟨hx, hb, hr, hml, hown, hts, hlk⟩ := id C
  intro N
  induction N with
  | zero =>
    intro x1 x2 σ H locs ls h
    exact False.elim h
  | succ N ih =>
    intro x1 x2 σ H locs ls h wd hl
    have h : wlX1_pagesGone_4_body Φ (wlX1_pagesGone_4 Φ N) x1 x2 σ := h
    have hk_4 := ih
    unfold wlX1_pagesGone_4_body at h
    refine lv_iload_n hx hb dX1_pagesGone_4 rfl (lv_at hl 2 rfl) ?_
    refine lv_aload_n hx hb dX1_pagesGone_5 rfl (lv_at hl 0 rfl) ?_
    refine getF C wd (k := 4) (Cn := RX1) (T := TX1) (N := 4) (v := .int (σ.1 129)) (by omega) cc_X1 rfl 1 (by decide) rfl inX1 tw1_114 dX1_pagesGone_6 ?_
    refine lv_icmp_ge (tgt := 38) hx hb dX1_pagesGone_9 (by decide) (fun c1 => ?_) (fun c1 => ?_)
    · have h := h.1 c1
      refine lv_iload_n hx hb dX1_pagesGone_38 rfl (lv_at hl 1 rfl) ?_
      exact retI C wd h dX1_pagesGone_39
    · have h := h.2 c1
      refine lv_iload_n hx hb dX1_pagesGone_12 rfl (lv_at hl 1 rfl) ?_
      refine lv_aload_n hx hb dX1_pagesGone_13 rfl (lv_at hl 0 rfl) ?_
      refine getF C wd (k := 4) (Cn := RX1) (T := TX1) (N := 4) (v := .ref (ad 51)) (by omega) cc_X1 rfl 3 (by decide) rfl inX1 tw1_116 dX1_pagesGone_14 ?_
      refine lv_iload_n hx hb dX1_pagesGone_17 rfl (lv_at hl 2 rfl) ?_
      refine gCi wd (gRunSN (y := yX9_at) (As := [.ref (ad 51), .int x2]) (rest := [.int x1]) C wd (cmX9_at (by omega) (by omega) (by omega) h) ⟨rfl, rfl⟩ gc_X9_at ns_54 tw1_1 tw2_92 nk_X9_at ⟨Nat.le_of_ble_eq_true rfl, Nat.le_of_ble_eq_true rfl⟩ hl.1 (Nat.le_of_ble_eq_true rfl) dX1_pagesGone_18 rfl) (fun r3 t2 H locs h wd => ?_)
      try dsimp only at h
      refine lv_aload_n hx hb dX1_pagesGone_21 rfl (lv_at hl 0 rfl) ?_
      refine getF C wd (k := 4) (Cn := RX1) (T := TX1) (N := 4) (v := .ref (ad 50)) (by omega) cc_X1 rfl 2 (by decide) rfl inX1 tw1_115 dX1_pagesGone_22 ?_
      refine lv_iload_n hx hb dX1_pagesGone_25 rfl (lv_at hl 2 rfl) ?_
      refine gCi wd (gRunSN (y := yX9_at) (As := [.ref (ad 50), .int x2]) (rest := [.int r3, .int x1]) C wd (cmX9_at (by omega) (by omega) (by omega) h) ⟨rfl, rfl⟩ gc_X9_at ns_54 tw1_1 tw2_92 nk_X9_at ⟨Nat.le_of_ble_eq_true rfl, Nat.le_of_ble_eq_true rfl⟩ hl.1 (Nat.le_of_ble_eq_true rfl) dX1_pagesGone_26 rfl) (fun r5 t4 H locs h wd => ?_)
      try dsimp only at h
      refine lv_isub hx hb dX1_pagesGone_29 ?_
      refine lv_iadd hx hb dX1_pagesGone_30 ?_
      refine lv_topi (fun y6 ey6 => ?_)
      have h := h y6 ey6
      refine lv_istore_n (lv' := [(1, .int y6), (0, .ref (ad 4)), (2, .int x2)]) hx hb dX1_pagesGone_31 rfl hl (by decide) rfl (fun ls hl => ?_)
      obtain ⟨y7, ey7⟩ : ∃ y : Int32, y = x2 + (1 : Int32) := ⟨_, rfl⟩
      refine lv_iinc (v := y7) (lv' := [(2, .int y7), (1, .int y6), (0, .ref (ad 4))]) hx hb dX1_pagesGone_32 hl (k := 2) rfl (by rw [ey7]; rfl) (by decide) rfl (fun ls hl => ?_)
      have h := h y7 ey7
      refine lv_goto (tgt := 4) hx hb dX1_pagesGone_35 (by decide) ?_
      exact hk_4 _ _ _ _ _ _ h wd (lv_sub hl [2, 1, 0] rfl)
def wpX1_pagesGone (σ : St) (Φ : Int32 → St → Prop) : Prop :=
  (∃ N, wlX1_pagesGone_4 Φ N (0 : Int32) (0 : Int32) σ)
set_option maxHeartbeats 4000000 in
set_option maxRecDepth 100000 in
theorem cmX1_pagesGone {D : va_G} {cyI cyO : ClassId} {ad : Nat → Nat} {n : Nat} {l : Launch} (hn : 52 ≤ n) {σ : St} {sz : Nat} {Φ : Int32 → St → Prop} (h : wpX1_pagesGone σ Φ) : gMet D (tyL cyI cyO) (cCell ad cyI cyO) ad n l yX1_pagesGone cX1_pagesGone 3 (some .int) rmX1_pagesGone [.ref (ad 4)] σ sz (gQi D (cCell ad cyI cyO) ad n sz Φ) := by
  refine gMet.of (by decide) (Nat.le_of_ble_eq_true rfl) ?_
  intro p e s m below meth c ls hsz C hl wd
  subst hsz
  have C : Cx p s m _ meth c cX1_pagesGone 3 (some .int) RX1 := C
  obtain ⟨hx, hb, hr, hml, hown, hts, hlk⟩ := id C
  have hl : lv_has ls 3 [(0, .ref (ad 4))] := hl
  unfold wpX1_pagesGone at h
  refine lv_iconst (v := (0 : Int32)) hx hb dX1_pagesGone_0 (by decide) ?_
  refine lv_istore_n (lv' := [(1, .int (0 : Int32)), (0, .ref (ad 4))]) hx hb dX1_pagesGone_1 rfl hl (by decide) rfl (fun ls hl => ?_)
  refine lv_iconst (v := (0 : Int32)) hx hb dX1_pagesGone_2 (by decide) ?_
  refine lv_istore_n (lv' := [(2, .int (0 : Int32)), (1, .int (0 : Int32)), (0, .ref (ad 4))]) hx hb dX1_pagesGone_3 rfl hl (by decide) rfl (fun ls hl => ?_)
  obtain ⟨N, h⟩ := h
  exact llX1_pagesGone_4 hn C N _ _ _ _ _ _ h wd (lv_sub hl [2, 1, 0] rfl)
abbrev rmX1_clerksFelled : Room := rmOf 2 42
def wbX1_clerksFelled_23 (Φ : Int32 → St → Prop) (k_4 : Int32 → Int32 → St → Prop) (x1 : Int32) (x2 : Int32) (σ : St) : Prop :=
  (∀ y1 : Int32, y1 = x2 + (1 : Int32) → k_4 x1 y1 σ)
set_option maxHeartbeats 4000000 in
set_option maxRecDepth 100000 in
theorem blX1_clerksFelled_23 {p : Program} {l : Launch} {e : Env} {s : State} {m : MethodId} {args : Array Value} {below : List Frame} {meth : Method} {c : Code} (hn : 52 ≤ n) (C : Cx p s m args meth c cX1_clerksFelled 3 (some .int) RX1) {Φ : Int32 → St → Prop} {k_4 : Int32 → Int32 → St → Prop} (hk_4 : ∀ (x1 : Int32) (x2 : Int32) (σ : St) (H : Heap) (locs : List Loc) (ls : Array Slot), k_4 x1 x2 σ → gWd D (tyL cyI cyO) (cCell ad cyI cyO) ad n s H locs σ → lv_has ls 3 [(0, .ref (ad 4)), (1, .int x1), (2, .int x2)] → W p l e rmX1_clerksFelled s m args below meth c H locs 0 0 (MQ below (gQi D (cCell ad cyI cyO) ad n s.heap.size Φ) args s 0 0 (gA ad n s.heap.size)) (F0 m 4 ls [])) {x1 : Int32} {x2 : Int32} {σ : St} {H : Heap} {locs : List Loc} {ls : Array Slot} (h : wbX1_clerksFelled_23 Φ k_4 x1 x2 σ) (wd : gWd D (tyL cyI cyO) (cCell ad cyI cyO) ad n s H locs σ) (hl : lv_has ls 3 [(0, .ref (ad 4)), (1, .int x1), (2, .int x2)]) : W p l e rmX1_clerksFelled s m args below meth c H locs 0 0 (MQ below (gQi D (cCell ad cyI cyO) ad n s.heap.size Φ) args s 0 0 (gA ad n s.heap.size)) (F0 m 23 ls []) := by
  obtain ⟨hx, hb, hr, hml, hown, hts, hlk⟩ := id C
  unfold wbX1_clerksFelled_23 at h
  obtain ⟨y1, ey1⟩ : ∃ y : Int32, y = x2 + (1 : Int32) := ⟨_, rfl⟩
  refine lv_iinc (v := y1) (lv' := [(2, .int y1), (0, .ref (ad 4)), (1, .int x1)]) hx hb dX1_clerksFelled_23 hl (k := 2) rfl (by rw [ey1]; rfl) (by decide) rfl (fun ls hl => ?_)
  have h := h y1 ey1
  refine lv_goto (tgt := 4) hx hb dX1_clerksFelled_26 (by decide) ?_
  exact hk_4 _ _ _ _ _ _ h wd (lv_sub hl [1, 2, 0] rfl)
def wlX1_clerksFelled_4_body (Φ : Int32 → St → Prop) (k_4 : Int32 → Int32 → St → Prop) (x1 : Int32) (x2 : Int32) (σ : St) : Prop :=
  (((σ.1 129) ≤ x2 → Φ x1 σ) ∧ (¬ (σ.1 129) ≤ x2 → wpX1_fells x2 σ (fun r3 t2 => ((r3 = 0 → wbX1_clerksFelled_23 Φ k_4 x1 x2 t2) ∧ (¬ r3 = 0 → (∀ y5 : Int32, y5 = x1 + (1 : Int32) → wbX1_clerksFelled_23 Φ k_4 y5 x2 t2))))))
def wlX1_clerksFelled_4 (Φ : Int32 → St → Prop) : Nat → Int32 → Int32 → St → Prop
  | 0 => fun _ _ _ => False
  | N + 1 => fun x1 x2 σ => wlX1_clerksFelled_4_body Φ (wlX1_clerksFelled_4 Φ N) x1 x2 σ
set_option maxHeartbeats 4000000 in
set_option maxRecDepth 100000 in
theorem llX1_clerksFelled_4 {p : Program} {l : Launch} {e : Env} {s : State} {m : MethodId} {args : Array Value} {below : List Frame} {meth : Method} {c : Code} (hn : 52 ≤ n) (C : Cx p s m args meth c cX1_clerksFelled 3 (some .int) RX1) {Φ : Int32 → St → Prop} : ∀ (N : Nat) (x1 : Int32) (x2 : Int32) (σ : St) (H : Heap) (locs : List Loc) (ls : Array Slot), wlX1_clerksFelled_4 Φ N x1 x2 σ → gWd D (tyL cyI cyO) (cCell ad cyI cyO) ad n s H locs σ → lv_has ls 3 [(0, .ref (ad 4)), (1, .int x1), (2, .int x2)] → W p l e rmX1_clerksFelled s m args below meth c H locs 0 0 (MQ below (gQi D (cCell ad cyI cyO) ad n s.heap.size Φ) args s 0 0 (gA ad n s.heap.size)) (F0 m 4 ls []) := by
  obtain ⟨hx, hb, hr, hml, hown, hts, hlk⟩ := id C
  intro N
  induction N with
  | zero =>
    intro x1 x2 σ H locs ls h
    exact False.elim h
  | succ N ih =>
    intro x1 x2 σ H locs ls h wd hl
    have h : wlX1_clerksFelled_4_body Φ (wlX1_clerksFelled_4 Φ N) x1 x2 σ := h
    have hk_4 := ih
    unfold wlX1_clerksFelled_4_body at h
    refine lv_iload_n hx hb dX1_clerksFelled_4 rfl (lv_at hl 2 rfl) ?_
    refine lv_aload_n hx hb dX1_clerksFelled_5 rfl (lv_at hl 0 rfl) ?_
    refine getF C wd (k := 4) (Cn := RX1) (T := TX1) (N := 4) (v := .int (σ.1 129)) (by omega) cc_X1 rfl 1 (by decide) rfl inX1 tw1_114 dX1_clerksFelled_6 ?_
    refine lv_icmp_ge (tgt := 29) hx hb dX1_clerksFelled_9 (by decide) (fun c1 => ?_) (fun c1 => ?_)
    · have h := h.1 c1
      refine lv_iload_n hx hb dX1_clerksFelled_29 rfl (lv_at hl 1 rfl) ?_
      exact retI C wd h dX1_clerksFelled_30
    · have h := h.2 c1
      refine lv_aload_n hx hb dX1_clerksFelled_12 rfl (lv_at hl 0 rfl) ?_
      refine lv_iload_n hx hb dX1_clerksFelled_13 rfl (lv_at hl 2 rfl) ?_
      refine gCi wd (gRunV (y := yX1_fells) (k := 4) (As := [.int x2]) (rest := []) C wd (cmX1_fells (by omega) h) ⟨rfl, rfl⟩ gd_X1_65 nk_X1_fells ⟨Nat.le_of_ble_eq_true rfl, Nat.le_of_ble_eq_true rfl⟩ (by omega) cc_X1 rfl rfl hl.1 (Nat.le_of_ble_eq_true rfl) dX1_clerksFelled_14 rfl) (fun r3 t2 H locs h wd => ?_)
      try dsimp only at h
      refine lv_if_eq (tgt := 23) hx hb dX1_clerksFelled_17 (by decide) (fun c4 => ?_) (fun c4 => ?_)
      · have h := h.1 c4
        exact blX1_clerksFelled_23 hn C hk_4 h wd (lv_sub hl [0, 1, 2] rfl)
      · have h := h.2 c4
        obtain ⟨y5, ey5⟩ : ∃ y : Int32, y = x1 + (1 : Int32) := ⟨_, rfl⟩
        refine lv_iinc (v := y5) (lv' := [(1, .int y5), (0, .ref (ad 4)), (2, .int x2)]) hx hb dX1_clerksFelled_20 hl (k := 1) rfl (by rw [ey5]; rfl) (by decide) rfl (fun ls hl => ?_)
        have h := h y5 ey5
        exact blX1_clerksFelled_23 hn C hk_4 h wd (lv_sub hl [1, 0, 2] rfl)
def wpX1_clerksFelled (σ : St) (Φ : Int32 → St → Prop) : Prop :=
  (∃ N, wlX1_clerksFelled_4 Φ N (0 : Int32) (0 : Int32) σ)
set_option maxHeartbeats 4000000 in
set_option maxRecDepth 100000 in
theorem cmX1_clerksFelled {D : va_G} {cyI cyO : ClassId} {ad : Nat → Nat} {n : Nat} {l : Launch} (hn : 52 ≤ n) {σ : St} {sz : Nat} {Φ : Int32 → St → Prop} (h : wpX1_clerksFelled σ Φ) : gMet D (tyL cyI cyO) (cCell ad cyI cyO) ad n l yX1_clerksFelled cX1_clerksFelled 3 (some .int) rmX1_clerksFelled [.ref (ad 4)] σ sz (gQi D (cCell ad cyI cyO) ad n sz Φ) := by
  refine gMet.of (by decide) (Nat.le_of_ble_eq_true rfl) ?_
  intro p e s m below meth c ls hsz C hl wd
  subst hsz
  have C : Cx p s m _ meth c cX1_clerksFelled 3 (some .int) RX1 := C
  obtain ⟨hx, hb, hr, hml, hown, hts, hlk⟩ := id C
  have hl : lv_has ls 3 [(0, .ref (ad 4))] := hl
  unfold wpX1_clerksFelled at h
  refine lv_iconst (v := (0 : Int32)) hx hb dX1_clerksFelled_0 (by decide) ?_
  refine lv_istore_n (lv' := [(1, .int (0 : Int32)), (0, .ref (ad 4))]) hx hb dX1_clerksFelled_1 rfl hl (by decide) rfl (fun ls hl => ?_)
  refine lv_iconst (v := (0 : Int32)) hx hb dX1_clerksFelled_2 (by decide) ?_
  refine lv_istore_n (lv' := [(2, .int (0 : Int32)), (1, .int (0 : Int32)), (0, .ref (ad 4))]) hx hb dX1_clerksFelled_3 rfl hl (by decide) rfl (fun ls hl => ?_)
  obtain ⟨N, h⟩ := h
  exact llX1_clerksFelled_4 hn C N _ _ _ _ _ _ h wd (lv_sub hl [2, 1, 0] rfl)
abbrev rmX6_begin : Room := rmOf 0 0
def wpX6_begin (σ : St) (Φ : St → Prop) : Prop :=
  (∀ t1 : St, t1 = setI σ 96 (0 : Int32) → (∀ t2 : St, t2 = setI t1 97 (0 : Int32) → Φ t2))
set_option maxHeartbeats 4000000 in
set_option maxRecDepth 100000 in
theorem cmX6_begin {D : va_G} {cyI cyO : ClassId} {ad : Nat → Nat} {n : Nat} {l : Launch} (hn : 52 ≤ n) {σ : St} {sz : Nat} {Φ : St → Prop} (h : wpX6_begin σ Φ) : gMet D (tyL cyI cyO) (cCell ad cyI cyO) ad n l yX6_begin cX6_begin 1 none rmX6_begin [.ref (ad 3)] σ sz (gQv D (cCell ad cyI cyO) ad n sz Φ) := by
  refine gMet.of (by decide) (Nat.le_of_ble_eq_true rfl) ?_
  intro p e s m below meth c ls hsz C hl wd
  subst hsz
  have C : Cx p s m _ meth c cX6_begin 1 none RX6 := C
  obtain ⟨hx, hb, hr, hml, hown, hts, hlk⟩ := id C
  have hl : lv_has ls 1 [(0, .ref (ad 3))] := hl
  unfold wpX6_begin at h
  refine lv_aload_n hx hb dX6_begin_0 rfl (lv_at hl 0 rfl) ?_
  refine lv_iconst (v := (0 : Int32)) hx hb dX6_begin_1 (by decide) ?_
  refine putF C wd (k := 3) (Cn := RX6) (T := TX6) (N := 6) (σ' := setI σ 96 (0 : Int32)) (by omega) cc_X6 rfl tyX6_ok nmX6 0 (by decide) rfl (by decide +kernel) (Nat.le_of_ble_eq_true rfl) inX6 tw1_82 cs_X6_count dX6_begin_2 (fun H locs wd => ?_)
  obtain ⟨t1, et1⟩ : ∃ z : St, z = setI σ 96 (0 : Int32) := ⟨_, rfl⟩
  rw [← et1] at wd
  have h := h t1 et1
  refine lv_aload_n hx hb dX6_begin_5 rfl (lv_at hl 0 rfl) ?_
  refine lv_iconst (v := (0 : Int32)) hx hb dX6_begin_6 (by decide) ?_
  refine putF C wd (k := 3) (Cn := RX6) (T := TX6) (N := 6) (σ' := setI t1 97 (0 : Int32)) (by omega) cc_X6 rfl tyX6_ok nmX6 1 (by decide) rfl (by decide +kernel) (Nat.le_of_ble_eq_true rfl) inX6 tw1_85 cs_X6_releasedCount dX6_begin_7 (fun H locs wd => ?_)
  obtain ⟨t2, et2⟩ : ∃ z : St, z = setI t1 97 (0 : Int32) := ⟨_, rfl⟩
  rw [← et2] at wd
  have h := h t2 et2
  exact retV C wd h dX6_begin_10
abbrev rmX2_begin : Room := rmOf 3 67
def wlX2_begin_27_body (Φ : St → Prop) (k_27 : Int32 → St → Prop) (x2 : Int32) (σ : St) : Prop :=
  (((Int32.ofNat 5) ≤ x2 → Φ σ) ∧ (¬ (Int32.ofNat 5) ≤ x2 → (vp_in x2 5 ∧ wpX0_begin (5 + x2.toNatClampNeg) σ (fun t3 => (∀ y4 : Int32, y4 = x2 + (1 : Int32) → k_27 y4 t3)))))
def wlX2_begin_27 (Φ : St → Prop) : Nat → Int32 → St → Prop
  | 0 => fun _ _ => False
  | N + 1 => fun x2 σ => wlX2_begin_27_body Φ (wlX2_begin_27 Φ N) x2 σ
set_option maxHeartbeats 4000000 in
set_option maxRecDepth 100000 in
theorem llX2_begin_27 {p : Program} {l : Launch} {e : Env} {s : State} {m : MethodId} {args : Array Value} {below : List Frame} {meth : Method} {c : Code} (hn : 52 ≤ n) (C : Cx p s m args meth c cX2_begin 3 none RX2) {Φ : St → Prop} : ∀ (N : Nat) (x2 : Int32) (σ : St) (H : Heap) (locs : List Loc) (ls : Array Slot), wlX2_begin_27 Φ N x2 σ → gWd D (tyL cyI cyO) (cCell ad cyI cyO) ad n s H locs σ → lv_has ls 3 [(0, .ref (ad 0)), (2, .int x2)] → W p l e rmX2_begin s m args below meth c H locs 0 0 (MQ below (gQv D (cCell ad cyI cyO) ad n s.heap.size Φ) args s 0 0 (gA ad n s.heap.size)) (F0 m 27 ls []) := by
  obtain ⟨hx, hb, hr, hml, hown, hts, hlk⟩ := id C
  intro N
  induction N with
  | zero =>
    intro x2 σ H locs ls h
    exact False.elim h
  | succ N ih =>
    intro x2 σ H locs ls h wd hl
    have h : wlX2_begin_27_body Φ (wlX2_begin_27 Φ N) x2 σ := h
    have hk_27 := ih
    unfold wlX2_begin_27_body at h
    refine lv_iload_n hx hb dX2_begin_27 rfl (lv_at hl 1 rfl) ?_
    refine lv_aload_n hx hb dX2_begin_28 rfl (lv_at hl 0 rfl) ?_
    refine getF C wd (k := 0) (Cn := RX2) (T := TX2) (N := 6) (v := .ref (ad 1)) (by omega) cc_X2 rfl 2 (by decide) rfl inX2 tw1_200 dX2_begin_29 ?_
    refine alenQ C wd (k := 1) (by omega) cc_Q dX2_begin_32 ?_
    refine lv_icmp_ge (tgt := 51) hx hb dX2_begin_33 (by decide) (fun c1 => ?_) (fun c1 => ?_)
    · have h := h.1 c1
      exact retV C wd h dX2_begin_51
    · have h := h.2 c1
      refine lv_aload_n hx hb dX2_begin_36 rfl (lv_at hl 0 rfl) ?_
      refine getF C wd (k := 0) (Cn := RX2) (T := TX2) (N := 6) (v := .ref (ad 1)) (by omega) cc_X2 rfl 2 (by decide) rfl inX2 tw1_200 dX2_begin_37 ?_
      refine lv_iload_n hx hb dX2_begin_40 rfl (lv_at hl 1 rfl) ?_
      obtain ⟨hi2, h⟩ := h
      have hi2b : x2.toNatClampNeg < 5 := Nat.not_le.mp fun q => hi2 (Or.inr q)
      refine ldQ C wd (k := 1) (by omega) cc_Q hi2 dX2_begin_41 ?_
      refine gCv wd (gRunV (y := yX0_begin) (k := (5 + x2.toNatClampNeg)) (As := []) (rest := []) C wd (cmX0_begin (by omega) (by omega) (by omega) h) ⟨rfl, rfl⟩ gd_X2_56 nk_X0_begin ⟨Nat.le_of_ble_eq_true rfl, Nat.le_of_ble_eq_true rfl⟩ (by omega) (cc_X0 (k := (5 + x2.toNatClampNeg)) (by omega) (by omega)) rfl rfl hl.1 (Nat.le_of_ble_eq_true rfl) dX2_begin_42 rfl) (fun t3 H locs h wd => ?_)
      try dsimp only at h
      obtain ⟨y4, ey4⟩ : ∃ y : Int32, y = x2 + (1 : Int32) := ⟨_, rfl⟩
      refine lv_iinc (v := y4) (lv' := [(2, .int y4), (0, .ref (ad 0))]) hx hb dX2_begin_45 hl (k := 1) rfl (by rw [ey4]; rfl) (by decide) rfl (fun ls hl => ?_)
      have h := h y4 ey4
      refine lv_goto (tgt := 27) hx hb dX2_begin_48 (by decide) ?_
      exact hk_27 _ _ _ _ _ h wd (lv_sub hl [1, 0] rfl)
def wpX2_begin (x1 : Int32) (σ : St) (Φ : St → Prop) : Prop :=
  (∀ t1 : St, t1 = setI σ 0 x1 → (∀ t2 : St, t2 = setI t1 1 (0 : Int32) → (∀ t3 : St, t3 = setI t2 64 (0 : Int32) → wpX6_begin t3 (fun t4 => (∃ N, wlX2_begin_27 Φ N (0 : Int32) t4)))))
set_option maxHeartbeats 4000000 in
set_option maxRecDepth 100000 in
theorem cmX2_begin {D : va_G} {cyI cyO : ClassId} {ad : Nat → Nat} {n : Nat} {l : Launch} (hn : 52 ≤ n) {x1 : Int32} {σ : St} {sz : Nat} {Φ : St → Prop} (h : wpX2_begin x1 σ Φ) : gMet D (tyL cyI cyO) (cCell ad cyI cyO) ad n l yX2_begin cX2_begin 3 none rmX2_begin [.ref (ad 0), .int x1] σ sz (gQv D (cCell ad cyI cyO) ad n sz Φ) := by
  refine gMet.of (by decide) (Nat.le_of_ble_eq_true rfl) ?_
  intro p e s m below meth c ls hsz C hl wd
  subst hsz
  have C : Cx p s m _ meth c cX2_begin 3 none RX2 := C
  obtain ⟨hx, hb, hr, hml, hown, hts, hlk⟩ := id C
  have hl : lv_has ls 3 [(0, .ref (ad 0)), (1, .int x1)] := hl
  unfold wpX2_begin at h
  refine lv_aload_n hx hb dX2_begin_0 rfl (lv_at hl 0 rfl) ?_
  refine lv_iload_n hx hb dX2_begin_1 rfl (lv_at hl 1 rfl) ?_
  refine putF C wd (k := 0) (Cn := RX2) (T := TX2) (N := 6) (σ' := setI σ 0 x1) (by omega) cc_X2 rfl tyX2_ok nmX2 0 (by decide) rfl (by decide +kernel) (Nat.le_of_ble_eq_true rfl) inX2 tw1_195 cs_X2_n dX2_begin_2 (fun H locs wd => ?_)
  obtain ⟨t1, et1⟩ : ∃ z : St, z = setI σ 0 x1 := ⟨_, rfl⟩
  rw [← et1] at wd
  have h := h t1 et1
  refine lv_aload_n hx hb dX2_begin_5 rfl (lv_at hl 0 rfl) ?_
  refine lv_iconst (v := (0 : Int32)) hx hb dX2_begin_6 (by decide) ?_
  refine putF C wd (k := 0) (Cn := RX2) (T := TX2) (N := 6) (σ' := setI t1 1 (0 : Int32)) (by omega) cc_X2 rfl tyX2_ok nmX2 1 (by decide) rfl (by decide +kernel) (Nat.le_of_ble_eq_true rfl) inX2 tw1_198 cs_X2_gone dX2_begin_7 (fun H locs wd => ?_)
  obtain ⟨t2, et2⟩ : ∃ z : St, z = setI t1 1 (0 : Int32) := ⟨_, rfl⟩
  rw [← et2] at wd
  have h := h t2 et2
  refine lv_aload_n hx hb dX2_begin_10 rfl (lv_at hl 0 rfl) ?_
  refine getF C wd (k := 0) (Cn := RX2) (T := TX2) (N := 6) (v := .ref (ad 2)) (by omega) cc_X2 rfl 3 (by decide) rfl inX2 tw1_201 dX2_begin_11 ?_
  refine lv_iconst (v := (0 : Int32)) hx hb dX2_begin_14 (by decide) ?_
  refine putN C wd (k := 2) (Cn := RX3) (T := TX3) (N := 5) (σ' := setI t2 64 (0 : Int32)) (by omega) cc_X3 rfl tyX3_ok nmX3 0 (by decide) rfl (by decide +kernel) (Nat.le_of_ble_eq_true rfl) inX3 ns_1 cs_X3_count dX2_begin_15 (fun H locs wd => ?_)
  obtain ⟨t3, et3⟩ : ∃ z : St, z = setI t2 64 (0 : Int32) := ⟨_, rfl⟩
  rw [← et3] at wd
  have h := h t3 et3
  refine lv_aload_n hx hb dX2_begin_18 rfl (lv_at hl 0 rfl) ?_
  refine getF C wd (k := 0) (Cn := RX2) (T := TX2) (N := 6) (v := .ref (ad 3)) (by omega) cc_X2 rfl 4 (by decide) rfl inX2 tw1_203 dX2_begin_19 ?_
  refine gCv wd (gRunV (y := yX6_begin) (k := 3) (As := []) (rest := []) C wd (cmX6_begin (by omega) h) ⟨rfl, rfl⟩ gd_X2_54 nk_X6_begin ⟨Nat.le_of_ble_eq_true rfl, Nat.le_of_ble_eq_true rfl⟩ (by omega) cc_X6 rfl rfl hl.1 (Nat.le_of_ble_eq_true rfl) dX2_begin_22 rfl) (fun t4 H locs h wd => ?_)
  try dsimp only at h
  refine lv_iconst (v := (0 : Int32)) hx hb dX2_begin_25 (by decide) ?_
  refine lv_istore_n (lv' := [(2, .int (0 : Int32)), (0, .ref (ad 0)), (1, .int x1)]) hx hb dX2_begin_26 rfl hl (by decide) rfl (fun ls hl => ?_)
  obtain ⟨N, h⟩ := h
  exact llX2_begin_27 hn C N _ _ _ _ _ h wd (lv_sub hl [1, 0] rfl)
abbrev rmX2_hasClerk : Room := rmOf 0 0
def wpX2_hasClerk (x1 : Int32) (σ : St) (Φ : Int32 → St → Prop) : Prop :=
  ((x1 < 0 → Φ (0 : Int32) σ) ∧ (¬ x1 < 0 → (((σ.1 0) ≤ x1 → Φ (0 : Int32) σ) ∧ (¬ (σ.1 0) ≤ x1 → Φ (1 : Int32) σ))))
set_option maxHeartbeats 4000000 in
set_option maxRecDepth 100000 in
theorem cmX2_hasClerk {D : va_G} {cyI cyO : ClassId} {ad : Nat → Nat} {n : Nat} {l : Launch} (hn : 52 ≤ n) {x1 : Int32} {σ : St} {sz : Nat} {Φ : Int32 → St → Prop} (h : wpX2_hasClerk x1 σ Φ) : gMet D (tyL cyI cyO) (cCell ad cyI cyO) ad n l yX2_hasClerk cX2_hasClerk 2 (some .boolean) rmX2_hasClerk [.ref (ad 0), .int x1] σ sz (gQi D (cCell ad cyI cyO) ad n sz Φ) := by
  refine gMet.of (by decide) (Nat.le_of_ble_eq_true rfl) ?_
  intro p e s m below meth c ls hsz C hl wd
  subst hsz
  have C : Cx p s m _ meth c cX2_hasClerk 2 (some .boolean) RX2 := C
  obtain ⟨hx, hb, hr, hml, hown, hts, hlk⟩ := id C
  have hl : lv_has ls 2 [(0, .ref (ad 0)), (1, .int x1)] := hl
  unfold wpX2_hasClerk at h
  refine lv_iload_n hx hb dX2_hasClerk_0 rfl (lv_at hl 1 rfl) ?_
  refine lv_if_lt (tgt := 16) hx hb dX2_hasClerk_1 (by decide) (fun c1 => ?_) (fun c1 => ?_)
  · have h := h.1 c1
    refine lv_iconst (v := (0 : Int32)) hx hb dX2_hasClerk_16 (by decide) ?_
    exact retZ C wd rfl h dX2_hasClerk_17
  · have h := h.2 c1
    refine lv_iload_n hx hb dX2_hasClerk_4 rfl (lv_at hl 1 rfl) ?_
    refine lv_aload_n hx hb dX2_hasClerk_5 rfl (lv_at hl 0 rfl) ?_
    refine getF C wd (k := 0) (Cn := RX2) (T := TX2) (N := 6) (v := .int (σ.1 0)) (by omega) cc_X2 rfl 0 (by decide) rfl inX2 tw1_195 dX2_hasClerk_6 ?_
    refine lv_icmp_ge (tgt := 16) hx hb dX2_hasClerk_9 (by decide) (fun c2 => ?_) (fun c2 => ?_)
    · have h := h.1 c2
      refine lv_iconst (v := (0 : Int32)) hx hb dX2_hasClerk_16 (by decide) ?_
      exact retZ C wd rfl h dX2_hasClerk_17
    · have h := h.2 c2
      refine lv_iconst (v := (1 : Int32)) hx hb dX2_hasClerk_12 (by decide) ?_
      refine lv_goto (tgt := 17) hx hb dX2_hasClerk_13 (by decide) ?_
      exact retZ C wd rfl h dX2_hasClerk_17
abbrev rmX2_addWork : Room := rmOf 4 94
def wpX2_addWork (x1 : Int32) (x2 : Int32) (σ : St) (Φ : Int32 → St → Prop) : Prop :=
  wpX2_clerk x1 σ (fun r2 t1 => wpX0_isFull r2 t1 (fun r4 t3 => ((r4 = 0 → wpX2_clerk x1 t3 (fun r7 t6 => wpX0_addPage r7 x2 t6 (fun r9 t8 => Φ r9 t8))) ∧ (¬ r4 = 0 → Φ (-4 : Int32) t3))))
set_option maxHeartbeats 4000000 in
set_option maxRecDepth 100000 in
theorem cmX2_addWork {D : va_G} {cyI cyO : ClassId} {ad : Nat → Nat} {n : Nat} {l : Launch} (hn : 52 ≤ n) {x1 : Int32} {x2 : Int32} {σ : St} {sz : Nat} {Φ : Int32 → St → Prop} (h : wpX2_addWork x1 x2 σ Φ) : gMet D (tyL cyI cyO) (cCell ad cyI cyO) ad n l yX2_addWork cX2_addWork 3 (some .int) rmX2_addWork [.ref (ad 0), .int x1, .int x2] σ sz (gQi D (cCell ad cyI cyO) ad n sz Φ) := by
  refine gMet.of (by decide) (Nat.le_of_ble_eq_true rfl) ?_
  intro p e s m below meth c ls hsz C hl wd
  subst hsz
  have C : Cx p s m _ meth c cX2_addWork 3 (some .int) RX2 := C
  obtain ⟨hx, hb, hr, hml, hown, hts, hlk⟩ := id C
  have hl : lv_has ls 3 [(0, .ref (ad 0)), (1, .int x1), (2, .int x2)] := hl
  unfold wpX2_addWork at h
  refine lv_aload_n hx hb dX2_addWork_0 rfl (lv_at hl 0 rfl) ?_
  refine lv_iload_n hx hb dX2_addWork_1 rfl (lv_at hl 1 rfl) ?_
  refine gCr wd (gRunV (y := yX2_clerk) (k := 0) (As := [.int x1]) (rest := []) C wd (cmX2_clerk (by omega) h) ⟨rfl, rfl⟩ gd_X2_57 nk_X2_clerk ⟨Nat.le_of_ble_eq_true rfl, Nat.le_of_ble_eq_true rfl⟩ (by omega) cc_X2 rfl rfl hl.1 (Nat.le_of_ble_eq_true rfl) dX2_addWork_2 rfl) (fun r2 t1 H locs hr2a hr2b h wd => ?_)
  try dsimp only at h
  refine gCi wd (gRunV (y := yX0_isFull) (k := r2) (As := []) (rest := []) C wd (cmX0_isFull (by omega) (by omega) (by omega) h) ⟨rfl, rfl⟩ gd_X2_61 nk_X0_isFull ⟨Nat.le_of_ble_eq_true rfl, Nat.le_of_ble_eq_true rfl⟩ (by omega) (cc_X0 (k := r2) (by omega) (by omega)) rfl rfl hl.1 (Nat.le_of_ble_eq_true rfl) dX2_addWork_5 rfl) (fun r4 t3 H locs h wd => ?_)
  try dsimp only at h
  refine lv_if_eq (tgt := 16) hx hb dX2_addWork_8 (by decide) (fun c5 => ?_) (fun c5 => ?_)
  · have h := h.1 c5
    refine lv_aload_n hx hb dX2_addWork_16 rfl (lv_at hl 0 rfl) ?_
    refine lv_iload_n hx hb dX2_addWork_17 rfl (lv_at hl 1 rfl) ?_
    refine gCr wd (gRunV (y := yX2_clerk) (k := 0) (As := [.int x1]) (rest := []) C wd (cmX2_clerk (by omega) h) ⟨rfl, rfl⟩ gd_X2_57 nk_X2_clerk ⟨Nat.le_of_ble_eq_true rfl, Nat.le_of_ble_eq_true rfl⟩ (by omega) cc_X2 rfl rfl hl.1 (Nat.le_of_ble_eq_true rfl) dX2_addWork_18 rfl) (fun r7 t6 H locs hr7a hr7b h wd => ?_)
    try dsimp only at h
    refine lv_iload_n hx hb dX2_addWork_21 rfl (lv_at hl 2 rfl) ?_
    refine gCi wd (gRunV (y := yX0_addPage) (k := r7) (As := [.int x2]) (rest := []) C wd (cmX0_addPage (by omega) (by omega) (by omega) h) ⟨rfl, rfl⟩ gd_X2_65 nk_X0_addPage ⟨Nat.le_of_ble_eq_true rfl, Nat.le_of_ble_eq_true rfl⟩ (by omega) (cc_X0 (k := r7) (by omega) (by omega)) rfl rfl hl.1 (Nat.le_of_ble_eq_true rfl) dX2_addWork_22 rfl) (fun r9 t8 H locs h wd => ?_)
    try dsimp only at h
    exact retI C wd h dX2_addWork_25
  · have h := h.2 c5
    refine lv_bipush (v := (-4 : Int32)) hx hb dX2_addWork_11 (by decide) ?_
    refine lv_goto (tgt := 25) hx hb dX2_addWork_13 (by decide) ?_
    exact retI C wd h dX2_addWork_25
abbrev rmX3_add : Room := rmOf 3 70
def wpX3_add (k : Nat) (x2 : Int32) (σ : St) (Φ : St → Prop) : Prop :=
  wpX9_put 43 (σ.1 64) (nI (k - 5)) σ (fun t1 => wpX9_put 44 (t1.1 64) x2 t1 (fun t2 => wpX0_sumNow k t2 (fun r4 t3 => wpX9_put 45 (t2.1 64) r4 t3 (fun t5 => wpX5_copyRow 15 (k + 5) (t5.1 (32 * k + 2)) (t5.1 64) t5 (fun t6 => (∀ t7 : St, t7 = setI t6 64 ((t6.1 64) + (1 : Int32)) → Φ t7))))))
set_option maxHeartbeats 4000000 in
set_option maxRecDepth 100000 in
theorem cmX3_add {D : va_G} {cyI cyO : ClassId} {ad : Nat → Nat} {n : Nat} {l : Launch} {k : Nat} (hn : 52 ≤ n) (hf0 : 5 ≤ k) (hf1 : k < 10) {x2 : Int32} {σ : St} {sz : Nat} {Φ : St → Prop} (h : wpX3_add k x2 σ Φ) : gMet D (tyL cyI cyO) (cCell ad cyI cyO) ad n l yX3_add cX3_add 3 none rmX3_add [.ref (ad 2), .ref (ad k), .int x2] σ sz (gQv D (cCell ad cyI cyO) ad n sz Φ) := by
  refine gMet.of (by decide) (Nat.le_of_ble_eq_true rfl) ?_
  intro p e s m below meth c ls hsz C hl wd
  subst hsz
  have C : Cx p s m _ meth c cX3_add 3 none RX3 := C
  obtain ⟨hx, hb, hr, hml, hown, hts, hlk⟩ := id C
  have hl : lv_has ls 3 [(0, .ref (ad 2)), (1, .ref (ad k)), (2, .int x2)] := hl
  unfold wpX3_add at h
  refine lv_aload_n hx hb dX3_add_0 rfl (lv_at hl 0 rfl) ?_
  refine getF C wd (k := 2) (Cn := RX3) (T := TX3) (N := 5) (v := .ref (ad 43)) (by omega) cc_X3 rfl 1 (by decide) rfl inX3 tw1_58 dX3_add_1 ?_
  refine lv_aload_n hx hb dX3_add_4 rfl (lv_at hl 0 rfl) ?_
  refine getF C wd (k := 2) (Cn := RX3) (T := TX3) (N := 5) (v := .int (σ.1 64)) (by omega) cc_X3 rfl 0 (by decide) rfl inX3 tw1_55 dX3_add_5 ?_
  refine lv_aload_n hx hb dX3_add_8 rfl (lv_at hl 1 rfl) ?_
  refine getN C wd (k := k) (Cn := RX0) (T := TX0) (N := 9) (v := .int (nI (k - 5))) (by omega) (cc_X0 (k := k) (by omega) (by omega)) rfl 0 (by decide) rfl inX0 ns_14 dX3_add_9 ?_
  refine gCv wd (gRunSN (y := yX9_put) (As := [.ref (ad 43), .int (σ.1 64), .int (nI (k - 5))]) (rest := []) C wd (cmX9_put (by omega) (by omega) (by omega) h) ⟨rfl, rfl⟩ gc_X9_put ns_50 tw1_1 tw1_188 nk_X9_put ⟨Nat.le_of_ble_eq_true rfl, Nat.le_of_ble_eq_true rfl⟩ hl.1 (Nat.le_of_ble_eq_true rfl) dX3_add_12 rfl) (fun t1 H locs h wd => ?_)
  try dsimp only at h
  refine lv_aload_n hx hb dX3_add_15 rfl (lv_at hl 0 rfl) ?_
  refine getF C wd (k := 2) (Cn := RX3) (T := TX3) (N := 5) (v := .ref (ad 44)) (by omega) cc_X3 rfl 2 (by decide) rfl inX3 tw1_60 dX3_add_16 ?_
  refine lv_aload_n hx hb dX3_add_19 rfl (lv_at hl 0 rfl) ?_
  refine getF C wd (k := 2) (Cn := RX3) (T := TX3) (N := 5) (v := .int (t1.1 64)) (by omega) cc_X3 rfl 0 (by decide) rfl inX3 tw1_55 dX3_add_20 ?_
  refine lv_iload_n hx hb dX3_add_23 rfl (lv_at hl 2 rfl) ?_
  refine gCv wd (gRunSN (y := yX9_put) (As := [.ref (ad 44), .int (t1.1 64), .int x2]) (rest := []) C wd (cmX9_put (by omega) (by omega) (by omega) h) ⟨rfl, rfl⟩ gc_X9_put ns_50 tw1_1 tw1_188 nk_X9_put ⟨Nat.le_of_ble_eq_true rfl, Nat.le_of_ble_eq_true rfl⟩ hl.1 (Nat.le_of_ble_eq_true rfl) dX3_add_24 rfl) (fun t2 H locs h wd => ?_)
  try dsimp only at h
  refine lv_aload_n hx hb dX3_add_27 rfl (lv_at hl 0 rfl) ?_
  refine getF C wd (k := 2) (Cn := RX3) (T := TX3) (N := 5) (v := .ref (ad 45)) (by omega) cc_X3 rfl 3 (by decide) rfl inX3 tw1_61 dX3_add_28 ?_
  refine lv_aload_n hx hb dX3_add_31 rfl (lv_at hl 0 rfl) ?_
  refine getF C wd (k := 2) (Cn := RX3) (T := TX3) (N := 5) (v := .int (t2.1 64)) (by omega) cc_X3 rfl 0 (by decide) rfl inX3 tw1_55 dX3_add_32 ?_
  refine lv_aload_n hx hb dX3_add_35 rfl (lv_at hl 1 rfl) ?_
  refine gCi wd (gRunV (y := yX0_sumNow) (k := k) (As := []) (rest := [.int (t2.1 64), .ref (ad 45)]) C wd (cmX0_sumNow (by omega) (by omega) (by omega) h) ⟨rfl, rfl⟩ gd_X3_43 nk_X0_sumNow ⟨Nat.le_of_ble_eq_true rfl, Nat.le_of_ble_eq_true rfl⟩ (by omega) (cc_X0 (k := k) (by omega) (by omega)) rfl rfl hl.1 (Nat.le_of_ble_eq_true rfl) dX3_add_36 rfl) (fun r4 t3 H locs h wd => ?_)
  try dsimp only at h
  refine gCv wd (gRunSN (y := yX9_put) (As := [.ref (ad 45), .int (t2.1 64), .int r4]) (rest := []) C wd (cmX9_put (by omega) (by omega) (by omega) h) ⟨rfl, rfl⟩ gc_X9_put ns_50 tw1_1 tw1_188 nk_X9_put ⟨Nat.le_of_ble_eq_true rfl, Nat.le_of_ble_eq_true rfl⟩ hl.1 (Nat.le_of_ble_eq_true rfl) dX3_add_39 rfl) (fun t5 H locs h wd => ?_)
  try dsimp only at h
  refine lv_aload_n hx hb dX3_add_42 rfl (lv_at hl 0 rfl) ?_
  refine getF C wd (k := 2) (Cn := RX3) (T := TX3) (N := 5) (v := .ref (ad 15)) (by omega) cc_X3 rfl 4 (by decide) rfl inX3 tw1_63 dX3_add_43 ?_
  refine lv_aload_n hx hb dX3_add_46 rfl (lv_at hl 1 rfl) ?_
  refine getN C wd (k := k) (Cn := RX0) (T := TX0) (N := 9) (v := .ref (ad (k + 5))) (by omega) (cc_X0 (k := k) (by omega) (by omega)) rfl 7 (by decide) rfl inX0 ns_25 dX3_add_47 ?_
  refine lv_aload_n hx hb dX3_add_50 rfl (lv_at hl 1 rfl) ?_
  refine getN C wd (k := k) (Cn := RX0) (T := TX0) (N := 9) (v := .int (t5.1 (32 * k + 2))) (by omega) (cc_X0 (k := k) (by omega) (by omega)) rfl 2 (by decide) rfl inX0 ns_17 dX3_add_51 ?_
  refine lv_aload_n hx hb dX3_add_54 rfl (lv_at hl 0 rfl) ?_
  refine getF C wd (k := 2) (Cn := RX3) (T := TX3) (N := 5) (v := .int (t5.1 64)) (by omega) cc_X3 rfl 0 (by decide) rfl inX3 tw1_55 dX3_add_55 ?_
  refine gCv wd (gRunV (y := yX5_copyRow) (k := 15) (As := [.ref (ad (k + 5)), .int (t5.1 (32 * k + 2)), .int (t5.1 64)]) (rest := []) C wd (cmX5_copyRow (by omega) (by omega) (by omega) (by omega) (by omega) h) ⟨rfl, rfl⟩ gd_X3_51 nk_X5_copyRow ⟨Nat.le_of_ble_eq_true rfl, Nat.le_of_ble_eq_true rfl⟩ (by omega) (cc_X5 (k := 15) (by omega) (by omega)) rfl rfl hl.1 (Nat.le_of_ble_eq_true rfl) dX3_add_58 rfl) (fun t6 H locs h wd => ?_)
  try dsimp only at h
  refine lv_aload_n hx hb dX3_add_61 rfl (lv_at hl 0 rfl) ?_
  refine lv_dup hx hb dX3_add_62 rfl ?_
  refine getF C wd (k := 2) (Cn := RX3) (T := TX3) (N := 5) (v := .int (t6.1 64)) (by omega) cc_X3 rfl 0 (by decide) rfl inX3 tw1_55 dX3_add_63 ?_
  refine lv_iconst (v := (1 : Int32)) hx hb dX3_add_66 (by decide) ?_
  refine lv_iadd hx hb dX3_add_67 ?_
  refine putF C wd (k := 2) (Cn := RX3) (T := TX3) (N := 5) (σ' := setI t6 64 ((t6.1 64) + (1 : Int32))) (by omega) cc_X3 rfl tyX3_ok nmX3 0 (by decide) rfl (by decide +kernel) (Nat.le_of_ble_eq_true rfl) inX3 tw1_55 cs_X3_count dX3_add_68 (fun H locs wd => ?_)
  obtain ⟨t7, et7⟩ : ∃ z : St, z = setI t6 64 ((t6.1 64) + (1 : Int32)) := ⟨_, rfl⟩
  rw [← et7] at wd
  have h := h t7 et7
  exact retV C wd h dX3_add_71
end
