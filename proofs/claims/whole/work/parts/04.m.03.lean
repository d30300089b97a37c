section
variable {D : va_G} {cyI cyO : ClassId} {ad : Nat → Nat} {n : Nat}
abbrev rmX10_loses : Room := rmOf 6 137
def wpX10_loses (x1 : Int32) (σ : St) (Φ : Int32 → St → Prop) : Prop :=
  wpX10_isClerk x1 σ (fun r2 t1 => ((r2 = 0 → wpX10_bad t1 (fun r5 t4 => Φ r5 t4)) ∧ (¬ r2 = 0 → wpX10_losesNow x1 t1 (fun r7 t6 => wpX10_tells r7 t6 (fun r9 t8 => Φ r9 t8)))))
set_option maxHeartbeats 4000000 in
set_option maxRecDepth 100000 in
theorem cmX10_loses {D : va_G} {cyI cyO : ClassId} {ad : Nat → Nat} {l : Launch} {x1 : Int32} {σ : St} {sz : Nat} {Φ : Int32 → St → Prop} (h : wpX10_loses x1 σ Φ) : gMet D (tyL cyI cyO) (mCell ad cyI cyO) ad 16 l yX10_loses cX10_loses 2 (some .int) rmX10_loses [.ref (ad 0), .int x1] σ sz (gQi D (mCell ad cyI cyO) ad 16 sz Φ) := by
  refine gMet.of (by decide) (Nat.le_of_ble_eq_true rfl) ?_
  intro p e s m below meth c ls hsz C hl wd
  subst hsz
  have C : Cx p s m _ meth c cX10_loses 2 (some .int) RX10 := C
  obtain ⟨hx, hb, hr, hml, hown, hts, hlk⟩ := id C
  have hl : lv_has ls 2 [(0, .ref (ad 0)), (1, .int x1)] := hl
  unfold wpX10_loses at h
  refine lv_aload_n hx hb dX10_loses_0 rfl (lv_at hl 0 rfl) ?_
  refine lv_iload_n hx hb dX10_loses_1 rfl (lv_at hl 1 rfl) ?_
  refine gCi wd (gRunV (y := yX10_isClerk) (k := 0) (As := [.int x1]) (rest := []) C wd (cmX10_isClerk h) ⟨rfl, rfl⟩ gd_X10_98 nk_X10_isClerk ⟨Nat.le_of_ble_eq_true rfl, Nat.le_of_ble_eq_true rfl⟩ (by decide) mc_X10 rfl rfl hl.1 (Nat.le_of_ble_eq_true rfl) dX10_loses_2 rfl) (fun r2 t1 H locs h wd => ?_)
  try dsimp only at h
  refine lv_if_eq (tgt := 20) hx hb dX10_loses_5 (by decide) (fun c3 => ?_) (fun c3 => ?_)
  · have h := h.1 c3
    refine lv_aload_n hx hb dX10_loses_20 rfl (lv_at hl 0 rfl) ?_
    refine gCi wd (gRunV (y := yX10_bad) (k := 0) (As := []) (rest := []) C wd (cmX10_bad h) ⟨rfl, rfl⟩ gd_X10_87 nk_X10_bad ⟨Nat.le_of_ble_eq_true rfl, Nat.le_of_ble_eq_true rfl⟩ (by decide) mc_X10 rfl rfl hl.1 (Nat.le_of_ble_eq_true rfl) dX10_loses_21 rfl) (fun r5 t4 H locs h wd => ?_)
    try dsimp only at h
    exact retI C wd h dX10_loses_24
  · have h := h.2 c3
    refine lv_aload_n hx hb dX10_loses_8 rfl (lv_at hl 0 rfl) ?_
    refine lv_aload_n hx hb dX10_loses_9 rfl (lv_at hl 0 rfl) ?_
    refine lv_iload_n hx hb dX10_loses_10 rfl (lv_at hl 1 rfl) ?_
    refine gCi wd (gRunV (y := yX10_losesNow) (k := 0) (As := [.int x1]) (rest := [.ref (ad 0)]) C wd (cmX10_losesNow h) ⟨rfl, rfl⟩ gd_X10_153 nk_X10_losesNow ⟨Nat.le_of_ble_eq_true rfl, Nat.le_of_ble_eq_true rfl⟩ (by decide) mc_X10 rfl rfl hl.1 (Nat.le_of_ble_eq_true rfl) dX10_loses_11 rfl) (fun r7 t6 H locs h wd => ?_)
    try dsimp only at h
    refine gCi wd (gRunV (y := yX10_tells) (k := 0) (As := [.int r7]) (rest := []) C wd (cmX10_tells h) ⟨rfl, rfl⟩ gd_X10_107 nk_X10_tells ⟨Nat.le_of_ble_eq_true rfl, Nat.le_of_ble_eq_true rfl⟩ (by decide) mc_X10 rfl rfl hl.1 (Nat.le_of_ble_eq_true rfl) dX10_loses_14 rfl) (fun r9 t8 H locs h wd => ?_)
    try dsimp only at h
    refine lv_goto (tgt := 24) hx hb dX10_loses_17 (by decide) ?_
    exact retI C wd h dX10_loses_24
abbrev rmX10_tries : Room := rmOf 5 113
def wbX10_tries_177 (Φ : Int32 → St → Prop) (k_144 : Int32 → Int32 → St → Prop) (x2 : Int32) (x3 : Int32) (z1 : Int32) (z2 : Int32) (σ : St) : Prop :=
  (∀ t1 : St, t1 = setI σ 19 (z1 + z2) → (vp_in x3 15 ∧ (vp_in x3 5 ∧ ∀ t4 : St, t4 = wr t1 1 x3 (rd t1 14 x3) → (vp_in ((5 : Int32) + x3) 15 ∧ (vp_in x3 5 ∧ ∀ t7 : St, t7 = wr t4 2 x3 (rd t4 14 ((5 : Int32) + x3)) → (vp_in ((10 : Int32) + x3) 15 ∧ (vp_in x3 5 ∧ ∀ t10 : St, t10 = wr t7 3 x3 (rd t7 14 ((10 : Int32) + x3)) → (∀ y11 : Int32, y11 = x3 + (1 : Int32) → k_144 x2 y11 t10))))))))
set_option maxHeartbeats 4000000 in
set_option maxRecDepth 100000 in
theorem blX10_tries_177 {p : Program} {l : Launch} {e : Env} {s : State} {m : MethodId} {args : Array Value} {below : List Frame} {meth : Method} {c : Code} (C : Cx p s m args meth c cX10_tries 4 (some .int) RX10) {Φ : Int32 → St → Prop} {k_144 : Int32 → Int32 → St → Prop} (hk_144 : ∀ (x2 : Int32) (x3 : Int32) (σ : St) (H : Heap) (locs : List Loc) (ls : Array Slot), k_144 x2 x3 σ → gWd D (tyL cyI cyO) (mCell ad cyI cyO) ad 16 s H locs σ → lv_has ls 4 [(0, .ref (ad 0)), (2, .int x2), (3, .int x3)] → W p l e rmX10_tries s m args below meth c H locs 0 0 (MQ below (gQi D (mCell ad cyI cyO) ad 16 s.heap.size Φ) args s 0 0 (gA ad 16 s.heap.size)) (F0 m 144 ls [])) {x2 : Int32} {x3 : Int32} {z1 : Int32} {z2 : Int32} {σ : St} {H : Heap} {locs : List Loc} {ls : Array Slot} (h : wbX10_tries_177 Φ k_144 x2 x3 z1 z2 σ) (wd : gWd D (tyL cyI cyO) (mCell ad cyI cyO) ad 16 s H locs σ) (hl : lv_has ls 4 [(0, .ref (ad 0)), (2, .int x2), (3, .int x3)]) : W p l e rmX10_tries s m args below meth c H locs 0 0 (MQ below (gQi D (mCell ad cyI cyO) ad 16 s.heap.size Φ) args s 0 0 (gA ad 16 s.heap.size)) (F0 m 177 ls [.int z2, .int z1, .ref (ad 0)]) := by
  obtain ⟨hx, hb, hr, hml, hown, hts, hlk⟩ := id C
  unfold wbX10_tries_177 at h
  refine lv_iadd hx hb dX10_tries_177 ?_
  refine putF C wd (k := 0) (Cn := RX10) (T := TX10) (N := 26) (σ' := setI σ 19 (z1 + z2)) (by decide) mc_X10 rfl tyX10_ok nmX10 19 (by decide) rfl (by decide +kernel) (Nat.le_of_ble_eq_true rfl) inX10 tw4_45 ms_X10_triedClerks dX10_tries_178 (fun H locs wd => ?_)
  obtain ⟨t1, et1⟩ : ∃ z : St, z = setI σ 19 (z1 + z2) := ⟨_, rfl⟩
  rw [← et1] at wd
  have h := h t1 et1
  refine lv_aload_n hx hb dX10_tries_181 rfl (lv_at hl 0 rfl) ?_
  refine getF C wd (k := 0) (Cn := RX10) (T := TX10) (N := 26) (v := .ref (ad 1)) (by decide) mc_X10 rfl 1 (by decide) rfl inX10 tw4_27 dX10_tries_182 ?_
  refine lv_iload_n hx hb dX10_tries_185 rfl (lv_at hl 2 rfl) ?_
  refine lv_aload_n hx hb dX10_tries_186 rfl (lv_at hl 0 rfl) ?_
  refine getF C wd (k := 0) (Cn := RX10) (T := TX10) (N := 26) (v := .ref (ad 14)) (by decide) mc_X10 rfl 18 (by decide) rfl inX10 tw4_44 dX10_tries_187 ?_
  refine lv_iload_n hx hb dX10_tries_190 rfl (lv_at hl 2 rfl) ?_
  obtain ⟨hi2, h⟩ := h
  refine ldI C wd (k := 14) (N := 15) (by decide) mc_A14 hi2 dX10_tries_191 ?_
  obtain ⟨hi3, h⟩ := h
  refine stI C wd (k := 1) (N := 5) (by decide) mc_A1 ms_A1 hi3 dX10_tries_192 (fun H locs wd => ?_)
  obtain ⟨t4, et4⟩ : ∃ z : St, z = wr t1 1 x3 (rd t1 14 x3) := ⟨_, rfl⟩
  rw [← et4] at wd
  have h := h t4 et4
  refine lv_aload_n hx hb dX10_tries_193 rfl (lv_at hl 0 rfl) ?_
  refine getF C wd (k := 0) (Cn := RX10) (T := TX10) (N := 26) (v := .ref (ad 2)) (by decide) mc_X10 rfl 2 (by decide) rfl inX10 tw4_28 dX10_tries_194 ?_
  refine lv_iload_n hx hb dX10_tries_197 rfl (lv_at hl 2 rfl) ?_
  refine lv_aload_n hx hb dX10_tries_198 rfl (lv_at hl 0 rfl) ?_
  refine getF C wd (k := 0) (Cn := RX10) (T := TX10) (N := 26) (v := .ref (ad 14)) (by decide) mc_X10 rfl 18 (by decide) rfl inX10 tw4_44 dX10_tries_199 ?_
  refine lv_iconst (v := (5 : Int32)) hx hb dX10_tries_202 (by decide) ?_
  refine lv_iload_n hx hb dX10_tries_203 rfl (lv_at hl 2 rfl) ?_
  refine lv_iadd hx hb dX10_tries_204 ?_
  obtain ⟨hi5, h⟩ := h
  refine ldI C wd (k := 14) (N := 15) (by decide) mc_A14 hi5 dX10_tries_205 ?_
  obtain ⟨hi6, h⟩ := h
  refine stI C wd (k := 2) (N := 5) (by decide) mc_A2 ms_A2 hi6 dX10_tries_206 (fun H locs wd => ?_)
  obtain ⟨t7, et7⟩ : ∃ z : St, z = wr t4 2 x3 (rd t4 14 ((5 : Int32) + x3)) := ⟨_, rfl⟩
  rw [← et7] at wd
  have h := h t7 et7
  refine lv_aload_n hx hb dX10_tries_207 rfl (lv_at hl 0 rfl) ?_
  refine getF C wd (k := 0) (Cn := RX10) (T := TX10) (N := 26) (v := .ref (ad 3)) (by decide) mc_X10 rfl 3 (by decide) rfl inX10 tw4_29 dX10_tries_208 ?_
  refine lv_iload_n hx hb dX10_tries_211 rfl (lv_at hl 2 rfl) ?_
  refine lv_aload_n hx hb dX10_tries_212 rfl (lv_at hl 0 rfl) ?_
  refine getF C wd (k := 0) (Cn := RX10) (T := TX10) (N := 26) (v := .ref (ad 14)) (by decide) mc_X10 rfl 18 (by decide) rfl inX10 tw4_44 dX10_tries_213 ?_
  refine lv_bipush (v := (10 : Int32)) hx hb dX10_tries_216 (by decide) ?_
  refine lv_iload_n hx hb dX10_tries_218 rfl (lv_at hl 2 rfl) ?_
  refine lv_iadd hx hb dX10_tries_219 ?_
  obtain ⟨hi8, h⟩ := h
  refine ldI C wd (k := 14) (N := 15) (by decide) mc_A14 hi8 dX10_tries_220 ?_
  obtain ⟨hi9, h⟩ := h
  refine stI C wd (k := 3) (N := 5) (by decide) mc_A3 ms_A3 hi9 dX10_tries_221 (fun H locs wd => ?_)
  obtain ⟨t10, et10⟩ : ∃ z : St, z = wr t7 3 x3 (rd t7 14 ((10 : Int32) + x3)) := ⟨_, rfl⟩
  rw [← et10] at wd
  have h := h t10 et10
  obtain ⟨y11, ey11⟩ : ∃ y : Int32, y = x3 + (1 : Int32) := ⟨_, rfl⟩
  refine lv_iinc (v := y11) (lv' := [(3, .int y11), (0, .ref (ad 0)), (2, .int x2)]) hx hb dX10_tries_222 hl (k := 2) rfl (by rw [ey11]; rfl) (by decide) rfl (fun ls hl => ?_)
  have h := h y11 ey11
  refine lv_goto (tgt := 144) hx hb dX10_tries_225 (by decide) ?_
  exact hk_144 _ _ _ _ _ _ h wd (lv_sub hl [1, 2, 0] rfl)
def wlX10_tries_144_body (Φ : Int32 → St → Prop) (k_144 : Int32 → Int32 → St → Prop) (x2 : Int32) (x3 : Int32) (σ : St) : Prop :=
  (((σ.1 0) ≤ x3 → Φ x2 σ) ∧ (¬ (σ.1 0) ≤ x3 → (vp_in x3 5 ∧ (vp_in x3 15 ∧ (((rd σ 1 x3) ≤ (rd σ 14 x3) → wbX10_tries_177 Φ k_144 x2 x3 (σ.1 19) (0 : Int32) σ) ∧ (¬ (rd σ 1 x3) ≤ (rd σ 14 x3) → wbX10_tries_177 Φ k_144 x2 x3 (σ.1 19) (1 : Int32) σ))))))
def wlX10_tries_144 (Φ : Int32 → St → Prop) : Nat → Int32 → Int32 → St → Prop
  | 0 => fun _ _ _ => False
  | N + 1 => fun x2 x3 σ => wlX10_tries_144_body Φ (wlX10_tries_144 Φ N) x2 x3 σ
set_option maxHeartbeats 4000000 in
set_option maxRecDepth 100000 in
theorem llX10_tries_144 {p : Program} {l : Launch} {e : Env} {s : State} {m : MethodId} {args : Array Value} {below : List Frame} {meth : Method} {c : Code} (C : Cx p s m args meth c cX10_tries 4 (some .int) RX10) {Φ : Int32 → St → Prop} : ∀ (N : Nat) (x2 : Int32) (x3 : Int32) (σ : St) (H : Heap) (locs : List Loc) (ls : Array Slot), wlX10_tries_144 Φ N x2 x3 σ → gWd D (tyL cyI cyO) (mCell ad cyI cyO) ad 16 s H locs σ → lv_has ls 4 [(0, .ref (ad 0)), (2, .int x2), (3, .int x3)] → W p l e rmX10_tries s m args below meth c H locs 0 0 (MQ below (gQi D (mCell ad cyI cyO) ad 16 s.heap.size Φ) args s 0 0 (gA ad 16 s.heap.size)) (F0 m 144 ls []) := by
  obtain ⟨hx, hb, hr, hml, hown, hts, hlk⟩ := id C
  intro N
  induction N with
  | zero =>
    intro x2 x3 σ H locs ls h
    exact False.elim h
  | succ N ih =>
    intro x2 x3 σ H locs ls h wd hl
    have h : wlX10_tries_144_body Φ (wlX10_tries_144 Φ N) x2 x3 σ := h
    have hk_144 := ih
    unfold wlX10_tries_144_body at h
    refine lv_iload_n hx hb dX10_tries_144 rfl (lv_at hl 2 rfl) ?_
    refine lv_aload_n hx hb dX10_tries_145 rfl (lv_at hl 0 rfl) ?_
    refine getF C wd (k := 0) (Cn := RX10) (T := TX10) (N := 26) (v := .int (σ.1 0)) (by decide) mc_X10 rfl 0 (by decide) rfl inX10 tw4_26 dX10_tries_146 ?_
    refine lv_icmp_ge (tgt := 228) hx hb dX10_tries_149 (by decide) (fun c1 => ?_) (fun c1 => ?_)
    · have h := h.1 c1
      refine lv_iload_n hx hb dX10_tries_228 rfl (lv_at hl 1 rfl) ?_
      exact retI C wd h dX10_tries_229
    · have h := h.2 c1
      refine lv_aload_n hx hb dX10_tries_152 rfl (lv_at hl 0 rfl) ?_
      refine lv_dup hx hb dX10_tries_153 rfl ?_
      refine getF C wd (k := 0) (Cn := RX10) (T := TX10) (N := 26) (v := .int (σ.1 19)) (by decide) mc_X10 rfl 19 (by decide) rfl inX10 tw4_45 dX10_tries_154 ?_
      refine lv_aload_n hx hb dX10_tries_157 rfl (lv_at hl 0 rfl) ?_
      refine getF C wd (k := 0) (Cn := RX10) (T := TX10) (N := 26) (v := .ref (ad 1)) (by decide) mc_X10 rfl 1 (by decide) rfl inX10 tw4_27 dX10_tries_158 ?_
      refine lv_iload_n hx hb dX10_tries_161 rfl (lv_at hl 2 rfl) ?_
      obtain ⟨hi2, h⟩ := h
      refine ldI C wd (k := 1) (N := 5) (by decide) mc_A1 hi2 dX10_tries_162 ?_
      refine lv_aload_n hx hb dX10_tries_163 rfl (lv_at hl 0 rfl) ?_
      refine getF C wd (k := 0) (Cn := RX10) (T := TX10) (N := 26) (v := .ref (ad 14)) (by decide) mc_X10 rfl 18 (by decide) rfl inX10 tw4_44 dX10_tries_164 ?_
      refine lv_iload_n hx hb dX10_tries_167 rfl (lv_at hl 2 rfl) ?_
      obtain ⟨hi3, h⟩ := h
      refine ldI C wd (k := 14) (N := 15) (by decide) mc_A14 hi3 dX10_tries_168 ?_
      refine lv_icmp_le (tgt := 176) hx hb dX10_tries_169 (by decide) (fun c4 => ?_) (fun c4 => ?_)
      · have h := h.1 c4
        refine lv_iconst (v := (0 : Int32)) hx hb dX10_tries_176 (by decide) ?_
        exact blX10_tries_177 C hk_144 h wd (lv_sub hl [0, 1, 2] rfl)
      · have h := h.2 c4
        refine lv_iconst (v := (1 : Int32)) hx hb dX10_tries_172 (by decide) ?_
        refine lv_goto (tgt := 177) hx hb dX10_tries_173 (by decide) ?_
        exact blX10_tries_177 C hk_144 h wd (lv_sub hl [0, 1, 2] rfl)
def wbX10_tries_132 (Φ : Int32 → St → Prop) (k_75 : Int32 → Int32 → St → Prop) (x2 : Int32) (x3 : Int32) (z1 : Int32) (z2 : Int32) (σ : St) : Prop :=
  (∀ t1 : St, t1 = setI σ 20 (z1 + z2) → (∀ y2 : Int32, y2 = x3 + (1 : Int32) → k_75 x2 y2 t1))
set_option maxHeartbeats 4000000 in
set_option maxRecDepth 100000 in
theorem blX10_tries_132 {p : Program} {l : Launch} {e : Env} {s : State} {m : MethodId} {args : Array Value} {below : List Frame} {meth : Method} {c : Code} (C : Cx p s m args meth c cX10_tries 4 (some .int) RX10) {Φ : Int32 → St → Prop} {k_75 : Int32 → Int32 → St → Prop} (hk_75 : ∀ (x2 : Int32) (x3 : Int32) (σ : St) (H : Heap) (locs : List Loc) (ls : Array Slot), k_75 x2 x3 σ → gWd D (tyL cyI cyO) (mCell ad cyI cyO) ad 16 s H locs σ → lv_has ls 4 [(0, .ref (ad 0)), (2, .int x2), (3, .int x3)] → W p l e rmX10_tries s m args below meth c H locs 0 0 (MQ below (gQi D (mCell ad cyI cyO) ad 16 s.heap.size Φ) args s 0 0 (gA ad 16 s.heap.size)) (F0 m 75 ls [])) {x2 : Int32} {x3 : Int32} {z1 : Int32} {z2 : Int32} {σ : St} {H : Heap} {locs : List Loc} {ls : Array Slot} (h : wbX10_tries_132 Φ k_75 x2 x3 z1 z2 σ) (wd : gWd D (tyL cyI cyO) (mCell ad cyI cyO) ad 16 s H locs σ) (hl : lv_has ls 4 [(0, .ref (ad 0)), (2, .int x2), (3, .int x3)]) : W p l e rmX10_tries s m args below meth c H locs 0 0 (MQ below (gQi D (mCell ad cyI cyO) ad 16 s.heap.size Φ) args s 0 0 (gA ad 16 s.heap.size)) (F0 m 132 ls [.int z2, .int z1, .ref (ad 0)]) := by
  obtain ⟨hx, hb, hr, hml, hown, hts, hlk⟩ := id C
  unfold wbX10_tries_132 at h
  refine lv_iadd hx hb dX10_tries_132 ?_
  refine putF C wd (k := 0) (Cn := RX10) (T := TX10) (N := 26) (σ' := setI σ 20 (z1 + z2)) (by decide) mc_X10 rfl tyX10_ok nmX10 20 (by decide) rfl (by decide +kernel) (Nat.le_of_ble_eq_true rfl) inX10 tw4_46 ms_X10_triedLost dX10_tries_133 (fun H locs wd => ?_)
  obtain ⟨t1, et1⟩ : ∃ z : St, z = setI σ 20 (z1 + z2) := ⟨_, rfl⟩
  rw [← et1] at wd
  have h := h t1 et1
  obtain ⟨y2, ey2⟩ : ∃ y : Int32, y = x3 + (1 : Int32) := ⟨_, rfl⟩
  refine lv_iinc (v := y2) (lv' := [(3, .int y2), (0, .ref (ad 0)), (2, .int x2)]) hx hb dX10_tries_136 hl (k := 2) rfl (by rw [ey2]; rfl) (by decide) rfl (fun ls hl => ?_)
  have h := h y2 ey2
  refine lv_goto (tgt := 75) hx hb dX10_tries_139 (by decide) ?_
  exact hk_75 _ _ _ _ _ _ h wd (lv_sub hl [1, 2, 0] rfl)
def wbX10_tries_131 (Φ : Int32 → St → Prop) (k_75 : Int32 → Int32 → St → Prop) (x2 : Int32) (x3 : Int32) (z1 : Int32) (σ : St) : Prop :=
  wbX10_tries_132 Φ k_75 x2 x3 z1 (0 : Int32) σ
set_option maxHeartbeats 4000000 in
set_option maxRecDepth 100000 in
theorem blX10_tries_131 {p : Program} {l : Launch} {e : Env} {s : State} {m : MethodId} {args : Array Value} {below : List Frame} {meth : Method} {c : Code} (C : Cx p s m args meth c cX10_tries 4 (some .int) RX10) {Φ : Int32 → St → Prop} {k_75 : Int32 → Int32 → St → Prop} (hk_75 : ∀ (x2 : Int32) (x3 : Int32) (σ : St) (H : Heap) (locs : List Loc) (ls : Array Slot), k_75 x2 x3 σ → gWd D (tyL cyI cyO) (mCell ad cyI cyO) ad 16 s H locs σ → lv_has ls 4 [(0, .ref (ad 0)), (2, .int x2), (3, .int x3)] → W p l e rmX10_tries s m args below meth c H locs 0 0 (MQ below (gQi D (mCell ad cyI cyO) ad 16 s.heap.size Φ) args s 0 0 (gA ad 16 s.heap.size)) (F0 m 75 ls [])) {x2 : Int32} {x3 : Int32} {z1 : Int32} {σ : St} {H : Heap} {locs : List Loc} {ls : Array Slot} (h : wbX10_tries_131 Φ k_75 x2 x3 z1 σ) (wd : gWd D (tyL cyI cyO) (mCell ad cyI cyO) ad 16 s H locs σ) (hl : lv_has ls 4 [(0, .ref (ad 0)), (2, .int x2), (3, .int x3)]) : W p l e rmX10_tries s m args below meth c H locs 0 0 (MQ below (gQi D (mCell ad cyI cyO) ad 16 s.heap.size Φ) args s 0 0 (gA ad 16 s.heap.size)) (F0 m 131 ls [.int z1, .ref (ad 0)]) := by
  obtain ⟨hx, hb, hr, hml, hown, hts, hlk⟩ := id C
  unfold wbX10_tries_131 at h
  refine lv_iconst (v := (0 : Int32)) hx hb dX10_tries_131 (by decide) ?_
  exact blX10_tries_132 C hk_75 h wd (lv_sub hl [0, 1, 2] rfl)
def wlX10_tries_75_body (Φ : Int32 → St → Prop) (k_75 : Int32 → Int32 → St → Prop) (x2 : Int32) (x3 : Int32) (σ : St) : Prop :=
  (((σ.1 13) ≤ x3 → (∃ N, wlX10_tries_144 Φ N x2 (0 : Int32) σ)) ∧ (¬ (σ.1 13) ≤ x3 → (vp_in (((3 : Int32) * x3) + (2 : Int32)) 90 ∧ (((rd σ 11 (((3 : Int32) * x3) + (2 : Int32))) = 0 → (vp_in (((3 : Int32) * x3) + (1 : Int32)) 90 ∧ (vp_in ((3 : Int32) * x3) 90 ∧ (vp_in (rd σ 11 ((3 : Int32) * x3)) 5 ∧ (((rd σ 11 (((3 : Int32) * x3) + (1 : Int32))) ≤ (rd σ 2 (rd σ 11 ((3 : Int32) * x3))) → wbX10_tries_131 Φ k_75 x2 x3 (σ.1 20) σ) ∧ (¬ (rd σ 11 (((3 : Int32) * x3) + (1 : Int32))) ≤ (rd σ 2 (rd σ 11 ((3 : Int32) * x3))) → wbX10_tries_132 Φ k_75 x2 x3 (σ.1 20) (1 : Int32) σ)))))) ∧ (¬ (rd σ 11 (((3 : Int32) * x3) + (2 : Int32))) = 0 → wbX10_tries_131 Φ k_75 x2 x3 (σ.1 20) σ)))))
def wlX10_tries_75 (Φ : Int32 → St → Prop) : Nat → Int32 → Int32 → St → Prop
  | 0 => fun _ _ _ => False
  | N + 1 => fun x2 x3 σ => wlX10_tries_75_body Φ (wlX10_tries_75 Φ N) x2 x3 σ
set_option maxHeartbeats 4000000 in
set_option maxRecDepth 100000 in
theorem llX10_tries_75 {p : Program} {l : Launch} {e : Env} {s : State} {m : MethodId} {args : Array Value} {below : List Frame} {meth : Method} {c : Code} (C : Cx p s m args meth c cX10_tries 4 (some .int) RX10) {Φ : Int32 → St → Prop} : ∀ (N : Nat) (x2 : Int32) (x3 : Int32) (σ : St) (H : Heap) (locs : List Loc) (ls : Array Slot), wlX10_tries_75 Φ N x2 x3 σ → gWd D (tyL cyI cyO) (mCell ad cyI cyO) ad 16 s H locs σ → lv_has ls 4 [(0, .ref (ad 0)), (2, .int x2), (3, .int x3)] → W p l e rmX10_tries s m args below meth c H locs 0 0 (MQ below (gQi D (mCell ad cyI cyO) ad 16 s.heap.size Φ) args s 0 0 (gA ad 16 s.heap.size)) (F0 m 75 ls []) := by
  obtain ⟨hx, hb, hr, hml, hown, hts, hlk⟩ := id C
  intro N
  induction N with
  | zero =>
    intro x2 x3 σ H locs ls h
    exact False.elim h
  | succ N ih =>
    intro x2 x3 σ H locs ls h wd hl
    have h : wlX10_tries_75_body Φ (wlX10_tries_75 Φ N) x2 x3 σ := h
    have hk_75 := ih
    unfold wlX10_tries_75_body at h
    refine lv_iload_n hx hb dX10_tries_75 rfl (lv_at hl 2 rfl) ?_
    refine lv_aload_n hx hb dX10_tries_76 rfl (lv_at hl 0 rfl) ?_
    refine getF C wd (k := 0) (Cn := RX10) (T := TX10) (N := 26) (v := .int (σ.1 13)) (by decide) mc_X10 rfl 13 (by decide) rfl inX10 tw4_39 dX10_tries_77 ?_
    refine lv_icmp_ge (tgt := 142) hx hb dX10_tries_80 (by decide) (fun c1 => ?_) (fun c1 => ?_)
    · have h := h.1 c1
      refine lv_iconst (v := (0 : Int32)) hx hb dX10_tries_142 (by decide) ?_
      refine lv_istore_n (lv' := [(3, .int (0 : Int32)), (0, .ref (ad 0)), (2, .int x2)]) hx hb dX10_tries_143 rfl hl (by decide) rfl (fun ls hl => ?_)
      obtain ⟨N, h⟩ := h
      exact llX10_tries_144 C N _ _ _ _ _ _ h wd (lv_sub hl [1, 2, 0] rfl)
    · have h := h.2 c1
      refine lv_aload_n hx hb dX10_tries_83 rfl (lv_at hl 0 rfl) ?_
      refine lv_dup hx hb dX10_tries_84 rfl ?_
      refine getF C wd (k := 0) (Cn := RX10) (T := TX10) (N := 26) (v := .int (σ.1 20)) (by decide) mc_X10 rfl 20 (by decide) rfl inX10 tw4_46 dX10_tries_85 ?_
      refine lv_aload_n hx hb dX10_tries_88 rfl (lv_at hl 0 rfl) ?_
      refine getF C wd (k := 0) (Cn := RX10) (T := TX10) (N := 26) (v := .ref (ad 11)) (by decide) mc_X10 rfl 12 (by decide) rfl inX10 tw4_38 dX10_tries_89 ?_
      refine lv_iconst (v := (3 : Int32)) hx hb dX10_tries_92 (by decide) ?_
      refine lv_iload_n hx hb dX10_tries_93 rfl (lv_at hl 2 rfl) ?_
      refine lv_imul hx hb dX10_tries_94 ?_
      refine lv_iconst (v := (2 : Int32)) hx hb dX10_tries_95 (by decide) ?_
      refine lv_iadd hx hb dX10_tries_96 ?_
      obtain ⟨hi2, h⟩ := h
      refine ldI C wd (k := 11) (N := 90) (by decide) mc_A11 hi2 dX10_tries_97 ?_
      refine lv_if_ne (tgt := 131) hx hb dX10_tries_98 (by decide) (fun c3 => ?_) (fun c3 => ?_)
      · have h := h.2 c3
        exact blX10_tries_131 C hk_75 h wd (lv_sub hl [0, 1, 2] rfl)
      · have h := h.1 c3
        refine lv_aload_n hx hb dX10_tries_101 rfl (lv_at hl 0 rfl) ?_
        refine getF C wd (k := 0) (Cn := RX10) (T := TX10) (N := 26) (v := .ref (ad 11)) (by decide) mc_X10 rfl 12 (by decide) rfl inX10 tw4_38 dX10_tries_102 ?_
        refine lv_iconst (v := (3 : Int32)) hx hb dX10_tries_105 (by decide) ?_
        refine lv_iload_n hx hb dX10_tries_106 rfl (lv_at hl 2 rfl) ?_
        refine lv_imul hx hb dX10_tries_107 ?_
        refine lv_iconst (v := (1 : Int32)) hx hb dX10_tries_108 (by decide) ?_
        refine lv_iadd hx hb dX10_tries_109 ?_
        obtain ⟨hi4, h⟩ := h
        refine ldI C wd (k := 11) (N := 90) (by decide) mc_A11 hi4 dX10_tries_110 ?_
        refine lv_aload_n hx hb dX10_tries_111 rfl (lv_at hl 0 rfl) ?_
        refine getF C wd (k := 0) (Cn := RX10) (T := TX10) (N := 26) (v := .ref (ad 2)) (by decide) mc_X10 rfl 2 (by decide) rfl inX10 tw4_28 dX10_tries_112 ?_
        refine lv_aload_n hx hb dX10_tries_115 rfl (lv_at hl 0 rfl) ?_
        refine getF C wd (k := 0) (Cn := RX10) (T := TX10) (N := 26) (v := .ref (ad 11)) (by decide) mc_X10 rfl 12 (by decide) rfl inX10 tw4_38 dX10_tries_116 ?_
        refine lv_iconst (v := (3 : Int32)) hx hb dX10_tries_119 (by decide) ?_
        refine lv_iload_n hx hb dX10_tries_120 rfl (lv_at hl 2 rfl) ?_
        refine lv_imul hx hb dX10_tries_121 ?_
        obtain ⟨hi5, h⟩ := h
        refine ldI C wd (k := 11) (N := 90) (by decide) mc_A11 hi5 dX10_tries_122 ?_
        obtain ⟨hi6, h⟩ := h
        refine ldI C wd (k := 2) (N := 5) (by decide) mc_A2 hi6 dX10_tries_123 ?_
        refine lv_icmp_le (tgt := 131) hx hb dX10_tries_124 (by decide) (fun c7 => ?_) (fun c7 => ?_)
        · have h := h.1 c7
          exact blX10_tries_131 C hk_75 h wd (lv_sub hl [0, 1, 2] rfl)
        · have h := h.2 c7
          refine lv_iconst (v := (1 : Int32)) hx hb dX10_tries_127 (by decide) ?_
          refine lv_goto (tgt := 132) hx hb dX10_tries_128 (by decide) ?_
          exact blX10_tries_132 C hk_75 h wd (lv_sub hl [0, 1, 2] rfl)
def wlX10_tries_2_body (Φ : Int32 → St → Prop) (k_2 : Int32 → Int32 → St → Prop) (x1 : Int32) (x2 : Int32) (σ : St) : Prop :=
  (((σ.1 0) ≤ x2 → wpX10_lossOf x1 σ (fun r3 t2 => (∀ t4 : St, t4 = setI t2 19 (0 : Int32) → (∀ t5 : St, t5 = setI t4 20 (0 : Int32) → (∃ N, wlX10_tries_75 Φ N r3 (0 : Int32) t5))))) ∧ (¬ (σ.1 0) ≤ x2 → (vp_in x2 5 ∧ (vp_in x2 15 ∧ ∀ t8 : St, t8 = wr σ 14 x2 (rd σ 1 x2) → (vp_in x2 5 ∧ (vp_in ((5 : Int32) + x2) 15 ∧ ∀ t11 : St, t11 = wr t8 14 ((5 : Int32) + x2) (rd t8 2 x2) → (vp_in x2 5 ∧ (vp_in ((10 : Int32) + x2) 15 ∧ ∀ t14 : St, t14 = wr t11 14 ((10 : Int32) + x2) (rd t11 3 x2) → (∀ y15 : Int32, y15 = x2 + (1 : Int32) → k_2 x1 y15 t14)))))))))
def wlX10_tries_2 (Φ : Int32 → St → Prop) : Nat → Int32 → Int32 → St → Prop
  | 0 => fun _ _ _ => False
  | N + 1 => fun x1 x2 σ => wlX10_tries_2_body Φ (wlX10_tries_2 Φ N) x1 x2 σ
set_option maxHeartbeats 4000000 in
set_option maxRecDepth 100000 in
theorem llX10_tries_2 {p : Program} {l : Launch} {e : Env} {s : State} {m : MethodId} {args : Array Value} {below : List Frame} {meth : Method} {c : Code} (C : Cx p s m args meth c cX10_tries 4 (some .int) RX10) {Φ : Int32 → St → Prop} : ∀ (N : Nat) (x1 : Int32) (x2 : Int32) (σ : St) (H : Heap) (locs : List Loc) (ls : Array Slot), wlX10_tries_2 Φ N x1 x2 σ → gWd D (tyL cyI cyO) (mCell ad cyI cyO) ad 16 s H locs σ → lv_has ls 4 [(0, .ref (ad 0)), (1, .int x1), (2, .int x2)] → W p l e rmX10_tries s m args below meth c H locs 0 0 (MQ below (gQi D (mCell ad cyI cyO) ad 16 s.heap.size Φ) args s 0 0 (gA ad 16 s.heap.size)) (F0 m 2 ls []) := by
  obtain ⟨hx, hb, hr, hml, hown, hts, hlk⟩ := id C
  intro N
  induction N with
  | zero =>
    intro x1 x2 σ H locs ls h
    exact False.elim h
  | succ N ih =>
    intro x1 x2 σ H locs ls h wd hl
    have h : wlX10_tries_2_body Φ (wlX10_tries_2 Φ N) x1 x2 σ := h
    have hk_2 := ih
    unfold wlX10_tries_2_body at h
    refine lv_iload_n hx hb dX10_tries_2 rfl (lv_at hl 2 rfl) ?_
    refine lv_aload_n hx hb dX10_tries_3 rfl (lv_at hl 0 rfl) ?_
    refine getF C wd (k := 0) (Cn := RX10) (T := TX10) (N := 26) (v := .int (σ.1 0)) (by decide) mc_X10 rfl 0 (by decide) rfl inX10 tw4_26 dX10_tries_4 ?_
    refine lv_icmp_ge (tgt := 57) hx hb dX10_tries_7 (by decide) (fun c1 => ?_) (fun c1 => ?_)
    · have h := h.1 c1
      refine lv_aload_n hx hb dX10_tries_57 rfl (lv_at hl 0 rfl) ?_
      refine lv_iload_n hx hb dX10_tries_58 rfl (lv_at hl 1 rfl) ?_
      refine gCi wd (gRunV (y := yX10_lossOf) (k := 0) (As := [.int x1]) (rest := []) C wd (cmX10_lossOf h) ⟨rfl, rfl⟩ gd_X10_150 nk_X10_lossOf ⟨Nat.le_of_ble_eq_true rfl, Nat.le_of_ble_eq_true rfl⟩ (by decide) mc_X10 rfl rfl hl.1 (Nat.le_of_ble_eq_true rfl) dX10_tries_59 rfl) (fun r3 t2 H locs h wd => ?_)
      try dsimp only at h
      refine lv_istore_n (lv' := [(2, .int r3), (0, .ref (ad 0)), (1, .int x1)]) hx hb dX10_tries_62 rfl hl (by decide) rfl (fun ls hl => ?_)
      refine lv_aload_n hx hb dX10_tries_63 rfl (lv_at hl 1 rfl) ?_
      refine lv_iconst (v := (0 : Int32)) hx hb dX10_tries_64 (by decide) ?_
      refine putF C wd (k := 0) (Cn := RX10) (T := TX10) (N := 26) (σ' := setI t2 19 (0 : Int32)) (by decide) mc_X10 rfl tyX10_ok nmX10 19 (by decide) rfl (by decide +kernel) (Nat.le_of_ble_eq_true rfl) inX10 tw4_45 ms_X10_triedClerks dX10_tries_65 (fun H locs wd => ?_)
      obtain ⟨t4, et4⟩ : ∃ z : St, z = setI t2 19 (0 : Int32) := ⟨_, rfl⟩
      rw [← et4] at wd
      have h := h t4 et4
      refine lv_aload_n hx hb dX10_tries_68 rfl (lv_at hl 1 rfl) ?_
      refine lv_iconst (v := (0 : Int32)) hx hb dX10_tries_69 (by decide) ?_
      refine putF C wd (k := 0) (Cn := RX10) (T := TX10) (N := 26) (σ' := setI t4 20 (0 : Int32)) (by decide) mc_X10 rfl tyX10_ok nmX10 20 (by decide) rfl (by decide +kernel) (Nat.le_of_ble_eq_true rfl) inX10 tw4_46 ms_X10_triedLost dX10_tries_70 (fun H locs wd => ?_)
      obtain ⟨t5, et5⟩ : ∃ z : St, z = setI t4 20 (0 : Int32) := ⟨_, rfl⟩
      rw [← et5] at wd
      have h := h t5 et5
      refine lv_iconst (v := (0 : Int32)) hx hb dX10_tries_73 (by decide) ?_
      refine lv_istore_n (lv' := [(3, .int (0 : Int32)), (2, .int r3), (0, .ref (ad 0)), (1, .int x1)]) hx hb dX10_tries_74 rfl hl (by decide) rfl (fun ls hl => ?_)
      obtain ⟨N, h⟩ := h
      exact llX10_tries_75 C N _ _ _ _ _ _ h wd (lv_sub hl [2, 1, 0] rfl)
    · have h := h.2 c1
      refine lv_aload_n hx hb dX10_tries_10 rfl (lv_at hl 0 rfl) ?_
      refine getF C wd (k := 0) (Cn := RX10) (T := TX10) (N := 26) (v := .ref (ad 14)) (by decide) mc_X10 rfl 18 (by decide) rfl inX10 tw4_44 dX10_tries_11 ?_
      refine lv_iload_n hx hb dX10_tries_14 rfl (lv_at hl 2 rfl) ?_
      refine lv_aload_n hx hb dX10_tries_15 rfl (lv_at hl 0 rfl) ?_
      refine getF C wd (k := 0) (Cn := RX10) (T := TX10) (N := 26) (v := .ref (ad 1)) (by decide) mc_X10 rfl 1 (by decide) rfl inX10 tw4_27 dX10_tries_16 ?_
      refine lv_iload_n hx hb dX10_tries_19 rfl (lv_at hl 2 rfl) ?_
      obtain ⟨hi6, h⟩ := h
      refine ldI C wd (k := 1) (N := 5) (by decide) mc_A1 hi6 dX10_tries_20 ?_
      obtain ⟨hi7, h⟩ := h
      refine stI C wd (k := 14) (N := 15) (by decide) mc_A14 ms_A14 hi7 dX10_tries_21 (fun H locs wd => ?_)
      obtain ⟨t8, et8⟩ : ∃ z : St, z = wr σ 14 x2 (rd σ 1 x2) := ⟨_, rfl⟩
      rw [← et8] at wd
      have h := h t8 et8
      refine lv_aload_n hx hb dX10_tries_22 rfl (lv_at hl 0 rfl) ?_
      refine getF C wd (k := 0) (Cn := RX10) (T := TX10) (N := 26) (v := .ref (ad 14)) (by decide) mc_X10 rfl 18 (by decide) rfl inX10 tw4_44 dX10_tries_23 ?_
      refine lv_iconst (v := (5 : Int32)) hx hb dX10_tries_26 (by decide) ?_
      refine lv_iload_n hx hb dX10_tries_27 rfl (lv_at hl 2 rfl) ?_
      refine lv_iadd hx hb dX10_tries_28 ?_
      refine lv_aload_n hx hb dX10_tries_29 rfl (lv_at hl 0 rfl) ?_
      refine getF C wd (k := 0) (Cn := RX10) (T := TX10) (N := 26) (v := .ref (ad 2)) (by decide) mc_X10 rfl 2 (by decide) rfl inX10 tw4_28 dX10_tries_30 ?_
      refine lv_iload_n hx hb dX10_tries_33 rfl (lv_at hl 2 rfl) ?_
      obtain ⟨hi9, h⟩ := h
      refine ldI C wd (k := 2) (N := 5) (by decide) mc_A2 hi9 dX10_tries_34 ?_
      obtain ⟨hi10, h⟩ := h
      refine stI C wd (k := 14) (N := 15) (by decide) mc_A14 ms_A14 hi10 dX10_tries_35 (fun H locs wd => ?_)
      obtain ⟨t11, et11⟩ : ∃ z : St, z = wr t8 14 ((5 : Int32) + x2) (rd t8 2 x2) := ⟨_, rfl⟩
      rw [← et11] at wd
      have h := h t11 et11
      refine lv_aload_n hx hb dX10_tries_36 rfl (lv_at hl 0 rfl) ?_
      refine getF C wd (k := 0) (Cn := RX10) (T := TX10) (N := 26) (v := .ref (ad 14)) (by decide) mc_X10 rfl 18 (by decide) rfl inX10 tw4_44 dX10_tries_37 ?_
      refine lv_bipush (v := (10 : Int32)) hx hb dX10_tries_40 (by decide) ?_
      refine lv_iload_n hx hb dX10_tries_42 rfl (lv_at hl 2 rfl) ?_
      refine lv_iadd hx hb dX10_tries_43 ?_
      refine lv_aload_n hx hb dX10_tries_44 rfl (lv_at hl 0 rfl) ?_
      refine getF C wd (k := 0) (Cn := RX10) (T := TX10) (N := 26) (v := .ref (ad 3)) (by decide) mc_X10 rfl 3 (by decide) rfl inX10 tw4_29 dX10_tries_45 ?_
      refine lv_iload_n hx hb dX10_tries_48 rfl (lv_at hl 2 rfl) ?_
      obtain ⟨hi12, h⟩ := h
      refine ldI C wd (k := 3) (N := 5) (by decide) mc_A3 hi12 dX10_tries_49 ?_
      obtain ⟨hi13, h⟩ := h
      refine stI C wd (k := 14) (N := 15) (by decide) mc_A14 ms_A14 hi13 dX10_tries_50 (fun H locs wd => ?_)
      obtain ⟨t14, et14⟩ : ∃ z : St, z = wr t11 14 ((10 : Int32) + x2) (rd t11 3 x2) := ⟨_, rfl⟩
      rw [← et14] at wd
      have h := h t14 et14
      obtain ⟨y15, ey15⟩ : ∃ y : Int32, y = x2 + (1 : Int32) := ⟨_, rfl⟩
      refine lv_iinc (v := y15) (lv' := [(2, .int y15), (0, .ref (ad 0)), (1, .int x1)]) hx hb dX10_tries_51 hl (k := 2) rfl (by rw [ey15]; rfl) (by decide) rfl (fun ls hl => ?_)
      have h := h y15 ey15
      refine lv_goto (tgt := 2) hx hb dX10_tries_54 (by decide) ?_
      exact hk_2 _ _ _ _ _ _ h wd (lv_sub hl [1, 2, 0] rfl)
def wpX10_tries (x1 : Int32) (σ : St) (Φ : Int32 → St → Prop) : Prop :=
  (∃ N, wlX10_tries_2 Φ N x1 (0 : Int32) σ)
set_option maxHeartbeats 4000000 in
set_option maxRecDepth 100000 in
theorem cmX10_tries {D : va_G} {cyI cyO : ClassId} {ad : Nat → Nat} {l : Launch} {x1 : Int32} {σ : St} {sz : Nat} {Φ : Int32 → St → Prop} (h : wpX10_tries x1 σ Φ) : gMet D (tyL cyI cyO) (mCell ad cyI cyO) ad 16 l yX10_tries cX10_tries 4 (some .int) rmX10_tries [.ref (ad 0), .int x1] σ sz (gQi D (mCell ad cyI cyO) ad 16 sz Φ) := by
  refine gMet.of (by decide) (Nat.le_of_ble_eq_true rfl) ?_
  intro p e s m below meth c ls hsz C hl wd
  subst hsz
  have C : Cx p s m _ meth c cX10_tries 4 (some .int) RX10 := C
  obtain ⟨hx, hb, hr, hml, hown, hts, hlk⟩ := id C
  have hl : lv_has ls 4 [(0, .ref (ad 0)), (1, .int x1)] := hl
  unfold wpX10_tries at h
  refine lv_iconst (v := (0 : Int32)) hx hb dX10_tries_0 (by decide) ?_
  refine lv_istore_n (lv' := [(2, .int (0 : Int32)), (0, .ref (ad 0)), (1, .int x1)]) hx hb dX10_tries_1 rfl hl (by decide) rfl (fun ls hl => ?_)
  obtain ⟨N, h⟩ := h
  exact llX10_tries_2 C N _ _ _ _ _ _ h wd (lv_sub hl [1, 2, 0] rfl)
abbrev rmX10_would : Room := rmOf 6 136
def wbX10_would_20 (Φ : Int32 → St → Prop) (σ : St) : Prop :=
  wpX10_bad σ (fun r2 t1 => Φ r2 t1)
set_option maxHeartbeats 4000000 in
set_option maxRecDepth 100000 in
theorem blX10_would_20 {p : Program} {l : Launch} {e : Env} {s : State} {m : MethodId} {args : Array Value} {below : List Frame} {meth : Method} {c : Code} (C : Cx p s m args meth c cX10_would 4 (some .int) RX10) {Φ : Int32 → St → Prop} {σ : St} {H : Heap} {locs : List Loc} {ls : Array Slot} (h : wbX10_would_20 Φ σ) (wd : gWd D (tyL cyI cyO) (mCell ad cyI cyO) ad 16 s H locs σ) (hl : lv_has ls 4 [(0, .ref (ad 0))]) : W p l e rmX10_would s m args below meth c H locs 0 0 (MQ below (gQi D (mCell ad cyI cyO) ad 16 s.heap.size Φ) args s 0 0 (gA ad 16 s.heap.size)) (F0 m 20 ls []) := by
  obtain ⟨hx, hb, hr, hml, hown, hts, hlk⟩ := id C
  unfold wbX10_would_20 at h
  refine lv_aload_n hx hb dX10_would_20 rfl (lv_at hl 0 rfl) ?_
  refine gCi wd (gRunV (y := yX10_bad) (k := 0) (As := []) (rest := []) C wd (cmX10_bad h) ⟨rfl, rfl⟩ gd_X10_87 nk_X10_bad ⟨Nat.le_of_ble_eq_true rfl, Nat.le_of_ble_eq_true rfl⟩ (by decide) mc_X10 rfl rfl hl.1 (Nat.le_of_ble_eq_true rfl) dX10_would_21 rfl) (fun r2 t1 H locs h wd => ?_)
  try dsimp only at h
  exact retI C wd h dX10_would_24
def wpX10_would (x1 : Int32) (x2 : Int32) (σ : St) (Φ : Int32 → St → Prop) : Prop :=
  wpX10_isClerk x1 σ (fun r2 t1 => ((r2 = 0 → wbX10_would_20 Φ t1) ∧ (¬ r2 = 0 → wpX10_in x2.toInt64 (0 : Int64) (2 : Int64) t1 (fun r5 t4 => ((r5 = 0 → wbX10_would_20 Φ t4) ∧ (¬ r5 = 0 → wpX10_tries x1 t4 (fun r8 t7 => ((x2 = 0 → Φ r8 t7) ∧ (¬ x2 = 0 → ((x2 = (1 : Int32) → Φ (t7.1 19) t7) ∧ (¬ x2 = (1 : Int32) → Φ (t7.1 20) t7)))))))))))
set_option maxHeartbeats 4000000 in
set_option maxRecDepth 100000 in
theorem cmX10_would {D : va_G} {cyI cyO : ClassId} {ad : Nat → Nat} {l : Launch} {x1 : Int32} {x2 : Int32} {σ : St} {sz : Nat} {Φ : Int32 → St → Prop} (h : wpX10_would x1 x2 σ Φ) : gMet D (tyL cyI cyO) (mCell ad cyI cyO) ad 16 l yX10_would cX10_would 4 (some .int) rmX10_would [.ref (ad 0), .int x1, .int x2] σ sz (gQi D (mCell ad cyI cyO) ad 16 sz Φ) := by
  refine gMet.of (by decide) (Nat.le_of_ble_eq_true rfl) ?_
  intro p e s m below meth c ls hsz C hl wd
  subst hsz
  have C : Cx p s m _ meth c cX10_would 4 (some .int) RX10 := C
  obtain ⟨hx, hb, hr, hml, hown, hts, hlk⟩ := id C
  have hl : lv_has ls 4 [(0, .ref (ad 0)), (1, .int x1), (2, .int x2)] := hl
  unfold wpX10_would at h
  refine lv_aload_n hx hb dX10_would_0 rfl (lv_at hl 0 rfl) ?_
  refine lv_iload_n hx hb dX10_would_1 rfl (lv_at hl 1 rfl) ?_
  refine gCi wd (gRunV (y := yX10_isClerk) (k := 0) (As := [.int x1]) (rest := []) C wd (cmX10_isClerk h) ⟨rfl, rfl⟩ gd_X10_98 nk_X10_isClerk ⟨Nat.le_of_ble_eq_true rfl, Nat.le_of_ble_eq_true rfl⟩ (by decide) mc_X10 rfl rfl hl.1 (Nat.le_of_ble_eq_true rfl) dX10_would_2 rfl) (fun r2 t1 H locs h wd => ?_)
  try dsimp only at h
  refine lv_if_eq (tgt := 20) hx hb dX10_would_5 (by decide) (fun c3 => ?_) (fun c3 => ?_)
  · have h := h.1 c3
    exact blX10_would_20 C h wd (lv_sub hl [0] rfl)
  · have h := h.2 c3
    refine lv_iload_n hx hb dX10_would_8 rfl (lv_at hl 2 rfl) ?_
    refine lv_i2l hx hb dX10_would_9 rfl ?_
    refine lv_lconst (v := (0 : Int64)) hx hb dX10_would_10 (by decide) ?_
    refine lv_ldc2 (v := (2 : Int64)) hx hb hown (hts _ tw4_109) dX10_would_11 ?_
    refine gCi wd (gRunS (y := yX10_in) (As := [.long x2.toInt64, .long (0 : Int64), .long (2 : Int64)]) (rest := []) C wd (cmX10_in h) ⟨rfl, rfl⟩ gd_X10_59 nk_X10_in ⟨Nat.le_of_ble_eq_true rfl, Nat.le_of_ble_eq_true rfl⟩ hl.1 (Nat.le_of_ble_eq_true rfl) dX10_would_14 rfl) (fun r5 t4 H locs h wd => ?_)
    try dsimp only at h
    refine lv_if_ne (tgt := 25) hx hb dX10_would_17 (by decide) (fun c6 => ?_) (fun c6 => ?_)
    · have h := h.2 c6
      refine lv_aload_n hx hb dX10_would_25 rfl (lv_at hl 0 rfl) ?_
      refine lv_iload_n hx hb dX10_would_26 rfl (lv_at hl 1 rfl) ?_
      refine gCi wd (gRunV (y := yX10_tries) (k := 0) (As := [.int x1]) (rest := []) C wd (cmX10_tries h) ⟨rfl, rfl⟩ gd_X10_162 nk_X10_tries ⟨Nat.le_of_ble_eq_true rfl, Nat.le_of_ble_eq_true rfl⟩ (by decide) mc_X10 rfl rfl hl.1 (Nat.le_of_ble_eq_true rfl) dX10_would_27 rfl) (fun r8 t7 H locs h wd => ?_)
      try dsimp only at h
      refine lv_istore_n (lv' := [(3, .int r8), (0, .ref (ad 0)), (1, .int x1), (2, .int x2)]) hx hb dX10_would_30 rfl hl (by decide) rfl (fun ls hl => ?_)
      refine lv_iload_n hx hb dX10_would_31 rfl (lv_at hl 3 rfl) ?_
      refine lv_if_ne (tgt := 39) hx hb dX10_would_32 (by decide) (fun c9 => ?_) (fun c9 => ?_)
      · have h := h.2 c9
        refine lv_iload_n hx hb dX10_would_39 rfl (lv_at hl 3 rfl) ?_
        refine lv_iconst (v := (1 : Int32)) hx hb dX10_would_40 (by decide) ?_
        refine lv_icmp_ne (tgt := 51) hx hb dX10_would_41 (by decide) (fun c10 => ?_) (fun c10 => ?_)
        · have h := h.2 c10
          refine lv_aload_n hx hb dX10_would_51 rfl (lv_at hl 1 rfl) ?_
          refine getF C wd (k := 0) (Cn := RX10) (T := TX10) (N := 26) (v := .int (t7.1 20)) (by decide) mc_X10 rfl 20 (by decide) rfl inX10 tw4_46 dX10_would_52 ?_
          exact retI C wd h dX10_would_55
        · have h := h.1 c10
          refine lv_aload_n hx hb dX10_would_44 rfl (lv_at hl 1 rfl) ?_
          refine getF C wd (k := 0) (Cn := RX10) (T := TX10) (N := 26) (v := .int (t7.1 19)) (by decide) mc_X10 rfl 19 (by decide) rfl inX10 tw4_45 dX10_would_45 ?_
          refine lv_goto (tgt := 55) hx hb dX10_would_48 (by decide) ?_
          exact retI C wd h dX10_would_55
      · have h := h.1 c9
        refine lv_iload_n hx hb dX10_would_35 rfl (lv_at hl 0 rfl) ?_
        refine lv_goto (tgt := 55) hx hb dX10_would_36 (by decide) ?_
        exact retI C wd h dX10_would_55
    · have h := h.1 c6
      exact blX10_would_20 C h wd (lv_sub hl [0] rfl)
abbrev rmX10_worst : Room := rmOf 6 136
def wbX10_worst_68 (Φ : Int32 → St → Prop) (k_26 : Int32 → Int32 → Int32 → Int32 → St → Prop) (x1 : Int32) (x2 : Int32) (x4 : Int32) (z0 : Int32) (σ : St) : Prop :=
  (∀ y1 : Int32, y1 = x4 + (1 : Int32) → k_26 x1 x2 z0 y1 σ)
set_option maxHeartbeats 4000000 in
set_option maxRecDepth 100000 in
theorem blX10_worst_68 {p : Program} {l : Launch} {e : Env} {s : State} {m : MethodId} {args : Array Value} {below : List Frame} {meth : Method} {c : Code} (C : Cx p s m args meth c cX10_worst 6 (some .int) RX10) {Φ : Int32 → St → Prop} {k_26 : Int32 → Int32 → Int32 → Int32 → St → Prop} (hk_26 : ∀ (x1 : Int32) (x2 : Int32) (x3 : Int32) (x4 : Int32) (σ : St) (H : Heap) (locs : List Loc) (ls : Array Slot), k_26 x1 x2 x3 x4 σ → gWd D (tyL cyI cyO) (mCell ad cyI cyO) ad 16 s H locs σ → lv_has ls 6 [(0, .ref (ad 0)), (1, .int x1), (2, .int x2), (3, .int x3), (4, .int x4)] → W p l e rmX10_worst s m args below meth c H locs 0 0 (MQ below (gQi D (mCell ad cyI cyO) ad 16 s.heap.size Φ) args s 0 0 (gA ad 16 s.heap.size)) (F0 m 26 ls [])) {x1 : Int32} {x2 : Int32} {x4 : Int32} {z0 : Int32} {σ : St} {H : Heap} {locs : List Loc} {ls : Array Slot} (h : wbX10_worst_68 Φ k_26 x1 x2 x4 z0 σ) (wd : gWd D (tyL cyI cyO) (mCell ad cyI cyO) ad 16 s H locs σ) (hl : lv_has ls 6 [(0, .ref (ad 0)), (1, .int x1), (2, .int x2), (4, .int x4)]) : W p l e rmX10_worst s m args below meth c H locs 0 0 (MQ below (gQi D (mCell ad cyI cyO) ad 16 s.heap.size Φ) args s 0 0 (gA ad 16 s.heap.size)) (F0 m 68 ls [.int z0]) := by
  obtain ⟨hx, hb, hr, hml, hown, hts, hlk⟩ := id C
  unfold wbX10_worst_68 at h
  refine lv_istore_n (lv' := [(3, .int z0), (0, .ref (ad 0)), (1, .int x1), (2, .int x2), (4, .int x4)]) hx hb dX10_worst_68 rfl hl (by decide) rfl (fun ls hl => ?_)
  obtain ⟨y1, ey1⟩ : ∃ y : Int32, y = x4 + (1 : Int32) := ⟨_, rfl⟩
  refine lv_iinc (v := y1) (lv' := [(4, .int y1), (3, .int z0), (0, .ref (ad 0)), (1, .int x1), (2, .int x2)]) hx hb dX10_worst_69 hl (k := 4) rfl (by rw [ey1]; rfl) (by decide) rfl (fun ls hl => ?_)
  have h := h y1 ey1
  refine lv_goto (tgt := 26) hx hb dX10_worst_72 (by decide) ?_
  exact hk_26 _ _ _ _ _ _ _ _ h wd (lv_sub hl [2, 3, 4, 1, 0] rfl)
def wbX10_worst_55 (Φ : Int32 → St → Prop) (k_26 : Int32 → Int32 → Int32 → Int32 → St → Prop) (x1 : Int32) (x3 : Int32) (x4 : Int32) (x5 : Int32) (z0 : Int32) (σ : St) : Prop :=
  ((x5 ≤ x3 → wbX10_worst_68 Φ k_26 x1 z0 x4 x3 σ) ∧ (¬ x5 ≤ x3 → wbX10_worst_68 Φ k_26 x1 z0 x4 x5 σ))
set_option maxHeartbeats 4000000 in
set_option maxRecDepth 100000 in
theorem blX10_worst_55 {p : Program} {l : Launch} {e : Env} {s : State} {m : MethodId} {args : Array Value} {below : List Frame} {meth : Method} {c : Code} (C : Cx p s m args meth c cX10_worst 6 (some .int) RX10) {Φ : Int32 → St → Prop} {k_26 : Int32 → Int32 → Int32 → Int32 → St → Prop} (hk_26 : ∀ (x1 : Int32) (x2 : Int32) (x3 : Int32) (x4 : Int32) (σ : St) (H : Heap) (locs : List Loc) (ls : Array Slot), k_26 x1 x2 x3 x4 σ → gWd D (tyL cyI cyO) (mCell ad cyI cyO) ad 16 s H locs σ → lv_has ls 6 [(0, .ref (ad 0)), (1, .int x1), (2, .int x2), (3, .int x3), (4, .int x4)] → W p l e rmX10_worst s m args below meth c H locs 0 0 (MQ below (gQi D (mCell ad cyI cyO) ad 16 s.heap.size Φ) args s 0 0 (gA ad 16 s.heap.size)) (F0 m 26 ls [])) {x1 : Int32} {x3 : Int32} {x4 : Int32} {x5 : Int32} {z0 : Int32} {σ : St} {H : Heap} {locs : List Loc} {ls : Array Slot} (h : wbX10_worst_55 Φ k_26 x1 x3 x4 x5 z0 σ) (wd : gWd D (tyL cyI cyO) (mCell ad cyI cyO) ad 16 s H locs σ) (hl : lv_has ls 6 [(0, .ref (ad 0)), (1, .int x1), (3, .int x3), (4, .int x4), (5, .int x5)]) : W p l e rmX10_worst s m args below meth c H locs 0 0 (MQ below (gQi D (mCell ad cyI cyO) ad 16 s.heap.size Φ) args s 0 0 (gA ad 16 s.heap.size)) (F0 m 55 ls [.int z0]) := by
  obtain ⟨hx, hb, hr, hml, hown, hts, hlk⟩ := id C
  unfold wbX10_worst_55 at h
  refine lv_istore_n (lv' := [(2, .int z0), (0, .ref (ad 0)), (1, .int x1), (3, .int x3), (4, .int x4), (5, .int x5)]) hx hb dX10_worst_55 rfl hl (by decide) rfl (fun ls hl => ?_)
  refine lv_iload hx hb dX10_worst_56 (lv_at hl 5 rfl) ?_
  refine lv_iload_n hx hb dX10_worst_58 rfl (lv_at hl 3 rfl) ?_
  refine lv_icmp_le (tgt := 67) hx hb dX10_worst_59 (by decide) (fun c1 => ?_) (fun c1 => ?_)
  · have h := h.1 c1
    refine lv_iload_n hx hb dX10_worst_67 rfl (lv_at hl 3 rfl) ?_
    exact blX10_worst_68 C hk_26 h wd (lv_sub hl [1, 2, 0, 4] rfl)
  · have h := h.2 c1
    refine lv_iload hx hb dX10_worst_62 (lv_at hl 5 rfl) ?_
    refine lv_goto (tgt := 68) hx hb dX10_worst_64 (by decide) ?_
    exact blX10_worst_68 C hk_26 h wd (lv_sub hl [1, 2, 0, 4] rfl)
def wlX10_worst_26_body (Φ : Int32 → St → Prop) (k_26 : Int32 → Int32 → Int32 → Int32 → St → Prop) (x1 : Int32) (x2 : Int32) (x3 : Int32) (x4 : Int32) (σ : St) : Prop :=
  (((σ.1 0) ≤ x4 → ((x1 = 0 → Φ x2 σ) ∧ (¬ x1 = 0 → Φ x3 σ))) ∧ (¬ (σ.1 0) ≤ x4 → wpX10_tries x4 σ (fun r4 t3 => ((r4 ≤ x3 → wbX10_worst_55 Φ k_26 x1 x3 x4 r4 x2 t3) ∧ (¬ r4 ≤ x3 → wbX10_worst_55 Φ k_26 x1 x3 x4 r4 x4 t3)))))
def wlX10_worst_26 (Φ : Int32 → St → Prop) : Nat → Int32 → Int32 → Int32 → Int32 → St → Prop
  | 0 => fun _ _ _ _ _ => False
  | N + 1 => fun x1 x2 x3 x4 σ => wlX10_worst_26_body Φ (wlX10_worst_26 Φ N) x1 x2 x3 x4 σ
set_option maxHeartbeats 4000000 in
set_option maxRecDepth 100000 in
theorem llX10_worst_26 {p : Program} {l : Launch} {e : Env} {s : State} {m : MethodId} {args : Array Value} {below : List Frame} {meth : Method} {c : Code} (C : Cx p s m args meth c cX10_worst 6 (some .int) RX10) {Φ : Int32 → St → Prop} : ∀ (N : Nat) (x1 : Int32) (x2 : Int32) (x3 : Int32) (x4 : Int32) (σ : St) (H : Heap) (locs : List Loc) (ls : Array Slot), wlX10_worst_26 Φ N x1 x2 x3 x4 σ → gWd D (tyL cyI cyO) (mCell ad cyI cyO) ad 16 s H locs σ → lv_has ls 6 [(0, .ref (ad 0)), (1, .int x1), (2, .int x2), (3, .int x3), (4, .int x4)] → W p l e rmX10_worst s m args below meth c H locs 0 0 (MQ below (gQi D (mCell ad cyI cyO) ad 16 s.heap.size Φ) args s 0 0 (gA ad 16 s.heap.size)) (F0 m 26 ls []) := by
  obtain ⟨hx, hb, hr, hml, hown, hts, hlk⟩ := id C
  intro N
  induction N with
  | zero =>
    intro x1 x2 x3 x4 σ H locs ls h
    exact False.elim h
  | succ N ih =>
    intro x1 x2 x3 x4 σ H locs ls h wd hl
    have h : wlX10_worst_26_body Φ (wlX10_worst_26 Φ N) x1 x2 x3 x4 σ := h
    have hk_26 := ih
    unfold wlX10_worst_26_body at h
    refine lv_iload hx hb dX10_worst_26 (lv_at hl 4 rfl) ?_
    refine lv_aload_n hx hb dX10_worst_28 rfl (lv_at hl 0 rfl) ?_
    refine getF C wd (k := 0) (Cn := RX10) (T := TX10) (N := 26) (v := .int (σ.1 0)) (by decide) mc_X10 rfl 0 (by decide) rfl inX10 tw4_26 dX10_worst_29 ?_
    refine lv_icmp_ge (tgt := 75) hx hb dX10_worst_32 (by decide) (fun c1 => ?_) (fun c1 => ?_)
    · have h := h.1 c1
      refine lv_iload_n hx hb dX10_worst_75 rfl (lv_at hl 1 rfl) ?_
      refine lv_if_ne (tgt := 83) hx hb dX10_worst_76 (by decide) (fun c2 => ?_) (fun c2 => ?_)
      · have h := h.2 c2
        refine lv_iload_n hx hb dX10_worst_83 rfl (lv_at hl 3 rfl) ?_
        exact retI C wd h dX10_worst_84
      · have h := h.1 c2
        refine lv_iload_n hx hb dX10_worst_79 rfl (lv_at hl 2 rfl) ?_
        refine lv_goto (tgt := 84) hx hb dX10_worst_80 (by decide) ?_
        exact retI C wd h dX10_worst_84
    · have h := h.2 c1
      refine lv_aload_n hx hb dX10_worst_35 rfl (lv_at hl 0 rfl) ?_
      refine lv_iload hx hb dX10_worst_36 (lv_at hl 4 rfl) ?_
      refine gCi wd (gRunV (y := yX10_tries) (k := 0) (As := [.int x4]) (rest := []) C wd (cmX10_tries h) ⟨rfl, rfl⟩ gd_X10_162 nk_X10_tries ⟨Nat.le_of_ble_eq_true rfl, Nat.le_of_ble_eq_true rfl⟩ (by decide) mc_X10 rfl rfl hl.1 (Nat.le_of_ble_eq_true rfl) dX10_worst_38 rfl) (fun r4 t3 H locs h wd => ?_)
      try dsimp only at h
      refine lv_istore (lv' := [(5, .int r4), (0, .ref (ad 0)), (1, .int x1), (2, .int x2), (3, .int x3), (4, .int x4)]) hx hb dX10_worst_41 hl (by decide) rfl (fun ls hl => ?_)
      refine lv_iload hx hb dX10_worst_43 (lv_at hl 0 rfl) ?_
      refine lv_iload_n hx hb dX10_worst_45 rfl (lv_at hl 4 rfl) ?_
      refine lv_icmp_le (tgt := 54) hx hb dX10_worst_46 (by decide) (fun c5 => ?_) (fun c5 => ?_)
      · have h := h.1 c5
        refine lv_iload_n hx hb dX10_worst_54 rfl (lv_at hl 3 rfl) ?_
        exact blX10_worst_55 C hk_26 h wd (lv_sub hl [1, 2, 4, 5, 0] rfl)
      · have h := h.2 c5
        refine lv_iload hx hb dX10_worst_49 (lv_at hl 5 rfl) ?_
        refine lv_goto (tgt := 55) hx hb dX10_worst_51 (by decide) ?_
        exact blX10_worst_55 C hk_26 h wd (lv_sub hl [1, 2, 4, 5, 0] rfl)
def wpX10_worst (x1 : Int32) (σ : St) (Φ : Int32 → St → Prop) : Prop :=
  wpX10_in x1.toInt64 (0 : Int64) (1 : Int64) σ (fun r2 t1 => ((r2 = 0 → wpX10_bad t1 (fun r7 t6 => Φ r7 t6)) ∧ (¬ r2 = 0 → wpX10_tries (0 : Int32) t1 (fun r5 t4 => (∃ N, wlX10_worst_26 Φ N x1 (0 : Int32) r5 (1 : Int32) t4)))))
set_option maxHeartbeats 4000000 in
set_option maxRecDepth 100000 in
theorem cmX10_worst {D : va_G} {cyI cyO : ClassId} {ad : Nat → Nat} {l : Launch} {x1 : Int32} {σ : St} {sz : Nat} {Φ : Int32 → St → Prop} (h : wpX10_worst x1 σ Φ) : gMet D (tyL cyI cyO) (mCell ad cyI cyO) ad 16 l yX10_worst cX10_worst 6 (some .int) rmX10_worst [.ref (ad 0), .int x1] σ sz (gQi D (mCell ad cyI cyO) ad 16 sz Φ) := by
  refine gMet.of (by decide) (Nat.le_of_ble_eq_true rfl) ?_
  intro p e s m below meth c ls hsz C hl wd
  subst hsz
  have C : Cx p s m _ meth c cX10_worst 6 (some .int) RX10 := C
  obtain ⟨hx, hb, hr, hml, hown, hts, hlk⟩ := id C
  have hl : lv_has ls 6 [(0, .ref (ad 0)), (1, .int x1)] := hl
  unfold wpX10_worst at h
  refine lv_iload_n hx hb dX10_worst_0 rfl (lv_at hl 1 rfl) ?_
  refine lv_i2l hx hb dX10_worst_1 rfl ?_
  refine lv_lconst (v := (0 : Int64)) hx hb dX10_worst_2 (by decide) ?_
  refine lv_lconst (v := (1 : Int64)) hx hb dX10_worst_3 (by decide) ?_
  refine gCi wd (gRunS (y := yX10_in) (As := [.long x1.toInt64, .long (0 : Int64), .long (1 : Int64)]) (rest := []) C wd (cmX10_in h) ⟨rfl, rfl⟩ gd_X10_59 nk_X10_in ⟨Nat.le_of_ble_eq_true rfl, Nat.le_of_ble_eq_true rfl⟩ hl.1 (Nat.le_of_ble_eq_true rfl) dX10_worst_4 rfl) (fun r2 t1 H locs h wd => ?_)
  try dsimp only at h
  refine lv_if_ne (tgt := 15) hx hb dX10_worst_7 (by decide) (fun c3 => ?_) (fun c3 => ?_)
  · have h := h.2 c3
    refine lv_iconst (v := (0 : Int32)) hx hb dX10_worst_15 (by decide) ?_
    refine lv_istore_n (lv' := [(2, .int (0 : Int32)), (0, .ref (ad 0)), (1, .int x1)]) hx hb dX10_worst_16 rfl hl (by decide) rfl (fun ls hl => ?_)
    refine lv_aload_n hx hb dX10_worst_17 rfl (lv_at hl 1 rfl) ?_
    refine lv_iconst (v := (0 : Int32)) hx hb dX10_worst_18 (by decide) ?_
    refine gCi wd (gRunV (y := yX10_tries) (k := 0) (As := [.int (0 : Int32)]) (rest := []) C wd (cmX10_tries h) ⟨rfl, rfl⟩ gd_X10_162 nk_X10_tries ⟨Nat.le_of_ble_eq_true rfl, Nat.le_of_ble_eq_true rfl⟩ (by decide) mc_X10 rfl rfl hl.1 (Nat.le_of_ble_eq_true rfl) dX10_worst_19 rfl) (fun r5 t4 H locs h wd => ?_)
    try dsimp only at h
    refine lv_istore_n (lv' := [(3, .int r5), (2, .int (0 : Int32)), (0, .ref (ad 0)), (1, .int x1)]) hx hb dX10_worst_22 rfl hl (by decide) rfl (fun ls hl => ?_)
    refine lv_iconst (v := (1 : Int32)) hx hb dX10_worst_23 (by decide) ?_
    refine lv_istore (lv' := [(4, .int (1 : Int32)), (3, .int r5), (2, .int (0 : Int32)), (0, .ref (ad 0)), (1, .int x1)]) hx hb dX10_worst_24 hl (by decide) rfl (fun ls hl => ?_)
    obtain ⟨N, h⟩ := h
    exact llX10_worst_26 C N _ _ _ _ _ _ _ _ h wd (lv_sub hl [3, 4, 2, 1, 0] rfl)
  · have h := h.1 c3
    refine lv_aload_n hx hb dX10_worst_10 rfl (lv_at hl 0 rfl) ?_
    refine gCi wd (gRunV (y := yX10_bad) (k := 0) (As := []) (rest := []) C wd (cmX10_bad h) ⟨rfl, rfl⟩ gd_X10_87 nk_X10_bad ⟨Nat.le_of_ble_eq_true rfl, Nat.le_of_ble_eq_true rfl⟩ (by decide) mc_X10 rfl rfl hl.1 (Nat.le_of_ble_eq_true rfl) dX10_worst_11 rfl) (fun r7 t6 H locs h wd => ?_)
    try dsimp only at h
    exact retI C wd h dX10_worst_14
abbrev rmX10_heldOf : Room := rmOf 0 0
def wbX10_heldOf_48 (Φ : Int32 → St → Prop) (k_4 : Int32 → Int32 → Int32 → St → Prop) (x1 : Int32) (x3 : Int32) (z0 : Int32) (z1 : Int32) (σ : St) : Prop :=
  (∀ y1 : Int32, y1 = z0 + z1 → (∀ y2 : Int32, y2 = x3 + (1 : Int32) → k_4 x1 y1 y2 σ))
set_option maxHeartbeats 4000000 in
set_option maxRecDepth 100000 in
theorem blX10_heldOf_48 {p : Program} {l : Launch} {e : Env} {s : State} {m : MethodId} {args : Array Value} {below : List Frame} {meth : Method} {c : Code} (C : Cx p s m args meth c cX10_heldOf 4 (some .int) RX10) {Φ : Int32 → St → Prop} {k_4 : Int32 → Int32 → Int32 → St → Prop} (hk_4 : ∀ (x1 : Int32) (x2 : Int32) (x3 : Int32) (σ : St) (H : Heap) (locs : List Loc) (ls : Array Slot), k_4 x1 x2 x3 σ → gWd D (tyL cyI cyO) (mCell ad cyI cyO) ad 16 s H locs σ → lv_has ls 4 [(0, .ref (ad 0)), (1, .int x1), (2, .int x2), (3, .int x3)] → W p l e rmX10_heldOf s m args below meth c H locs 0 0 (MQ below (gQi D (mCell ad cyI cyO) ad 16 s.heap.size Φ) args s 0 0 (gA ad 16 s.heap.size)) (F0 m 4 ls [])) {x1 : Int32} {x3 : Int32} {z0 : Int32} {z1 : Int32} {σ : St} {H : Heap} {locs : List Loc} {ls : Array Slot} (h : wbX10_heldOf_48 Φ k_4 x1 x3 z0 z1 σ) (wd : gWd D (tyL cyI cyO) (mCell ad cyI cyO) ad 16 s H locs σ) (hl : lv_has ls 4 [(0, .ref (ad 0)), (1, .int x1), (3, .int x3)]) : W p l e rmX10_heldOf s m args below meth c H locs 0 0 (MQ below (gQi D (mCell ad cyI cyO) ad 16 s.heap.size Φ) args s 0 0 (gA ad 16 s.heap.size)) (F0 m 48 ls [.int z1, .int z0]) := by
  obtain ⟨hx, hb, hr, hml, hown, hts, hlk⟩ := id C
  unfold wbX10_heldOf_48 at h
  refine lv_iadd hx hb dX10_heldOf_48 ?_
  refine lv_topi (fun y1 ey1 => ?_)
  have h := h y1 ey1
  refine lv_istore_n (lv' := [(2, .int y1), (0, .ref (ad 0)), (1, .int x1), (3, .int x3)]) hx hb dX10_heldOf_49 rfl hl (by decide) rfl (fun ls hl => ?_)
  obtain ⟨y2, ey2⟩ : ∃ y : Int32, y = x3 + (1 : Int32) := ⟨_, rfl⟩
  refine lv_iinc (v := y2) (lv' := [(3, .int y2), (2, .int y1), (0, .ref (ad 0)), (1, .int x1)]) hx hb dX10_heldOf_50 hl (k := 3) rfl (by rw [ey2]; rfl) (by decide) rfl (fun ls hl => ?_)
  have h := h y2 ey2
  refine lv_goto (tgt := 4) hx hb dX10_heldOf_53 (by decide) ?_
  exact hk_4 _ _ _ _ _ _ _ h wd (lv_sub hl [2, 3, 1, 0] rfl)
def wbX10_heldOf_47 (Φ : Int32 → St → Prop) (k_4 : Int32 → Int32 → Int32 → St → Prop) (x1 : Int32) (x3 : Int32) (z0 : Int32) (σ : St) : Prop :=
  wbX10_heldOf_48 Φ k_4 x1 x3 z0 (0 : Int32) σ
set_option maxHeartbeats 4000000 in
set_option maxRecDepth 100000 in
theorem blX10_heldOf_47 {p : Program} {l : Launch} {e : Env} {s : State} {m : MethodId} {args : Array Value} {below : List Frame} {meth : Method} {c : Code} (C : Cx p s m args meth c cX10_heldOf 4 (some .int) RX10) {Φ : Int32 → St → Prop} {k_4 : Int32 → Int32 → Int32 → St → Prop} (hk_4 : ∀ (x1 : Int32) (x2 : Int32) (x3 : Int32) (σ : St) (H : Heap) (locs : List Loc) (ls : Array Slot), k_4 x1 x2 x3 σ → gWd D (tyL cyI cyO) (mCell ad cyI cyO) ad 16 s H locs σ → lv_has ls 4 [(0, .ref (ad 0)), (1, .int x1), (2, .int x2), (3, .int x3)] → W p l e rmX10_heldOf s m args below meth c H locs 0 0 (MQ below (gQi D (mCell ad cyI cyO) ad 16 s.heap.size Φ) args s 0 0 (gA ad 16 s.heap.size)) (F0 m 4 ls [])) {x1 : Int32} {x3 : Int32} {z0 : Int32} {σ : St} {H : Heap} {locs : List Loc} {ls : Array Slot} (h : wbX10_heldOf_47 Φ k_4 x1 x3 z0 σ) (wd : gWd D (tyL cyI cyO) (mCell ad cyI cyO) ad 16 s H locs σ) (hl : lv_has ls 4 [(0, .ref (ad 0)), (1, .int x1), (3, .int x3)]) : W p l e rmX10_heldOf s m args below meth c H locs 0 0 (MQ below (gQi D (mCell ad cyI cyO) ad 16 s.heap.size Φ) args s 0 0 (gA ad 16 s.heap.size)) (F0 m 47 ls [.int z0]) := by
  obtain ⟨hx, hb, hr, hml, hown, hts, hlk⟩ := id C
  unfold wbX10_heldOf_47 at h
  refine lv_iconst (v := (0 : Int32)) hx hb dX10_heldOf_47 (by decide) ?_
  exact blX10_heldOf_48 C hk_4 h wd (lv_sub hl [0, 1, 2] rfl)
def wbX10_heldOf_30 (Φ : Int32 → St → Prop) (k_4 : Int32 → Int32 → Int32 → St → Prop) (x1 : Int32) (x3 : Int32) (z0 : Int32) (σ : St) : Prop :=
  (vp_in (((3 : Int32) * x3) + (2 : Int32)) 90 ∧ (((rd σ 11 (((3 : Int32) * x3) + (2 : Int32))) = 0 → wbX10_heldOf_48 Φ k_4 x1 x3 z0 (1 : Int32) σ) ∧ (¬ (rd σ 11 (((3 : Int32) * x3) + (2 : Int32))) = 0 → wbX10_heldOf_47 Φ k_4 x1 x3 z0 σ)))
set_option maxHeartbeats 4000000 in
set_option maxRecDepth 100000 in
theorem blX10_heldOf_30 {p : Program} {l : Launch} {e : Env} {s : State} {m : MethodId} {args : Array Value} {below : List Frame} {meth : Method} {c : Code} (C : Cx p s m args meth c cX10_heldOf 4 (some .int) RX10) {Φ : Int32 → St → Prop} {k_4 : Int32 → Int32 → Int32 → St → Prop} (hk_4 : ∀ (x1 : Int32) (x2 : Int32) (x3 : Int32) (σ : St) (H : Heap) (locs : List Loc) (ls : Array Slot), k_4 x1 x2 x3 σ → gWd D (tyL cyI cyO) (mCell ad cyI cyO) ad 16 s H locs σ → lv_has ls 4 [(0, .ref (ad 0)), (1, .int x1), (2, .int x2), (3, .int x3)] → W p l e rmX10_heldOf s m args below meth c H locs 0 0 (MQ below (gQi D (mCell ad cyI cyO) ad 16 s.heap.size Φ) args s 0 0 (gA ad 16 s.heap.size)) (F0 m 4 ls [])) {x1 : Int32} {x3 : Int32} {z0 : Int32} {σ : St} {H : Heap} {locs : List Loc} {ls : Array Slot} (h : wbX10_heldOf_30 Φ k_4 x1 x3 z0 σ) (wd : gWd D (tyL cyI cyO) (mCell ad cyI cyO) ad 16 s H locs σ) (hl : lv_has ls 4 [(0, .ref (ad 0)), (1, .int x1), (3, .int x3)]) : W p l e rmX10_heldOf s m args below meth c H locs 0 0 (MQ below (gQi D (mCell ad cyI cyO) ad 16 s.heap.size Φ) args s 0 0 (gA ad 16 s.heap.size)) (F0 m 30 ls [.int z0]) := by
  obtain ⟨hx, hb, hr, hml, hown, hts, hlk⟩ := id C
  unfold wbX10_heldOf_30 at h
  refine lv_aload_n hx hb dX10_heldOf_30 rfl (lv_at hl 0 rfl) ?_
  refine getF C wd (k := 0) (Cn := RX10) (T := TX10) (N := 26) (v := .ref (ad 11)) (by decide) mc_X10 rfl 12 (by decide) rfl inX10 tw4_38 dX10_heldOf_31 ?_
  refine lv_iconst (v := (3 : Int32)) hx hb dX10_heldOf_34 (by decide) ?_
  refine lv_iload_n hx hb dX10_heldOf_35 rfl (lv_at hl 2 rfl) ?_
  refine lv_imul hx hb dX10_heldOf_36 ?_
  refine lv_iconst (v := (2 : Int32)) hx hb dX10_heldOf_37 (by decide) ?_
  refine lv_iadd hx hb dX10_heldOf_38 ?_
  obtain ⟨hi1, h⟩ := h
  refine ldI C wd (k := 11) (N := 90) (by decide) mc_A11 hi1 dX10_heldOf_39 ?_
  refine lv_if_ne (tgt := 47) hx hb dX10_heldOf_40 (by decide) (fun c2 => ?_) (fun c2 => ?_)
  · have h := h.2 c2
    exact blX10_heldOf_47 C hk_4 h wd (lv_sub hl [0, 1, 2] rfl)
  · have h := h.1 c2
    refine lv_iconst (v := (1 : Int32)) hx hb dX10_heldOf_43 (by decide) ?_
    refine lv_goto (tgt := 48) hx hb dX10_heldOf_44 (by decide) ?_
    exact blX10_heldOf_48 C hk_4 h wd (lv_sub hl [0, 1, 2] rfl)
def wlX10_heldOf_4_body (Φ : Int32 → St → Prop) (k_4 : Int32 → Int32 → Int32 → St → Prop) (x1 : Int32) (x2 : Int32) (x3 : Int32) (σ : St) : Prop :=
  (((σ.1 13) ≤ x3 → Φ x2 σ) ∧ (¬ (σ.1 13) ≤ x3 → ((x1 = (-1 : Int32) → wbX10_heldOf_30 Φ k_4 x1 x3 x2 σ) ∧ (¬ x1 = (-1 : Int32) → (vp_in ((3 : Int32) * x3) 90 ∧ (((rd σ 11 ((3 : Int32) * x3)) = x1 → wbX10_heldOf_30 Φ k_4 x1 x3 x2 σ) ∧ (¬ (rd σ 11 ((3 : Int32) * x3)) = x1 → wbX10_heldOf_47 Φ k_4 x1 x3 x2 σ)))))))
def wlX10_heldOf_4 (Φ : Int32 → St → Prop) : Nat → Int32 → Int32 → Int32 → St → Prop
  | 0 => fun _ _ _ _ => False
  | N + 1 => fun x1 x2 x3 σ => wlX10_heldOf_4_body Φ (wlX10_heldOf_4 Φ N) x1 x2 x3 σ
set_option maxHeartbeats 4000000 in
set_option maxRecDepth 100000 in
theorem llX10_heldOf_4 {p : Program} {l : Launch} {e : Env} {s : State} {m : MethodId} {args : Array Value} {below : List Frame} {meth : Method} {c : Code} (C : Cx p s m args meth c cX10_heldOf 4 (some .int) RX10) {Φ : Int32 → St → Prop} : ∀ (N : Nat) (x1 : Int32) (x2 : Int32) (x3 : Int32) (σ : St) (H : Heap) (locs : List Loc) (ls : Array Slot), wlX10_heldOf_4 Φ N x1 x2 x3 σ → gWd D (tyL cyI cyO) (mCell ad cyI cyO) ad 16 s H locs σ → lv_has ls 4 [(0, .ref (ad 0)), (1, .int x1), (2, .int x2), (3, .int x3)] → W p l e rmX10_heldOf s m args below meth c H locs 0 0 (MQ below (gQi D (mCell ad cyI cyO) ad 16 s.heap.size Φ) args s 0 0 (gA ad 16 s.heap.size)) (F0 m 4 ls []) := by
  obtain ⟨hx, hb, hr, hml, hown, hts, hlk⟩ := id C
  intro N
  induction N with
  | zero =>
    intro x1 x2 x3 σ H locs ls h
    exact False.elim h
  | succ N ih =>
    intro x1 x2 x3 σ H locs ls h wd hl
    have h : wlX10_heldOf_4_body Φ (wlX10_heldOf_4 Φ N) x1 x2 x3 σ := h
    have hk_4 := ih
    unfold wlX10_heldOf_4_body at h
    refine lv_iload_n hx hb dX10_heldOf_4 rfl (lv_at hl 3 rfl) ?_
    refine lv_aload_n hx hb dX10_heldOf_5 rfl (lv_at hl 0 rfl) ?_
    refine getF C wd (k := 0) (Cn := RX10) (T := TX10) (N := 26) (v := .int (σ.1 13)) (by decide) mc_X10 rfl 13 (by decide) rfl inX10 tw4_39 dX10_heldOf_6 ?_
    refine lv_icmp_ge (tgt := 56) hx hb dX10_heldOf_9 (by decide) (fun c1 => ?_) (fun c1 => ?_)
    · have h := h.1 c1
      refine lv_iload_n hx hb dX10_heldOf_56 rfl (lv_at hl 2 rfl) ?_
      exact retI C wd h dX10_heldOf_57
    · have h := h.2 c1
      refine lv_iload_n hx hb dX10_heldOf_12 rfl (lv_at hl 2 rfl) ?_
      refine lv_iload_n hx hb dX10_heldOf_13 rfl (lv_at hl 1 rfl) ?_
      refine lv_iconst (v := (-1 : Int32)) hx hb dX10_heldOf_14 (by decide) ?_
      refine lv_icmp_eq (tgt := 30) hx hb dX10_heldOf_15 (by decide) (fun c2 => ?_) (fun c2 => ?_)
      · have h := h.1 c2
        exact blX10_heldOf_30 C hk_4 h wd (lv_sub hl [0, 1, 3] rfl)
      · have h := h.2 c2
        refine lv_aload_n hx hb dX10_heldOf_18 rfl (lv_at hl 0 rfl) ?_
        refine getF C wd (k := 0) (Cn := RX10) (T := TX10) (N := 26) (v := .ref (ad 11)) (by decide) mc_X10 rfl 12 (by decide) rfl inX10 tw4_38 dX10_heldOf_19 ?_
        refine lv_iconst (v := (3 : Int32)) hx hb dX10_heldOf_22 (by decide) ?_
        refine lv_iload_n hx hb dX10_heldOf_23 rfl (lv_at hl 3 rfl) ?_
        refine lv_imul hx hb dX10_heldOf_24 ?_
        obtain ⟨hi3, h⟩ := h
        refine ldI C wd (k := 11) (N := 90) (by decide) mc_A11 hi3 dX10_heldOf_25 ?_
        refine lv_iload_n hx hb dX10_heldOf_26 rfl (lv_at hl 1 rfl) ?_
        refine lv_icmp_ne (tgt := 47) hx hb dX10_heldOf_27 (by decide) (fun c4 => ?_) (fun c4 => ?_)
        · have h := h.2 c4
          exact blX10_heldOf_47 C hk_4 h wd (lv_sub hl [0, 1, 3] rfl)
        · have h := h.1 c4
          exact blX10_heldOf_30 C hk_4 h wd (lv_sub hl [0, 1, 3] rfl)
def wpX10_heldOf (x1 : Int32) (σ : St) (Φ : Int32 → St → Prop) : Prop :=
  (∃ N, wlX10_heldOf_4 Φ N x1 (0 : Int32) (0 : Int32) σ)
set_option maxHeartbeats 4000000 in
set_option maxRecDepth 100000 in
theorem cmX10_heldOf {D : va_G} {cyI cyO : ClassId} {ad : Nat → Nat} {l : Launch} {x1 : Int32} {σ : St} {sz : Nat} {Φ : Int32 → St → Prop} (h : wpX10_heldOf x1 σ Φ) : gMet D (tyL cyI cyO) (mCell ad cyI cyO) ad 16 l yX10_heldOf cX10_heldOf 4 (some .int) rmX10_heldOf [.ref (ad 0), .int x1] σ sz (gQi D (mCell ad cyI cyO) ad 16 sz Φ) := by
  refine gMet.of (by decide) (Nat.le_of_ble_eq_true rfl) ?_
  intro p e s m below meth c ls hsz C hl wd
  subst hsz
  have C : Cx p s m _ meth c cX10_heldOf 4 (some .int) RX10 := C
  obtain ⟨hx, hb, hr, hml, hown, hts, hlk⟩ := id C
  have hl : lv_has ls 4 [(0, .ref (ad 0)), (1, .int x1)] := hl
  unfold wpX10_heldOf at h
  refine lv_iconst (v := (0 : Int32)) hx hb dX10_heldOf_0 (by decide) ?_
  refine lv_istore_n (lv' := [(2, .int (0 : Int32)), (0, .ref (ad 0)), (1, .int x1)]) hx hb dX10_heldOf_1 rfl hl (by decide) rfl (fun ls hl => ?_)
  refine lv_iconst (v := (0 : Int32)) hx hb dX10_heldOf_2 (by decide) ?_
  refine lv_istore_n (lv' := [(3, .int (0 : Int32)), (2, .int (0 : Int32)), (0, .ref (ad 0)), (1, .int x1)]) hx hb dX10_heldOf_3 rfl hl (by decide) rfl (fun ls hl => ?_)
  obtain ⟨N, h⟩ := h
  exact llX10_heldOf_4 C N _ _ _ _ _ _ _ h wd (lv_sub hl [2, 3, 1, 0] rfl)
abbrev rmX10_saysNow : Room := rmOf 1 23
def wpX10_saysNow (x1 : Int32) (σ : St) (Φ : Int32 → St → Prop) : Prop :=
  (((σ.1 13) = (30 : Int32) → Φ (-4 : Int32) σ) ∧ (¬ (σ.1 13) = (30 : Int32) → (vp_in ((3 : Int32) * (σ.1 13)) 90 ∧ ∀ t3 : St, t3 = wr σ 11 ((3 : Int32) * (σ.1 13)) x1 → (vp_in x1 5 ∧ (vp_in (((3 : Int32) * (t3.1 13)) + (1 : Int32)) 90 ∧ ∀ t6 : St, t6 = wr t3 11 (((3 : Int32) * (t3.1 13)) + (1 : Int32)) (rd t3 2 x1) → (vp_in (((3 : Int32) * (t6.1 13)) + (2 : Int32)) 90 ∧ ∀ t8 : St, t8 = wr t6 11 (((3 : Int32) * (t6.1 13)) + (2 : Int32)) (0 : Int32) → (∀ t9 : St, t9 = setI t8 13 ((t8.1 13) + (1 : Int32)) → wpX10_heldOf (-1 : Int32) t9 (fun r11 t10 => Φ r11 t10))))))))
set_option maxHeartbeats 4000000 in
set_option maxRecDepth 100000 in
theorem cmX10_saysNow {D : va_G} {cyI cyO : ClassId} {ad : Nat → Nat} {l : Launch} {x1 : Int32} {σ : St} {sz : Nat} {Φ : Int32 → St → Prop} (h : wpX10_saysNow x1 σ Φ) : gMet D (tyL cyI cyO) (mCell ad cyI cyO) ad 16 l yX10_saysNow cX10_saysNow 2 (some .int) rmX10_saysNow [.ref (ad 0), .int x1] σ sz (gQi D (mCell ad cyI cyO) ad 16 sz Φ) := by
  refine gMet.of (by decide) (Nat.le_of_ble_eq_true rfl) ?_
  intro p e s m below meth c ls hsz C hl wd
  subst hsz
  have C : Cx p s m _ meth c cX10_saysNow 2 (some .int) RX10 := C
  obtain ⟨hx, hb, hr, hml, hown, hts, hlk⟩ := id C
  have hl : lv_has ls 2 [(0, .ref (ad 0)), (1, .int x1)] := hl
  unfold wpX10_saysNow at h
  refine lv_aload_n hx hb dX10_saysNow_0 rfl (lv_at hl 0 rfl) ?_
  refine getF C wd (k := 0) (Cn := RX10) (T := TX10) (N := 26) (v := .int (σ.1 13)) (by decide) mc_X10 rfl 13 (by decide) rfl inX10 tw4_39 dX10_saysNow_1 ?_
  refine lv_bipush (v := (30 : Int32)) hx hb dX10_saysNow_4 (by decide) ?_
  refine lv_icmp_ne (tgt := 12) hx hb dX10_saysNow_6 (by decide) (fun c1 => ?_) (fun c1 => ?_)
  · have h := h.2 c1
    refine lv_aload_n hx hb dX10_saysNow_12 rfl (lv_at hl 0 rfl) ?_
    refine getF C wd (k := 0) (Cn := RX10) (T := TX10) (N := 26) (v := .ref (ad 11)) (by decide) mc_X10 rfl 12 (by decide) rfl inX10 tw4_38 dX10_saysNow_13 ?_
    refine lv_iconst (v := (3 : Int32)) hx hb dX10_saysNow_16 (by decide) ?_
    refine lv_aload_n hx hb dX10_saysNow_17 rfl (lv_at hl 0 rfl) ?_
    refine getF C wd (k := 0) (Cn := RX10) (T := TX10) (N := 26) (v := .int (σ.1 13)) (by decide) mc_X10 rfl 13 (by decide) rfl inX10 tw4_39 dX10_saysNow_18 ?_
    refine lv_imul hx hb dX10_saysNow_21 ?_
    refine lv_iload_n hx hb dX10_saysNow_22 rfl (lv_at hl 1 rfl) ?_
    obtain ⟨hi2, h⟩ := h
    refine stI C wd (k := 11) (N := 90) (by decide) mc_A11 ms_A11 hi2 dX10_saysNow_23 (fun H locs wd => ?_)
    obtain ⟨t3, et3⟩ : ∃ z : St, z = wr σ 11 ((3 : Int32) * (σ.1 13)) x1 := ⟨_, rfl⟩
    rw [← et3] at wd
    have h := h t3 et3
    refine lv_aload_n hx hb dX10_saysNow_24 rfl (lv_at hl 0 rfl) ?_
    refine getF C wd (k := 0) (Cn := RX10) (T := TX10) (N := 26) (v := .ref (ad 11)) (by decide) mc_X10 rfl 12 (by decide) rfl inX10 tw4_38 dX10_saysNow_25 ?_
    refine lv_iconst (v := (3 : Int32)) hx hb dX10_saysNow_28 (by decide) ?_
    refine lv_aload_n hx hb dX10_saysNow_29 rfl (lv_at hl 0 rfl) ?_
    refine getF C wd (k := 0) (Cn := RX10) (T := TX10) (N := 26) (v := .int (t3.1 13)) (by decide) mc_X10 rfl 13 (by decide) rfl inX10 tw4_39 dX10_saysNow_30 ?_
    refine lv_imul hx hb dX10_saysNow_33 ?_
    refine lv_iconst (v := (1 : Int32)) hx hb dX10_saysNow_34 (by decide) ?_
    refine lv_iadd hx hb dX10_saysNow_35 ?_
    refine lv_aload_n hx hb dX10_saysNow_36 rfl (lv_at hl 0 rfl) ?_
    refine getF C wd (k := 0) (Cn := RX10) (T := TX10) (N := 26) (v := .ref (ad 2)) (by decide) mc_X10 rfl 2 (by decide) rfl inX10 tw4_28 dX10_saysNow_37 ?_
    refine lv_iload_n hx hb dX10_saysNow_40 rfl (lv_at hl 1 rfl) ?_
    obtain ⟨hi4, h⟩ := h
    refine ldI C wd (k := 2) (N := 5) (by decide) mc_A2 hi4 dX10_saysNow_41 ?_
    obtain ⟨hi5, h⟩ := h
    refine stI C wd (k := 11) (N := 90) (by decide) mc_A11 ms_A11 hi5 dX10_saysNow_42 (fun H locs wd => ?_)
    obtain ⟨t6, et6⟩ : ∃ z : St, z = wr t3 11 (((3 : Int32) * (t3.1 13)) + (1 : Int32)) (rd t3 2 x1) := ⟨_, rfl⟩
    rw [← et6] at wd
    have h := h t6 et6
    refine lv_aload_n hx hb dX10_saysNow_43 rfl (lv_at hl 0 rfl) ?_
    refine getF C wd (k := 0) (Cn := RX10) (T := TX10) (N := 26) (v := .ref (ad 11)) (by decide) mc_X10 rfl 12 (by decide) rfl inX10 tw4_38 dX10_saysNow_44 ?_
    refine lv_iconst (v := (3 : Int32)) hx hb dX10_saysNow_47 (by decide) ?_
    refine lv_aload_n hx hb dX10_saysNow_48 rfl (lv_at hl 0 rfl) ?_
    refine getF C wd (k := 0) (Cn := RX10) (T := TX10) (N := 26) (v := .int (t6.1 13)) (by decide) mc_X10 rfl 13 (by decide) rfl inX10 tw4_39 dX10_saysNow_49 ?_
    refine lv_imul hx hb dX10_saysNow_52 ?_
    refine lv_iconst (v := (2 : Int32)) hx hb dX10_saysNow_53 (by decide) ?_
    refine lv_iadd hx hb dX10_saysNow_54 ?_
    refine lv_iconst (v := (0 : Int32)) hx hb dX10_saysNow_55 (by decide) ?_
    obtain ⟨hi7, h⟩ := h
    refine stI C wd (k := 11) (N := 90) (by decide) mc_A11 ms_A11 hi7 dX10_saysNow_56 (fun H locs wd => ?_)
    obtain ⟨t8, et8⟩ : ∃ z : St, z = wr t6 11 (((3 : Int32) * (t6.1 13)) + (2 : Int32)) (0 : Int32) := ⟨_, rfl⟩
    rw [← et8] at wd
    have h := h t8 et8
    refine lv_aload_n hx hb dX10_saysNow_57 rfl (lv_at hl 0 rfl) ?_
    refine lv_dup hx hb dX10_saysNow_58 rfl ?_
    refine getF C wd (k := 0) (Cn := RX10) (T := TX10) (N := 26) (v := .int (t8.1 13)) (by decide) mc_X10 rfl 13 (by decide) rfl inX10 tw4_39 dX10_saysNow_59 ?_
    refine lv_iconst (v := (1 : Int32)) hx hb dX10_saysNow_62 (by decide) ?_
    refine lv_iadd hx hb dX10_saysNow_63 ?_
    refine putF C wd (k := 0) (Cn := RX10) (T := TX10) (N := 26) (σ' := setI t8 13 ((t8.1 13) + (1 : Int32))) (by decide) mc_X10 rfl tyX10_ok nmX10 13 (by decide) rfl (by decide +kernel) (Nat.le_of_ble_eq_true rfl) inX10 tw4_39 ms_X10_sayingsMany dX10_saysNow_64 (fun H locs wd => ?_)
    obtain ⟨t9, et9⟩ : ∃ z : St, z = setI t8 13 ((t8.1 13) + (1 : Int32)) := ⟨_, rfl⟩
    rw [← et9] at wd
    have h := h t9 et9
    refine lv_aload_n hx hb dX10_saysNow_67 rfl (lv_at hl 0 rfl) ?_
    refine lv_iconst (v := (-1 : Int32)) hx hb dX10_saysNow_68 (by decide) ?_
    refine gCi wd (gRunV (y := yX10_heldOf) (k := 0) (As := [.int (-1 : Int32)]) (rest := []) C wd (cmX10_heldOf h) ⟨rfl, rfl⟩ gd_X10_200 nk_X10_heldOf ⟨Nat.le_of_ble_eq_true rfl, Nat.le_of_ble_eq_true rfl⟩ (by decide) mc_X10 rfl rfl hl.1 (Nat.le_of_ble_eq_true rfl) dX10_saysNow_69 rfl) (fun r11 t10 H locs h wd => ?_)
    try dsimp only at h
    exact retI C wd h dX10_saysNow_72
  · have h := h.1 c1
    refine lv_bipush (v := (-4 : Int32)) hx hb dX10_saysNow_9 (by decide) ?_
    exact retI C wd h dX10_saysNow_11
end
