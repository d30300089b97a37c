section
variable {D : va_G} {cyI cyO : ClassId} {ad : Nat → Nat} {n : Nat}
abbrev rmX10_cutsAll : Room := rmOf 5 112
def wlX10_cutsAll_4_body (Φ : Int32 → St → Prop) (k_4 : Int32 → Int32 → St → Prop) (x1 : Int32) (x2 : Int32) (σ : St) : Prop :=
  (((σ.1 0) ≤ x2 → Φ x1 σ) ∧ (¬ (σ.1 0) ≤ x2 → wpX10_cutsNow x2 σ (fun r3 t2 => (∀ y4 : Int32, y4 = x1 + r3 → (∀ y5 : Int32, y5 = x2 + (1 : Int32) → k_4 y4 y5 t2)))))
def wlX10_cutsAll_4 (Φ : Int32 → St → Prop) : Nat → Int32 → Int32 → St → Prop
  | 0 => fun _ _ _ => False
  | N + 1 => fun x1 x2 σ => wlX10_cutsAll_4_body Φ (wlX10_cutsAll_4 Φ N) x1 x2 σ
set_option maxHeartbeats 4000000 in
set_option maxRecDepth 100000 in
theorem llX10_cutsAll_4 {p : Program} {l : Launch} {e : Env} {s : State} {m : MethodId} {args : Array Value} {below : List Frame} {meth : Method} {c : Code} (C : Cx p s m args meth c cX10_cutsAll 3 (some .int) RX10) {Φ : Int32 → St → Prop} : ∀ (N : Nat) (x1 : Int32) (x2 : Int32) (σ : St) (H : Heap) (locs : List Loc) (ls : Array Slot), wlX10_cutsAll_4 Φ N x1 x2 σ → gWd D (tyL cyI cyO) (mCell ad cyI cyO) ad 16 s H locs σ → lv_has ls 3 [(0, .ref (ad 0)), (1, .int x1), (2, .int x2)] → W p l e rmX10_cutsAll s m args below meth c H locs 0 0 (MQ below (gQi D (mCell ad cyI cyO) ad 16 s.heap.size Φ) args s 0 0 (gA ad 16 s.heap.size)) (F0 m 4 ls []) := by
  obtain ⟨hx, hb, hr, hml, hown, hts, hlk⟩ := id C
  intro N
  induction N with
  | zero =>
    intro x1 x2 σ H locs ls h
    exact False.elim h
  | succ N ih =>
    intro x1 x2 σ H locs ls h wd hl
    have h : wlX10_cutsAll_4_body Φ (wlX10_cutsAll_4 Φ N) x1 x2 σ := h
    have hk_4 := ih
    unfold wlX10_cutsAll_4_body at h
    refine lv_iload_n hx hb dX10_cutsAll_4 rfl (lv_at hl 2 rfl) ?_
    refine lv_aload_n hx hb dX10_cutsAll_5 rfl (lv_at hl 0 rfl) ?_
    refine getF C wd (k := 0) (Cn := RX10) (T := TX10) (N := 26) (v := .int (σ.1 0)) (by decide) mc_X10 rfl 0 (by decide) rfl inX10 tw4_26 dX10_cutsAll_6 ?_
    refine lv_icmp_ge (tgt := 26) hx hb dX10_cutsAll_9 (by decide) (fun c1 => ?_) (fun c1 => ?_)
    · have h := h.1 c1
      refine lv_iload_n hx hb dX10_cutsAll_26 rfl (lv_at hl 1 rfl) ?_
      exact retI C wd h dX10_cutsAll_27
    · have h := h.2 c1
      refine lv_iload_n hx hb dX10_cutsAll_12 rfl (lv_at hl 1 rfl) ?_
      refine lv_aload_n hx hb dX10_cutsAll_13 rfl (lv_at hl 0 rfl) ?_
      refine lv_iload_n hx hb dX10_cutsAll_14 rfl (lv_at hl 2 rfl) ?_
      refine gCi wd (gRunV (y := yX10_cutsNow) (k := 0) (As := [.int x2]) (rest := [.int x1]) C wd (cmX10_cutsNow h) ⟨rfl, rfl⟩ gd_X10_225 nk_X10_cutsNow ⟨Nat.le_of_ble_eq_true rfl, Nat.le_of_ble_eq_true rfl⟩ (by decide) mc_X10 rfl rfl hl.1 (Nat.le_of_ble_eq_true rfl) dX10_cutsAll_15 rfl) (fun r3 t2 H locs h wd => ?_)
      try dsimp only at h
      refine lv_iadd hx hb dX10_cutsAll_18 ?_
      refine lv_topi (fun y4 ey4 => ?_)
      have h := h y4 ey4
      refine lv_istore_n (lv' := [(1, .int y4), (0, .ref (ad 0)), (2, .int x2)]) hx hb dX10_cutsAll_19 rfl hl (by decide) rfl (fun ls hl => ?_)
      obtain ⟨y5, ey5⟩ : ∃ y : Int32, y = x2 + (1 : Int32) := ⟨_, rfl⟩
      refine lv_iinc (v := y5) (lv' := [(2, .int y5), (1, .int y4), (0, .ref (ad 0))]) hx hb dX10_cutsAll_20 hl (k := 2) rfl (by rw [ey5]; rfl) (by decide) rfl (fun ls hl => ?_)
      have h := h y5 ey5
      refine lv_goto (tgt := 4) hx hb dX10_cutsAll_23 (by decide) ?_
      exact hk_4 _ _ _ _ _ _ h wd (lv_sub hl [2, 1, 0] rfl)
def wpX10_cutsAll (σ : St) (Φ : Int32 → St → Prop) : Prop :=
  (∃ N, wlX10_cutsAll_4 Φ N (0 : Int32) (0 : Int32) σ)
set_option maxHeartbeats 4000000 in
set_option maxRecDepth 100000 in
theorem cmX10_cutsAll {D : va_G} {cyI cyO : ClassId} {ad : Nat → Nat} {l : Launch} {σ : St} {sz : Nat} {Φ : Int32 → St → Prop} (h : wpX10_cutsAll σ Φ) : gMet D (tyL cyI cyO) (mCell ad cyI cyO) ad 16 l yX10_cutsAll cX10_cutsAll 3 (some .int) rmX10_cutsAll [.ref (ad 0)] σ sz (gQi D (mCell ad cyI cyO) ad 16 sz Φ) := by
  refine gMet.of (by decide) (Nat.le_of_ble_eq_true rfl) ?_
  intro p e s m below meth c ls hsz C hl wd
  subst hsz
  have C : Cx p s m _ meth c cX10_cutsAll 3 (some .int) RX10 := C
  obtain ⟨hx, hb, hr, hml, hown, hts, hlk⟩ := id C
  have hl : lv_has ls 3 [(0, .ref (ad 0))] := hl
  unfold wpX10_cutsAll at h
  refine lv_iconst (v := (0 : Int32)) hx hb dX10_cutsAll_0 (by decide) ?_
  refine lv_istore_n (lv' := [(1, .int (0 : Int32)), (0, .ref (ad 0))]) hx hb dX10_cutsAll_1 rfl hl (by decide) rfl (fun ls hl => ?_)
  refine lv_iconst (v := (0 : Int32)) hx hb dX10_cutsAll_2 (by decide) ?_
  refine lv_istore_n (lv' := [(2, .int (0 : Int32)), (1, .int (0 : Int32)), (0, .ref (ad 0))]) hx hb dX10_cutsAll_3 rfl hl (by decide) rfl (fun ls hl => ?_)
  obtain ⟨N, h⟩ := h
  exact llX10_cutsAll_4 C N _ _ _ _ _ _ h wd (lv_sub hl [2, 1, 0] rfl)
abbrev rmX10_doesOne : Room := rmOf 6 137
def wpX10_doesOne (x1 : Int32) (σ : St) (Φ : Int32 → St → Prop) : Prop :=
  ((x1 = (103 : Int32) → wpX10_gets (σ.1 24) (σ.1 25) σ (fun r3 t2 => ((r3 < (-1 : Int32) → Φ (0 : Int32) t2) ∧ (¬ r3 < (-1 : Int32) → Φ (1 : Int32) t2)))) ∧ (x1 = (108 : Int32) → wpX10_becomesWritten (σ.1 24) (24 : Int32) σ (fun r7 t6 => ((r7 < 0 → Φ (0 : Int32) t6) ∧ (¬ r7 < 0 → Φ (1 : Int32) t6)))) ∧ (x1 = (111 : Int32) → wpX10_saysNow (σ.1 24) σ (fun r11 t10 => ((r11 = (-4 : Int32) → Φ (0 : Int32) t10) ∧ (¬ r11 = (-4 : Int32) → Φ (1 : Int32) t10)))) ∧ (x1 = (114 : Int32) → wpX10_releases σ (fun r15 t14 => ((r15 < 0 → Φ (0 : Int32) t14) ∧ (¬ r15 < 0 → Φ (1 : Int32) t14)))) ∧ (x1 = (115 : Int32) → wpX10_sends (σ.1 24) (σ.1 25) σ (fun r19 t18 => ((r19 = (-4 : Int32) → Φ (0 : Int32) t18) ∧ (¬ r19 = (-4 : Int32) → Φ (1 : Int32) t18)))) ∧ (x1 = (119 : Int32) → wpX10_writesPage (σ.1 24) (σ.1 25) σ (fun r23 t22 => ((r23 = (-4 : Int32) → Φ (0 : Int32) t22) ∧ (¬ r23 = (-4 : Int32) → Φ (1 : Int32) t22)))) ∧ (x1 = (120 : Int32) → wpX10_losesNow (σ.1 24) σ (fun r27 t26 => ((r27 = (-4 : Int32) → Φ (0 : Int32) t26) ∧ (¬ r27 = (-4 : Int32) → Φ (1 : Int32) t26)))) ∧ (¬ x1 = (103 : Int32) → ¬ x1 = (108 : Int32) → ¬ x1 = (111 : Int32) → ¬ x1 = (114 : Int32) → ¬ x1 = (115 : Int32) → ¬ x1 = (119 : Int32) → ¬ x1 = (120 : Int32) → wpX10_cutsAll σ (fun r30 t29 => ((r30 < 0 → Φ (0 : Int32) t29) ∧ (¬ r30 < 0 → Φ (1 : Int32) t29)))))
set_option maxHeartbeats 4000000 in
set_option maxRecDepth 100000 in
theorem cmX10_doesOne {D : va_G} {cyI cyO : ClassId} {ad : Nat → Nat} {l : Launch} {x1 : Int32} {σ : St} {sz : Nat} {Φ : Int32 → St → Prop} (h : wpX10_doesOne x1 σ Φ) : gMet D (tyL cyI cyO) (mCell ad cyI cyO) ad 16 l yX10_doesOne cX10_doesOne 2 (some .boolean) rmX10_doesOne [.ref (ad 0), .int x1] σ sz (gQi D (mCell ad cyI cyO) ad 16 sz Φ) := by
  refine gMet.of (by decide) (Nat.le_of_ble_eq_true rfl) ?_
  intro p e s m below meth c ls hsz C hl wd
  subst hsz
  have C : Cx p s m _ meth c cX10_doesOne 2 (some .boolean) RX10 := C
  obtain ⟨hx, hb, hr, hml, hown, hts, hlk⟩ := id C
  have hl : lv_has ls 2 [(0, .ref (ad 0)), (1, .int x1)] := hl
  unfold wpX10_doesOne at h
  refine lv_iload_n hx hb dX10_doesOne_0 rfl (lv_at hl 1 rfl) ?_
  by_cases c1 : x1 = (103 : Int32)
  · have h := h.1 c1
    refine lv_tableIn (off := 133) (tgt := 134) hx hb dX10_doesOne_1 (by rw [c1]; decide) (by rw [c1]; decide) (by rw [c1]; rfl) (by decide) ?_
    refine lv_aload_n hx hb dX10_doesOne_134 rfl (lv_at hl 0 rfl) ?_
    refine lv_aload_n hx hb dX10_doesOne_135 rfl (lv_at hl 0 rfl) ?_
    refine getF C wd (k := 0) (Cn := RX10) (T := TX10) (N := 26) (v := .int (σ.1 24)) (by decide) mc_X10 rfl 24 (by decide) rfl inX10 tw4_50 dX10_doesOne_136 ?_
    refine lv_aload_n hx hb dX10_doesOne_139 rfl (lv_at hl 0 rfl) ?_
    refine getF C wd (k := 0) (Cn := RX10) (T := TX10) (N := 26) (v := .int (σ.1 25)) (by decide) mc_X10 rfl 25 (by decide) rfl inX10 tw4_51 dX10_doesOne_140 ?_
    refine gCi wd (gRunV (y := yX10_gets) (k := 0) (As := [.int (σ.1 24), .int (σ.1 25)]) (rest := []) C wd (cmX10_gets h) ⟨rfl, rfl⟩ gd_X10_128 nk_X10_gets ⟨Nat.le_of_ble_eq_true rfl, Nat.le_of_ble_eq_true rfl⟩ (by decide) mc_X10 rfl rfl hl.1 (Nat.le_of_ble_eq_true rfl) dX10_doesOne_143 rfl) (fun r3 t2 H locs h wd => ?_)
    try dsimp only at h
    refine lv_iconst (v := (-1 : Int32)) hx hb dX10_doesOne_146 (by decide) ?_
    refine lv_icmp_lt (tgt := 154) hx hb dX10_doesOne_147 (by decide) (fun c4 => ?_) (fun c4 => ?_)
    · have h := h.1 c4
      refine lv_iconst (v := (0 : Int32)) hx hb dX10_doesOne_154 (by decide) ?_
      exact retZ C wd rfl h dX10_doesOne_155
    · have h := h.2 c4
      refine lv_iconst (v := (1 : Int32)) hx hb dX10_doesOne_150 (by decide) ?_
      refine lv_goto (tgt := 155) hx hb dX10_doesOne_151 (by decide) ?_
      exact retZ C wd rfl h dX10_doesOne_155
  · skip
    by_cases c5 : x1 = (108 : Int32)
    · have h := h.2.1 c5
      refine lv_tableIn (off := 155) (tgt := 156) hx hb dX10_doesOne_1 (by rw [c5]; decide) (by rw [c5]; decide) (by rw [c5]; rfl) (by decide) ?_
      refine lv_aload_n hx hb dX10_doesOne_156 rfl (lv_at hl 0 rfl) ?_
      refine lv_aload_n hx hb dX10_doesOne_157 rfl (lv_at hl 0 rfl) ?_
      refine getF C wd (k := 0) (Cn := RX10) (T := TX10) (N := 26) (v := .int (σ.1 24)) (by decide) mc_X10 rfl 24 (by decide) rfl inX10 tw4_50 dX10_doesOne_158 ?_
      refine lv_bipush (v := (24 : Int32)) hx hb dX10_doesOne_161 (by decide) ?_
      refine gCi wd (gRunV (y := yX10_becomesWritten) (k := 0) (As := [.int (σ.1 24), .int (24 : Int32)]) (rest := []) C wd (cmX10_becomesWritten h) ⟨rfl, rfl⟩ gd_X10_133 nk_X10_becomesWritten ⟨Nat.le_of_ble_eq_true rfl, Nat.le_of_ble_eq_true rfl⟩ (by decide) mc_X10 rfl rfl hl.1 (Nat.le_of_ble_eq_true rfl) dX10_doesOne_163 rfl) (fun r7 t6 H locs h wd => ?_)
      try dsimp only at h
      refine lv_if_lt (tgt := 173) hx hb dX10_doesOne_166 (by decide) (fun c8 => ?_) (fun c8 => ?_)
      · have h := h.1 c8
        refine lv_iconst (v := (0 : Int32)) hx hb dX10_doesOne_173 (by decide) ?_
        exact retZ C wd rfl h dX10_doesOne_174
      · have h := h.2 c8
        refine lv_iconst (v := (1 : Int32)) hx hb dX10_doesOne_169 (by decide) ?_
        refine lv_goto (tgt := 174) hx hb dX10_doesOne_170 (by decide) ?_
        exact retZ C wd rfl h dX10_doesOne_174
    · skip
      by_cases c9 : x1 = (111 : Int32)
      · have h := h.2.2.1 c9
        refine lv_tableIn (off := 193) (tgt := 194) hx hb dX10_doesOne_1 (by rw [c9]; decide) (by rw [c9]; decide) (by rw [c9]; rfl) (by decide) ?_
        refine lv_aload_n hx hb dX10_doesOne_194 rfl (lv_at hl 0 rfl) ?_
        refine lv_aload_n hx hb dX10_doesOne_195 rfl (lv_at hl 0 rfl) ?_
        refine getF C wd (k := 0) (Cn := RX10) (T := TX10) (N := 26) (v := .int (σ.1 24)) (by decide) mc_X10 rfl 24 (by decide) rfl inX10 tw4_50 dX10_doesOne_196 ?_
        refine gCi wd (gRunV (y := yX10_saysNow) (k := 0) (As := [.int (σ.1 24)]) (rest := []) C wd (cmX10_saysNow h) ⟨rfl, rfl⟩ gd_X10_188 nk_X10_saysNow ⟨Nat.le_of_ble_eq_true rfl, Nat.le_of_ble_eq_true rfl⟩ (by decide) mc_X10 rfl rfl hl.1 (Nat.le_of_ble_eq_true rfl) dX10_doesOne_199 rfl) (fun r11 t10 H locs h wd => ?_)
        try dsimp only at h
        refine lv_bipush (v := (-4 : Int32)) hx hb dX10_doesOne_202 (by decide) ?_
        refine lv_icmp_eq (tgt := 211) hx hb dX10_doesOne_204 (by decide) (fun c12 => ?_) (fun c12 => ?_)
        · have h := h.1 c12
          refine lv_iconst (v := (0 : Int32)) hx hb dX10_doesOne_211 (by decide) ?_
          exact retZ C wd rfl h dX10_doesOne_212
        · have h := h.2 c12
          refine lv_iconst (v := (1 : Int32)) hx hb dX10_doesOne_207 (by decide) ?_
          refine lv_goto (tgt := 212) hx hb dX10_doesOne_208 (by decide) ?_
          exact retZ C wd rfl h dX10_doesOne_212
      · skip
        by_cases c13 : x1 = (114 : Int32)
        · have h := h.2.2.2.1 c13
          refine lv_tableIn (off := 212) (tgt := 213) hx hb dX10_doesOne_1 (by rw [c13]; decide) (by rw [c13]; decide) (by rw [c13]; rfl) (by decide) ?_
          refine lv_aload_n hx hb dX10_doesOne_213 rfl (lv_at hl 0 rfl) ?_
          refine gCi wd (gRunV (y := yX10_releases) (k := 0) (As := []) (rest := []) C wd (cmX10_releases h) ⟨rfl, rfl⟩ gd_X10_219 nk_X10_releases ⟨Nat.le_of_ble_eq_true rfl, Nat.le_of_ble_eq_true rfl⟩ (by decide) mc_X10 rfl rfl hl.1 (Nat.le_of_ble_eq_true rfl) dX10_doesOne_214 rfl) (fun r15 t14 H locs h wd => ?_)
          try dsimp only at h
          refine lv_if_lt (tgt := 224) hx hb dX10_doesOne_217 (by decide) (fun c16 => ?_) (fun c16 => ?_)
          · have h := h.1 c16
            refine lv_iconst (v := (0 : Int32)) hx hb dX10_doesOne_224 (by decide) ?_
            exact retZ C wd rfl h dX10_doesOne_225
          · have h := h.2 c16
            refine lv_iconst (v := (1 : Int32)) hx hb dX10_doesOne_220 (by decide) ?_
            refine lv_goto (tgt := 225) hx hb dX10_doesOne_221 (by decide) ?_
            exact retZ C wd rfl h dX10_doesOne_225
        · skip
          by_cases c17 : x1 = (115 : Int32)
          · have h := h.2.2.2.2.1 c17
            refine lv_tableIn (off := 110) (tgt := 111) hx hb dX10_doesOne_1 (by rw [c17]; decide) (by rw [c17]; decide) (by rw [c17]; rfl) (by decide) ?_
            refine lv_aload_n hx hb dX10_doesOne_111 rfl (lv_at hl 0 rfl) ?_
            refine lv_aload_n hx hb dX10_doesOne_112 rfl (lv_at hl 0 rfl) ?_
            refine getF C wd (k := 0) (Cn := RX10) (T := TX10) (N := 26) (v := .int (σ.1 24)) (by decide) mc_X10 rfl 24 (by decide) rfl inX10 tw4_50 dX10_doesOne_113 ?_
            refine lv_aload_n hx hb dX10_doesOne_116 rfl (lv_at hl 0 rfl) ?_
            refine getF C wd (k := 0) (Cn := RX10) (T := TX10) (N := 26) (v := .int (σ.1 25)) (by decide) mc_X10 rfl 25 (by decide) rfl inX10 tw4_51 dX10_doesOne_117 ?_
            refine gCi wd (gRunV (y := yX10_sends) (k := 0) (As := [.int (σ.1 24), .int (σ.1 25)]) (rest := []) C wd (cmX10_sends h) ⟨rfl, rfl⟩ gd_X10_111 nk_X10_sends ⟨Nat.le_of_ble_eq_true rfl, Nat.le_of_ble_eq_true rfl⟩ (by decide) mc_X10 rfl rfl hl.1 (Nat.le_of_ble_eq_true rfl) dX10_doesOne_120 rfl) (fun r19 t18 H locs h wd => ?_)
            try dsimp only at h
            refine lv_bipush (v := (-4 : Int32)) hx hb dX10_doesOne_123 (by decide) ?_
            refine lv_icmp_eq (tgt := 132) hx hb dX10_doesOne_125 (by decide) (fun c20 => ?_) (fun c20 => ?_)
            · have h := h.1 c20
              refine lv_iconst (v := (0 : Int32)) hx hb dX10_doesOne_132 (by decide) ?_
              exact retZ C wd rfl h dX10_doesOne_133
            · have h := h.2 c20
              refine lv_iconst (v := (1 : Int32)) hx hb dX10_doesOne_128 (by decide) ?_
              refine lv_goto (tgt := 133) hx hb dX10_doesOne_129 (by decide) ?_
              exact retZ C wd rfl h dX10_doesOne_133
          · skip
            by_cases c21 : x1 = (119 : Int32)
            · have h := h.2.2.2.2.2.1 c21
              refine lv_tableIn (off := 87) (tgt := 88) hx hb dX10_doesOne_1 (by rw [c21]; decide) (by rw [c21]; decide) (by rw [c21]; rfl) (by decide) ?_
              refine lv_aload_n hx hb dX10_doesOne_88 rfl (lv_at hl 0 rfl) ?_
              refine lv_aload_n hx hb dX10_doesOne_89 rfl (lv_at hl 0 rfl) ?_
              refine getF C wd (k := 0) (Cn := RX10) (T := TX10) (N := 26) (v := .int (σ.1 24)) (by decide) mc_X10 rfl 24 (by decide) rfl inX10 tw4_50 dX10_doesOne_90 ?_
              refine lv_aload_n hx hb dX10_doesOne_93 rfl (lv_at hl 0 rfl) ?_
              refine getF C wd (k := 0) (Cn := RX10) (T := TX10) (N := 26) (v := .int (σ.1 25)) (by decide) mc_X10 rfl 25 (by decide) rfl inX10 tw4_51 dX10_doesOne_94 ?_
              refine gCi wd (gRunV (y := yX10_writesPage) (k := 0) (As := [.int (σ.1 24), .int (σ.1 25)]) (rest := []) C wd (cmX10_writesPage h) ⟨rfl, rfl⟩ gd_X10_104 nk_X10_writesPage ⟨Nat.le_of_ble_eq_true rfl, Nat.le_of_ble_eq_true rfl⟩ (by decide) mc_X10 rfl rfl hl.1 (Nat.le_of_ble_eq_true rfl) dX10_doesOne_97 rfl) (fun r23 t22 H locs h wd => ?_)
              try dsimp only at h
              refine lv_bipush (v := (-4 : Int32)) hx hb dX10_doesOne_100 (by decide) ?_
              refine lv_icmp_eq (tgt := 109) hx hb dX10_doesOne_102 (by decide) (fun c24 => ?_) (fun c24 => ?_)
              · have h := h.1 c24
                refine lv_iconst (v := (0 : Int32)) hx hb dX10_doesOne_109 (by decide) ?_
                exact retZ C wd rfl h dX10_doesOne_110
              · have h := h.2 c24
                refine lv_iconst (v := (1 : Int32)) hx hb dX10_doesOne_105 (by decide) ?_
                refine lv_goto (tgt := 110) hx hb dX10_doesOne_106 (by decide) ?_
                exact retZ C wd rfl h dX10_doesOne_110
            · skip
              by_cases c25 : x1 = (120 : Int32)
              · have h := h.2.2.2.2.2.2.1 c25
                refine lv_tableIn (off := 174) (tgt := 175) hx hb dX10_doesOne_1 (by rw [c25]; decide) (by rw [c25]; decide) (by rw [c25]; rfl) (by decide) ?_
                refine lv_aload_n hx hb dX10_doesOne_175 rfl (lv_at hl 0 rfl) ?_
                refine lv_aload_n hx hb dX10_doesOne_176 rfl (lv_at hl 0 rfl) ?_
                refine getF C wd (k := 0) (Cn := RX10) (T := TX10) (N := 26) (v := .int (σ.1 24)) (by decide) mc_X10 rfl 24 (by decide) rfl inX10 tw4_50 dX10_doesOne_177 ?_
                refine gCi wd (gRunV (y := yX10_losesNow) (k := 0) (As := [.int (σ.1 24)]) (rest := []) C wd (cmX10_losesNow h) ⟨rfl, rfl⟩ gd_X10_153 nk_X10_losesNow ⟨Nat.le_of_ble_eq_true rfl, Nat.le_of_ble_eq_true rfl⟩ (by decide) mc_X10 rfl rfl hl.1 (Nat.le_of_ble_eq_true rfl) dX10_doesOne_180 rfl) (fun r27 t26 H locs h wd => ?_)
                try dsimp only at h
                refine lv_bipush (v := (-4 : Int32)) hx hb dX10_doesOne_183 (by decide) ?_
                refine lv_icmp_eq (tgt := 192) hx hb dX10_doesOne_185 (by decide) (fun c28 => ?_) (fun c28 => ?_)
                · have h := h.1 c28
                  refine lv_iconst (v := (0 : Int32)) hx hb dX10_doesOne_192 (by decide) ?_
                  exact retZ C wd rfl h dX10_doesOne_193
                · have h := h.2 c28
                  refine lv_iconst (v := (1 : Int32)) hx hb dX10_doesOne_188 (by decide) ?_
                  refine lv_goto (tgt := 193) hx hb dX10_doesOne_189 (by decide) ?_
                  exact retZ C wd rfl h dX10_doesOne_193
              · skip
                have h := h.2.2.2.2.2.2.2 c1 c5 c9 c13 c17 c21 c25
                refine lv_tableD (tgt := 226) C dX10_doesOne_1 ?_ (by decide) ?_
                · by_cases a1 : x1.toInt < 103
                  · exact Or.inl a1
                  by_cases a2 : 120 < x1.toInt
                  · exact Or.inr (Or.inl a2)
                  have b0 : x1.toInt ≠ 103 := fun q => c1 (Int32.toInt_inj.mp q)
                  have b1 : x1.toInt ≠ 108 := fun q => c5 (Int32.toInt_inj.mp q)
                  have b2 : x1.toInt ≠ 111 := fun q => c9 (Int32.toInt_inj.mp q)
                  have b3 : x1.toInt ≠ 114 := fun q => c13 (Int32.toInt_inj.mp q)
                  have b4 : x1.toInt ≠ 115 := fun q => c17 (Int32.toInt_inj.mp q)
                  have b5 : x1.toInt ≠ 119 := fun q => c21 (Int32.toInt_inj.mp q)
                  have b6 : x1.toInt ≠ 120 := fun q => c25 (Int32.toInt_inj.mp q)
                  have b : x1.toInt = 104 ∨ x1.toInt = 105 ∨ x1.toInt = 106 ∨ x1.toInt = 107 ∨ x1.toInt = 109 ∨ x1.toInt = 110 ∨ x1.toInt = 112 ∨ x1.toInt = 113 ∨ x1.toInt = 116 ∨ x1.toInt = 117 ∨ x1.toInt = 118 := by omega
                  rcases b with b | b | b | b | b | b | b | b | b | b | b <;> rw [b] <;> exact Or.inr (Or.inr rfl)
                · refine lv_aload_n hx hb dX10_doesOne_226 rfl (lv_at hl 0 rfl) ?_
                  refine gCi wd (gRunV (y := yX10_cutsAll) (k := 0) (As := []) (rest := []) C wd (cmX10_cutsAll h) ⟨rfl, rfl⟩ gd_X10_261 nk_X10_cutsAll ⟨Nat.le_of_ble_eq_true rfl, Nat.le_of_ble_eq_true rfl⟩ (by decide) mc_X10 rfl rfl hl.1 (Nat.le_of_ble_eq_true rfl) dX10_doesOne_227 rfl) (fun r30 t29 H locs h wd => ?_)
                  try dsimp only at h
                  refine lv_if_lt (tgt := 237) hx hb dX10_doesOne_230 (by decide) (fun c31 => ?_) (fun c31 => ?_)
                  · have h := h.1 c31
                    refine lv_iconst (v := (0 : Int32)) hx hb dX10_doesOne_237 (by decide) ?_
                    exact retZ C wd rfl h dX10_doesOne_238
                  · have h := h.2 c31
                    refine lv_iconst (v := (1 : Int32)) hx hb dX10_doesOne_233 (by decide) ?_
                    refine lv_goto (tgt := 238) hx hb dX10_doesOne_234 (by decide) ?_
                    exact retZ C wd rfl h dX10_doesOne_238
abbrev rmX10_goesThrough : Room := rmOf 7 158
def wbX10_goesThrough_68 (Φ : Int32 → St → Prop) (k_9 : Int32 → Int32 → Int32 → St → Prop) (x1 : Int32) (x2 : Int32) (z0 : Int32) (σ : St) : Prop :=
  k_9 x1 x2 z0 σ
set_option maxHeartbeats 4000000 in
set_option maxRecDepth 100000 in
theorem blX10_goesThrough_68 {p : Program} {l : Launch} {e : Env} {s : State} {m : MethodId} {args : Array Value} {below : List Frame} {meth : Method} {c : Code} (C : Cx p s m args meth c cX10_goesThrough 5 (some .int) RX10) {Φ : Int32 → St → Prop} {k_9 : Int32 → Int32 → Int32 → St → Prop} (hk_9 : ∀ (x1 : Int32) (x2 : Int32) (x3 : Int32) (σ : St) (H : Heap) (locs : List Loc) (ls : Array Slot), k_9 x1 x2 x3 σ → gWd D (tyL cyI cyO) (mCell ad cyI cyO) ad 16 s H locs σ → lv_has ls 5 [(0, .ref (ad 0)), (1, .int x1), (2, .int x2), (3, .int x3)] → W p l e rmX10_goesThrough s m args below meth c H locs 0 0 (MQ below (gQi D (mCell ad cyI cyO) ad 16 s.heap.size Φ) args s 0 0 (gA ad 16 s.heap.size)) (F0 m 9 ls [])) {x1 : Int32} {x2 : Int32} {z0 : Int32} {σ : St} {H : Heap} {locs : List Loc} {ls : Array Slot} (h : wbX10_goesThrough_68 Φ k_9 x1 x2 z0 σ) (wd : gWd D (tyL cyI cyO) (mCell ad cyI cyO) ad 16 s H locs σ) (hl : lv_has ls 5 [(0, .ref (ad 0)), (1, .int x1), (2, .int x2)]) : W p l e rmX10_goesThrough s m args below meth c H locs 0 0 (MQ below (gQi D (mCell ad cyI cyO) ad 16 s.heap.size Φ) args s 0 0 (gA ad 16 s.heap.size)) (F0 m 68 ls [.int z0]) := by
  obtain ⟨hx, hb, hr, hml, hown, hts, hlk⟩ := id C
  unfold wbX10_goesThrough_68 at h
  refine lv_istore_n (lv' := [(3, .int z0), (0, .ref (ad 0)), (1, .int x1), (2, .int x2)]) hx hb dX10_goesThrough_68 rfl hl (by decide) rfl (fun ls hl => ?_)
  refine lv_goto (tgt := 9) hx hb dX10_goesThrough_69 (by decide) ?_
  exact hk_9 _ _ _ _ _ _ _ h wd (lv_sub hl [1, 2, 3, 0] rfl)
def wbX10_goesThrough_46 (Φ : Int32 → St → Prop) (k_9 : Int32 → Int32 → Int32 → St → Prop) (x1 : Int32) (z0 : Int32) (z1 : Int32) (σ : St) : Prop :=
  (∀ y1 : Int32, y1 = z0 + z1 → wpX10_skip σ (fun t2 => (((t2.1 22) ≤ (t2.1 23) → wbX10_goesThrough_68 Φ k_9 x1 y1 (0 : Int32) t2) ∧ (¬ (t2.1 22) ≤ (t2.1 23) → wbX10_goesThrough_68 Φ k_9 x1 y1 (1 : Int32) t2))))
set_option maxHeartbeats 4000000 in
set_option maxRecDepth 100000 in
theorem blX10_goesThrough_46 {p : Program} {l : Launch} {e : Env} {s : State} {m : MethodId} {args : Array Value} {below : List Frame} {meth : Method} {c : Code} (C : Cx p s m args meth c cX10_goesThrough 5 (some .int) RX10) {Φ : Int32 → St → Prop} {k_9 : Int32 → Int32 → Int32 → St → Prop} (hk_9 : ∀ (x1 : Int32) (x2 : Int32) (x3 : Int32) (σ : St) (H : Heap) (locs : List Loc) (ls : Array Slot), k_9 x1 x2 x3 σ → gWd D (tyL cyI cyO) (mCell ad cyI cyO) ad 16 s H locs σ → lv_has ls 5 [(0, .ref (ad 0)), (1, .int x1), (2, .int x2), (3, .int x3)] → W p l e rmX10_goesThrough s m args below meth c H locs 0 0 (MQ below (gQi D (mCell ad cyI cyO) ad 16 s.heap.size Φ) args s 0 0 (gA ad 16 s.heap.size)) (F0 m 9 ls [])) {x1 : Int32} {z0 : Int32} {z1 : Int32} {σ : St} {H : Heap} {locs : List Loc} {ls : Array Slot} (h : wbX10_goesThrough_46 Φ k_9 x1 z0 z1 σ) (wd : gWd D (tyL cyI cyO) (mCell ad cyI cyO) ad 16 s H locs σ) (hl : lv_has ls 5 [(0, .ref (ad 0)), (1, .int x1)]) : W p l e rmX10_goesThrough s m args below meth c H locs 0 0 (MQ below (gQi D (mCell ad cyI cyO) ad 16 s.heap.size Φ) args s 0 0 (gA ad 16 s.heap.size)) (F0 m 46 ls [.int z1, .int z0]) := by
  obtain ⟨hx, hb, hr, hml, hown, hts, hlk⟩ := id C
  unfold wbX10_goesThrough_46 at h
  refine lv_iadd hx hb dX10_goesThrough_46 ?_
  refine lv_topi (fun y1 ey1 => ?_)
  have h := h y1 ey1
  refine lv_istore_n (lv' := [(2, .int y1), (0, .ref (ad 0)), (1, .int x1)]) hx hb dX10_goesThrough_47 rfl hl (by decide) rfl (fun ls hl => ?_)
  refine lv_aload_n hx hb dX10_goesThrough_48 rfl (lv_at hl 1 rfl) ?_
  refine gCv wd (gRunV (y := yX10_skip) (k := 0) (As := []) (rest := []) C wd (cmX10_skip h) ⟨rfl, rfl⟩ gd_X10_243 nk_X10_skip ⟨Nat.le_of_ble_eq_true rfl, Nat.le_of_ble_eq_true rfl⟩ (by decide) mc_X10 rfl rfl hl.1 (Nat.le_of_ble_eq_true rfl) dX10_goesThrough_49 rfl) (fun t2 H locs h wd => ?_)
  try dsimp only at h
  refine lv_aload_n hx hb dX10_goesThrough_52 rfl (lv_at hl 1 rfl) ?_
  refine getF C wd (k := 0) (Cn := RX10) (T := TX10) (N := 26) (v := .int (t2.1 23)) (by decide) mc_X10 rfl 23 (by decide) rfl inX10 tw4_49 dX10_goesThrough_53 ?_
  refine lv_aload_n hx hb dX10_goesThrough_56 rfl (lv_at hl 1 rfl) ?_
  refine getF C wd (k := 0) (Cn := RX10) (T := TX10) (N := 26) (v := .int (t2.1 22)) (by decide) mc_X10 rfl 22 (by decide) rfl inX10 tw4_48 dX10_goesThrough_57 ?_
  refine lv_icmp_ge (tgt := 67) hx hb dX10_goesThrough_60 (by decide) (fun c3 => ?_) (fun c3 => ?_)
  · have h := h.1 c3
    refine lv_iconst (v := (0 : Int32)) hx hb dX10_goesThrough_67 (by decide) ?_
    exact blX10_goesThrough_68 C hk_9 h wd (lv_sub hl [1, 2, 0] rfl)
  · have h := h.2 c3
    refine lv_iconst (v := (1 : Int32)) hx hb dX10_goesThrough_63 (by decide) ?_
    refine lv_goto (tgt := 68) hx hb dX10_goesThrough_64 (by decide) ?_
    exact blX10_goesThrough_68 C hk_9 h wd (lv_sub hl [1, 2, 0] rfl)
def wbX10_goesThrough_45 (Φ : Int32 → St → Prop) (k_9 : Int32 → Int32 → Int32 → St → Prop) (x1 : Int32) (z0 : Int32) (σ : St) : Prop :=
  wbX10_goesThrough_46 Φ k_9 x1 z0 (0 : Int32) σ
set_option maxHeartbeats 4000000 in
set_option maxRecDepth 100000 in
theorem blX10_goesThrough_45 {p : Program} {l : Launch} {e : Env} {s : State} {m : MethodId} {args : Array Value} {below : List Frame} {meth : Method} {c : Code} (C : Cx p s m args meth c cX10_goesThrough 5 (some .int) RX10) {Φ : Int32 → St → Prop} {k_9 : Int32 → Int32 → Int32 → St → Prop} (hk_9 : ∀ (x1 : Int32) (x2 : Int32) (x3 : Int32) (σ : St) (H : Heap) (locs : List Loc) (ls : Array Slot), k_9 x1 x2 x3 σ → gWd D (tyL cyI cyO) (mCell ad cyI cyO) ad 16 s H locs σ → lv_has ls 5 [(0, .ref (ad 0)), (1, .int x1), (2, .int x2), (3, .int x3)] → W p l e rmX10_goesThrough s m args below meth c H locs 0 0 (MQ below (gQi D (mCell ad cyI cyO) ad 16 s.heap.size Φ) args s 0 0 (gA ad 16 s.heap.size)) (F0 m 9 ls [])) {x1 : Int32} {z0 : Int32} {σ : St} {H : Heap} {locs : List Loc} {ls : Array Slot} (h : wbX10_goesThrough_45 Φ k_9 x1 z0 σ) (wd : gWd D (tyL cyI cyO) (mCell ad cyI cyO) ad 16 s H locs σ) (hl : lv_has ls 5 [(0, .ref (ad 0)), (1, .int x1)]) : W p l e rmX10_goesThrough s m args below meth c H locs 0 0 (MQ below (gQi D (mCell ad cyI cyO) ad 16 s.heap.size Φ) args s 0 0 (gA ad 16 s.heap.size)) (F0 m 45 ls [.int z0]) := by
  obtain ⟨hx, hb, hr, hml, hown, hts, hlk⟩ := id C
  unfold wbX10_goesThrough_45 at h
  refine lv_iconst (v := (0 : Int32)) hx hb dX10_goesThrough_45 (by decide) ?_
  exact blX10_goesThrough_46 C hk_9 h wd (lv_sub hl [0, 1] rfl)
def wlX10_goesThrough_9_body (Φ : Int32 → St → Prop) (k_9 : Int32 → Int32 → Int32 → St → Prop) (x1 : Int32) (x2 : Int32) (x3 : Int32) (σ : St) : Prop :=
  ((x3 = 0 → Φ x2 σ) ∧ (¬ x3 = 0 → wpX10_reads σ (fun r3 t2 => ((r3 = (-1 : Int32) → Φ (-1 : Int32) t2) ∧ (¬ r3 = (-1 : Int32) → ((x1 = 0 → wbX10_goesThrough_45 Φ k_9 x1 x2 t2) ∧ (¬ x1 = 0 → wpX10_doesOne r3 t2 (fun r7 t6 => ((r7 = 0 → wbX10_goesThrough_45 Φ k_9 x1 x2 t6) ∧ (¬ r7 = 0 → wbX10_goesThrough_46 Φ k_9 x1 x2 (1 : Int32) t6))))))))))
def wlX10_goesThrough_9 (Φ : Int32 → St → Prop) : Nat → Int32 → Int32 → Int32 → St → Prop
  | 0 => fun _ _ _ _ => False
  | N + 1 => fun x1 x2 x3 σ => wlX10_goesThrough_9_body Φ (wlX10_goesThrough_9 Φ N) x1 x2 x3 σ
set_option maxHeartbeats 4000000 in
set_option maxRecDepth 100000 in
theorem llX10_goesThrough_9 {p : Program} {l : Launch} {e : Env} {s : State} {m : MethodId} {args : Array Value} {below : List Frame} {meth : Method} {c : Code} (C : Cx p s m args meth c cX10_goesThrough 5 (some .int) RX10) {Φ : Int32 → St → Prop} : ∀ (N : Nat) (x1 : Int32) (x2 : Int32) (x3 : Int32) (σ : St) (H : Heap) (locs : List Loc) (ls : Array Slot), wlX10_goesThrough_9 Φ N x1 x2 x3 σ → gWd D (tyL cyI cyO) (mCell ad cyI cyO) ad 16 s H locs σ → lv_has ls 5 [(0, .ref (ad 0)), (1, .int x1), (2, .int x2), (3, .int x3)] → W p l e rmX10_goesThrough s m args below meth c H locs 0 0 (MQ below (gQi D (mCell ad cyI cyO) ad 16 s.heap.size Φ) args s 0 0 (gA ad 16 s.heap.size)) (F0 m 9 ls []) := by
  obtain ⟨hx, hb, hr, hml, hown, hts, hlk⟩ := id C
  intro N
  induction N with
  | zero =>
    intro x1 x2 x3 σ H locs ls h
    exact False.elim h
  | succ N ih =>
    intro x1 x2 x3 σ H locs ls h wd hl
    have h : wlX10_goesThrough_9_body Φ (wlX10_goesThrough_9 Φ N) x1 x2 x3 σ := h
    have hk_9 := ih
    unfold wlX10_goesThrough_9_body at h
    refine lv_iload_n hx hb dX10_goesThrough_9 rfl (lv_at hl 3 rfl) ?_
    refine lv_if_eq (tgt := 72) hx hb dX10_goesThrough_10 (by decide) (fun c1 => ?_) (fun c1 => ?_)
    · have h := h.1 c1
      refine lv_iload_n hx hb dX10_goesThrough_72 rfl (lv_at hl 2 rfl) ?_
      exact retI C wd h dX10_goesThrough_73
    · have h := h.2 c1
      refine lv_aload_n hx hb dX10_goesThrough_13 rfl (lv_at hl 0 rfl) ?_
      refine gCi wd (gRunV (y := yX10_reads) (k := 0) (As := []) (rest := []) C wd (cmX10_reads h) ⟨rfl, rfl⟩ gd_X10_264 nk_X10_reads ⟨Nat.le_of_ble_eq_true rfl, Nat.le_of_ble_eq_true rfl⟩ (by decide) mc_X10 rfl rfl hl.1 (Nat.le_of_ble_eq_true rfl) dX10_goesThrough_14 rfl) (fun r3 t2 H locs h wd => ?_)
      try dsimp only at h
      refine lv_istore (lv' := [(4, .int r3), (0, .ref (ad 0)), (1, .int x1), (2, .int x2), (3, .int x3)]) hx hb dX10_goesThrough_17 hl (by decide) rfl (fun ls hl => ?_)
      refine lv_iload hx hb dX10_goesThrough_19 (lv_at hl 0 rfl) ?_
      refine lv_iconst (v := (-1 : Int32)) hx hb dX10_goesThrough_21 (by decide) ?_
      refine lv_icmp_ne (tgt := 27) hx hb dX10_goesThrough_22 (by decide) (fun c4 => ?_) (fun c4 => ?_)
      · have h := h.2 c4
        refine lv_iload_n hx hb dX10_goesThrough_27 rfl (lv_at hl 3 rfl) ?_
        refine lv_iload_n hx hb dX10_goesThrough_28 rfl (lv_at hl 2 rfl) ?_
        refine lv_if_eq (tgt := 45) hx hb dX10_goesThrough_29 (by decide) (fun c5 => ?_) (fun c5 => ?_)
        · have h := h.1 c5
          exact blX10_goesThrough_45 C hk_9 h wd (lv_sub hl [1, 2] rfl)
        · have h := h.2 c5
          refine lv_aload_n hx hb dX10_goesThrough_32 rfl (lv_at hl 1 rfl) ?_
          refine lv_iload hx hb dX10_goesThrough_33 (lv_at hl 0 rfl) ?_
          refine gCi wd (gRunV (y := yX10_doesOne) (k := 0) (As := [.int r3]) (rest := [.int x2]) C wd (cmX10_doesOne h) ⟨rfl, rfl⟩ gd_X10_267 nk_X10_doesOne ⟨Nat.le_of_ble_eq_true rfl, Nat.le_of_ble_eq_true rfl⟩ (by decide) mc_X10 rfl rfl hl.1 (Nat.le_of_ble_eq_true rfl) dX10_goesThrough_35 rfl) (fun r7 t6 H locs h wd => ?_)
          try dsimp only at h
          refine lv_if_eq (tgt := 45) hx hb dX10_goesThrough_38 (by decide) (fun c8 => ?_) (fun c8 => ?_)
          · have h := h.1 c8
            exact blX10_goesThrough_45 C hk_9 h wd (lv_sub hl [1, 2] rfl)
          · have h := h.2 c8
            refine lv_iconst (v := (1 : Int32)) hx hb dX10_goesThrough_41 (by decide) ?_
            refine lv_goto (tgt := 46) hx hb dX10_goesThrough_42 (by decide) ?_
            exact blX10_goesThrough_46 C hk_9 h wd (lv_sub hl [1, 2] rfl)
      · have h := h.1 c4
        refine lv_iconst (v := (-1 : Int32)) hx hb dX10_goesThrough_25 (by decide) ?_
        exact retI C wd h dX10_goesThrough_26
def wpX10_goesThrough (x1 : Int32) (σ : St) (Φ : Int32 → St → Prop) : Prop :=
  (∀ t1 : St, t1 = setI σ 23 (0 : Int32) → (∃ N, wlX10_goesThrough_9 Φ N x1 (0 : Int32) (1 : Int32) t1))
set_option maxHeartbeats 4000000 in
set_option maxRecDepth 100000 in
theorem cmX10_goesThrough {D : va_G} {cyI cyO : ClassId} {ad : Nat → Nat} {l : Launch} {x1 : Int32} {σ : St} {sz : Nat} {Φ : Int32 → St → Prop} (h : wpX10_goesThrough x1 σ Φ) : gMet D (tyL cyI cyO) (mCell ad cyI cyO) ad 16 l yX10_goesThrough cX10_goesThrough 5 (some .int) rmX10_goesThrough [.ref (ad 0), .int x1] σ sz (gQi D (mCell ad cyI cyO) ad 16 sz Φ) := by
  refine gMet.of (by decide) (Nat.le_of_ble_eq_true rfl) ?_
  intro p e s m below meth c ls hsz C hl wd
  subst hsz
  have C : Cx p s m _ meth c cX10_goesThrough 5 (some .int) RX10 := C
  obtain ⟨hx, hb, hr, hml, hown, hts, hlk⟩ := id C
  have hl : lv_has ls 5 [(0, .ref (ad 0)), (1, .int x1)] := hl
  unfold wpX10_goesThrough at h
  refine lv_iconst (v := (0 : Int32)) hx hb dX10_goesThrough_0 (by decide) ?_
  refine lv_istore_n (lv' := [(2, .int (0 : Int32)), (0, .ref (ad 0)), (1, .int x1)]) hx hb dX10_goesThrough_1 rfl hl (by decide) rfl (fun ls hl => ?_)
  refine lv_iconst (v := (1 : Int32)) hx hb dX10_goesThrough_2 (by decide) ?_
  refine lv_istore_n (lv' := [(3, .int (1 : Int32)), (2, .int (0 : Int32)), (0, .ref (ad 0)), (1, .int x1)]) hx hb dX10_goesThrough_3 rfl hl (by decide) rfl (fun ls hl => ?_)
  refine lv_aload_n hx hb dX10_goesThrough_4 rfl (lv_at hl 2 rfl) ?_
  refine lv_iconst (v := (0 : Int32)) hx hb dX10_goesThrough_5 (by decide) ?_
  refine putF C wd (k := 0) (Cn := RX10) (T := TX10) (N := 26) (σ' := setI σ 23 (0 : Int32)) (by decide) mc_X10 rfl tyX10_ok nmX10 23 (by decide) rfl (by decide +kernel) (Nat.le_of_ble_eq_true rfl) inX10 tw4_49 ms_X10_place dX10_goesThrough_6 (fun H locs wd => ?_)
  obtain ⟨t1, et1⟩ : ∃ z : St, z = setI σ 23 (0 : Int32) := ⟨_, rfl⟩
  rw [← et1] at wd
  have h := h t1 et1
  obtain ⟨N, h⟩ := h
  exact llX10_goesThrough_9 C N _ _ _ _ _ _ _ h wd (lv_sub hl [2, 3, 1, 0] rfl)
abbrev rmX10_does : Room := rmOf 8 182
def wpX10_does (σ : St) (Φ : Int32 → St → Prop) : Prop :=
  wpX10_goesThrough (0 : Int32) σ (fun r2 t1 => ((r2 = (-1 : Int32) → Φ ((-10 : Int32) - (t1.1 23)) t1) ∧ (¬ r2 = (-1 : Int32) → wpX10_goesThrough (1 : Int32) t1 (fun r5 t4 => Φ r5 t4))))
set_option maxHeartbeats 4000000 in
set_option maxRecDepth 100000 in
theorem cmX10_does {D : va_G} {cyI cyO : ClassId} {ad : Nat → Nat} {l : Launch} {σ : St} {sz : Nat} {Φ : Int32 → St → Prop} (h : wpX10_does σ Φ) : gMet D (tyL cyI cyO) (mCell ad cyI cyO) ad 16 l yX10_does cX10_does 1 (some .int) rmX10_does [.ref (ad 0)] σ sz (gQi D (mCell ad cyI cyO) ad 16 sz Φ) := by
  refine gMet.of (by decide) (Nat.le_of_ble_eq_true rfl) ?_
  intro p e s m below meth c ls hsz C hl wd
  subst hsz
  have C : Cx p s m _ meth c cX10_does 1 (some .int) RX10 := C
  obtain ⟨hx, hb, hr, hml, hown, hts, hlk⟩ := id C
  have hl : lv_has ls 1 [(0, .ref (ad 0))] := hl
  unfold wpX10_does at h
  refine lv_aload_n hx hb dX10_does_0 rfl (lv_at hl 0 rfl) ?_
  refine lv_iconst (v := (0 : Int32)) hx hb dX10_does_1 (by decide) ?_
  refine gCi wd (gRunV (y := yX10_goesThrough) (k := 0) (As := [.int (0 : Int32)]) (rest := []) C wd (cmX10_goesThrough h) ⟨rfl, rfl⟩ gd_X10_270 nk_X10_goesThrough ⟨Nat.le_of_ble_eq_true rfl, Nat.le_of_ble_eq_true rfl⟩ (by decide) mc_X10 rfl rfl hl.1 (Nat.le_of_ble_eq_true rfl) dX10_does_2 rfl) (fun r2 t1 H locs h wd => ?_)
  try dsimp only at h
  refine lv_iconst (v := (-1 : Int32)) hx hb dX10_does_5 (by decide) ?_
  refine lv_icmp_ne (tgt := 19) hx hb dX10_does_6 (by decide) (fun c3 => ?_) (fun c3 => ?_)
  · have h := h.2 c3
    refine lv_aload_n hx hb dX10_does_19 rfl (lv_at hl 0 rfl) ?_
    refine lv_iconst (v := (1 : Int32)) hx hb dX10_does_20 (by decide) ?_
    refine gCi wd (gRunV (y := yX10_goesThrough) (k := 0) (As := [.int (1 : Int32)]) (rest := []) C wd (cmX10_goesThrough h) ⟨rfl, rfl⟩ gd_X10_270 nk_X10_goesThrough ⟨Nat.le_of_ble_eq_true rfl, Nat.le_of_ble_eq_true rfl⟩ (by decide) mc_X10 rfl rfl hl.1 (Nat.le_of_ble_eq_true rfl) dX10_does_21 rfl) (fun r5 t4 H locs h wd => ?_)
    try dsimp only at h
    exact retI C wd h dX10_does_24
  · have h := h.1 c3
    refine lv_bipush (v := (-10 : Int32)) hx hb dX10_does_9 (by decide) ?_
    refine lv_aload_n hx hb dX10_does_11 rfl (lv_at hl 0 rfl) ?_
    refine getF C wd (k := 0) (Cn := RX10) (T := TX10) (N := 26) (v := .int (t1.1 23)) (by decide) mc_X10 rfl 23 (by decide) rfl inX10 tw4_49 dX10_does_12 ?_
    refine lv_isub hx hb dX10_does_15 ?_
    refine lv_goto (tgt := 24) hx hb dX10_does_16 (by decide) ?_
    exact retI C wd h dX10_does_24
abbrev rmX10_toldOf : Room := rmOf 1 23
def wpX10_toldOf (x1 : Int32) (σ : St) (Φ : Int32 → St → Prop) : Prop :=
  ((x1 = (3 : Int32) → Φ (σ.1 22) σ) ∧ (x1 = (4 : Int32) → Φ (σ.1 0) σ) ∧ (x1 = (5 : Int32) → Φ (σ.1 11) σ) ∧ (x1 = (6 : Int32) → Φ (σ.1 13) σ) ∧ (x1 = (7 : Int32) → wpX10_heldOf (-1 : Int32) σ (fun r7 t6 => Φ r7 t6)) ∧ (x1 = (8 : Int32) → Φ (σ.1 15) σ) ∧ (x1 = (9 : Int32) → Φ (σ.1 16) σ) ∧ (¬ x1 = (3 : Int32) → ¬ x1 = (4 : Int32) → ¬ x1 = (5 : Int32) → ¬ x1 = (6 : Int32) → ¬ x1 = (7 : Int32) → ¬ x1 = (8 : Int32) → ¬ x1 = (9 : Int32) → (vp_in x1 3 ∧ Φ (rd σ 13 x1) σ)))
set_option maxHeartbeats 4000000 in
set_option maxRecDepth 100000 in
theorem cmX10_toldOf {D : va_G} {cyI cyO : ClassId} {ad : Nat → Nat} {l : Launch} {x1 : Int32} {σ : St} {sz : Nat} {Φ : Int32 → St → Prop} (h : wpX10_toldOf x1 σ Φ) : gMet D (tyL cyI cyO) (mCell ad cyI cyO) ad 16 l yX10_toldOf cX10_toldOf 2 (some .int) rmX10_toldOf [.ref (ad 0), .int x1] σ sz (gQi D (mCell ad cyI cyO) ad 16 sz Φ) := by
  refine gMet.of (by decide) (Nat.le_of_ble_eq_true rfl) ?_
  intro p e s m below meth c ls hsz C hl wd
  subst hsz
  have C : Cx p s m _ meth c cX10_toldOf 2 (some .int) RX10 := C
  obtain ⟨hx, hb, hr, hml, hown, hts, hlk⟩ := id C
  have hl : lv_has ls 2 [(0, .ref (ad 0)), (1, .int x1)] := hl
  unfold wpX10_toldOf at h
  refine lv_iload_n hx hb dX10_toldOf_0 rfl (lv_at hl 1 rfl) ?_
  by_cases c1 : x1 = (3 : Int32)
  · have h := h.1 c1
    refine lv_tableIn (off := 43) (tgt := 44) hx hb dX10_toldOf_1 (by rw [c1]; decide) (by rw [c1]; decide) (by rw [c1]; rfl) (by decide) ?_
    refine lv_aload_n hx hb dX10_toldOf_44 rfl (lv_at hl 0 rfl) ?_
    refine getF C wd (k := 0) (Cn := RX10) (T := TX10) (N := 26) (v := .int (σ.1 22)) (by decide) mc_X10 rfl 22 (by decide) rfl inX10 tw4_48 dX10_toldOf_45 ?_
    exact retI C wd h dX10_toldOf_48
  · skip
    by_cases c2 : x1 = (4 : Int32)
    · have h := h.2.1 c2
      refine lv_tableIn (off := 48) (tgt := 49) hx hb dX10_toldOf_1 (by rw [c2]; decide) (by rw [c2]; decide) (by rw [c2]; rfl) (by decide) ?_
      refine lv_aload_n hx hb dX10_toldOf_49 rfl (lv_at hl 0 rfl) ?_
      refine getF C wd (k := 0) (Cn := RX10) (T := TX10) (N := 26) (v := .int (σ.1 0)) (by decide) mc_X10 rfl 0 (by decide) rfl inX10 tw4_26 dX10_toldOf_50 ?_
      exact retI C wd h dX10_toldOf_53
    · skip
      by_cases c3 : x1 = (5 : Int32)
      · have h := h.2.2.1 c3
        refine lv_tableIn (off := 53) (tgt := 54) hx hb dX10_toldOf_1 (by rw [c3]; decide) (by rw [c3]; decide) (by rw [c3]; rfl) (by decide) ?_
        refine lv_aload_n hx hb dX10_toldOf_54 rfl (lv_at hl 0 rfl) ?_
        refine getF C wd (k := 0) (Cn := RX10) (T := TX10) (N := 26) (v := .int (σ.1 11)) (by decide) mc_X10 rfl 11 (by decide) rfl inX10 tw4_37 dX10_toldOf_55 ?_
        exact retI C wd h dX10_toldOf_58
      · skip
        by_cases c4 : x1 = (6 : Int32)
        · have h := h.2.2.2.1 c4
          refine lv_tableIn (off := 58) (tgt := 59) hx hb dX10_toldOf_1 (by rw [c4]; decide) (by rw [c4]; decide) (by rw [c4]; rfl) (by decide) ?_
          refine lv_aload_n hx hb dX10_toldOf_59 rfl (lv_at hl 0 rfl) ?_
          refine getF C wd (k := 0) (Cn := RX10) (T := TX10) (N := 26) (v := .int (σ.1 13)) (by decide) mc_X10 rfl 13 (by decide) rfl inX10 tw4_39 dX10_toldOf_60 ?_
          exact retI C wd h dX10_toldOf_63
        · skip
          by_cases c5 : x1 = (7 : Int32)
          · have h := h.2.2.2.2.1 c5
            refine lv_tableIn (off := 63) (tgt := 64) hx hb dX10_toldOf_1 (by rw [c5]; decide) (by rw [c5]; decide) (by rw [c5]; rfl) (by decide) ?_
            refine lv_aload_n hx hb dX10_toldOf_64 rfl (lv_at hl 0 rfl) ?_
            refine lv_iconst (v := (-1 : Int32)) hx hb dX10_toldOf_65 (by decide) ?_
            refine gCi wd (gRunV (y := yX10_heldOf) (k := 0) (As := [.int (-1 : Int32)]) (rest := []) C wd (cmX10_heldOf h) ⟨rfl, rfl⟩ gd_X10_200 nk_X10_heldOf ⟨Nat.le_of_ble_eq_true rfl, Nat.le_of_ble_eq_true rfl⟩ (by decide) mc_X10 rfl rfl hl.1 (Nat.le_of_ble_eq_true rfl) dX10_toldOf_66 rfl) (fun r7 t6 H locs h wd => ?_)
            try dsimp only at h
            exact retI C wd h dX10_toldOf_69
          · skip
            by_cases c8 : x1 = (8 : Int32)
            · have h := h.2.2.2.2.2.1 c8
              refine lv_tableIn (off := 69) (tgt := 70) hx hb dX10_toldOf_1 (by rw [c8]; decide) (by rw [c8]; decide) (by rw [c8]; rfl) (by decide) ?_
              refine lv_aload_n hx hb dX10_toldOf_70 rfl (lv_at hl 0 rfl) ?_
              refine getF C wd (k := 0) (Cn := RX10) (T := TX10) (N := 26) (v := .int (σ.1 15)) (by decide) mc_X10 rfl 15 (by decide) rfl inX10 tw4_41 dX10_toldOf_71 ?_
              exact retI C wd h dX10_toldOf_74
            · skip
              by_cases c9 : x1 = (9 : Int32)
              · have h := h.2.2.2.2.2.2.1 c9
                refine lv_tableIn (off := 74) (tgt := 75) hx hb dX10_toldOf_1 (by rw [c9]; decide) (by rw [c9]; decide) (by rw [c9]; rfl) (by decide) ?_
                refine lv_aload_n hx hb dX10_toldOf_75 rfl (lv_at hl 0 rfl) ?_
                refine getF C wd (k := 0) (Cn := RX10) (T := TX10) (N := 26) (v := .int (σ.1 16)) (by decide) mc_X10 rfl 16 (by decide) rfl inX10 tw4_42 dX10_toldOf_76 ?_
                exact retI C wd h dX10_toldOf_79
              · skip
                have h := h.2.2.2.2.2.2.2 c1 c2 c3 c4 c5 c8 c9
                refine lv_tableD (tgt := 80) C dX10_toldOf_1 ?_ (by decide) ?_
                · by_cases a1 : x1.toInt < 3
                  · exact Or.inl a1
                  by_cases a2 : 9 < x1.toInt
                  · exact Or.inr (Or.inl a2)
                  have b0 : x1.toInt ≠ 3 := fun q => c1 (Int32.toInt_inj.mp q)
                  have b1 : x1.toInt ≠ 4 := fun q => c2 (Int32.toInt_inj.mp q)
                  have b2 : x1.toInt ≠ 5 := fun q => c3 (Int32.toInt_inj.mp q)
                  have b3 : x1.toInt ≠ 6 := fun q => c4 (Int32.toInt_inj.mp q)
                  have b4 : x1.toInt ≠ 7 := fun q => c5 (Int32.toInt_inj.mp q)
                  have b5 : x1.toInt ≠ 8 := fun q => c8 (Int32.toInt_inj.mp q)
                  have b6 : x1.toInt ≠ 9 := fun q => c9 (Int32.toInt_inj.mp q)
                  exact absurd a1 (by omega)
                · refine lv_aload_n hx hb dX10_toldOf_80 rfl (lv_at hl 0 rfl) ?_
                  refine getF C wd (k := 0) (Cn := RX10) (T := TX10) (N := 26) (v := .ref (ad 13)) (by decide) mc_X10 rfl 17 (by decide) rfl inX10 tw4_43 dX10_toldOf_81 ?_
                  refine lv_iload_n hx hb dX10_toldOf_84 rfl (lv_at hl 1 rfl) ?_
                  obtain ⟨hi10, h⟩ := h
                  refine ldI C wd (k := 13) (N := 3) (by decide) mc_A13 hi10 dX10_toldOf_85 ?_
                  exact retI C wd h dX10_toldOf_86
abbrev rmX10_told : Room := rmOf 2 44
def wpX10_told (x1 : Int32) (σ : St) (Φ : Int32 → St → Prop) : Prop :=
  wpX10_in x1.toInt64 (0 : Int64) (9 : Int64) σ (fun r2 t1 => ((r2 = 0 → wpX10_bad t1 (fun r5 t4 => Φ r5 t4)) ∧ (¬ r2 = 0 → wpX10_toldOf x1 t1 (fun r7 t6 => Φ r7 t6))))
set_option maxHeartbeats 4000000 in
set_option maxRecDepth 100000 in
theorem cmX10_told {D : va_G} {cyI cyO : ClassId} {ad : Nat → Nat} {l : Launch} {x1 : Int32} {σ : St} {sz : Nat} {Φ : Int32 → St → Prop} (h : wpX10_told x1 σ Φ) : gMet D (tyL cyI cyO) (mCell ad cyI cyO) ad 16 l yX10_told cX10_told 2 (some .int) rmX10_told [.ref (ad 0), .int x1] σ sz (gQi D (mCell ad cyI cyO) ad 16 sz Φ) := by
  refine gMet.of (by decide) (Nat.le_of_ble_eq_true rfl) ?_
  intro p e s m below meth c ls hsz C hl wd
  subst hsz
  have C : Cx p s m _ meth c cX10_told 2 (some .int) RX10 := C
  obtain ⟨hx, hb, hr, hml, hown, hts, hlk⟩ := id C
  have hl : lv_has ls 2 [(0, .ref (ad 0)), (1, .int x1)] := hl
  unfold wpX10_told at h
  refine lv_iload_n hx hb dX10_told_0 rfl (lv_at hl 1 rfl) ?_
  refine lv_i2l hx hb dX10_told_1 rfl ?_
  refine lv_lconst (v := (0 : Int64)) hx hb dX10_told_2 (by decide) ?_
  refine lv_ldc2 (v := (9 : Int64)) hx hb hown (hts _ tw4_239) dX10_told_3 ?_
  refine gCi wd (gRunS (y := yX10_in) (As := [.long x1.toInt64, .long (0 : Int64), .long (9 : Int64)]) (rest := []) C wd (cmX10_in h) ⟨rfl, rfl⟩ gd_X10_59 nk_X10_in ⟨Nat.le_of_ble_eq_true rfl, Nat.le_of_ble_eq_true rfl⟩ hl.1 (Nat.le_of_ble_eq_true rfl) dX10_told_6 rfl) (fun r2 t1 H locs h wd => ?_)
  try dsimp only at h
  refine lv_if_eq (tgt := 20) hx hb dX10_told_9 (by decide) (fun c3 => ?_) (fun c3 => ?_)
  · have h := h.1 c3
    refine lv_aload_n hx hb dX10_told_20 rfl (lv_at hl 0 rfl) ?_
    refine gCi wd (gRunV (y := yX10_bad) (k := 0) (As := []) (rest := []) C wd (cmX10_bad h) ⟨rfl, rfl⟩ gd_X10_87 nk_X10_bad ⟨Nat.le_of_ble_eq_true rfl, Nat.le_of_ble_eq_true rfl⟩ (by decide) mc_X10 rfl rfl hl.1 (Nat.le_of_ble_eq_true rfl) dX10_told_21 rfl) (fun r5 t4 H locs h wd => ?_)
    try dsimp only at h
    exact retI C wd h dX10_told_24
  · have h := h.2 c3
    refine lv_aload_n hx hb dX10_told_12 rfl (lv_at hl 0 rfl) ?_
    refine lv_iload_n hx hb dX10_told_13 rfl (lv_at hl 1 rfl) ?_
    refine gCi wd (gRunV (y := yX10_toldOf) (k := 0) (As := [.int x1]) (rest := []) C wd (cmX10_toldOf h) ⟨rfl, rfl⟩ gd_X10_274 nk_X10_toldOf ⟨Nat.le_of_ble_eq_true rfl, Nat.le_of_ble_eq_true rfl⟩ (by decide) mc_X10 rfl rfl hl.1 (Nat.le_of_ble_eq_true rfl) dX10_told_14 rfl) (fun r7 t6 H locs h wd => ?_)
    try dsimp only at h
    refine lv_goto (tgt := 24) hx hb dX10_told_17 (by decide) ?_
    exact retI C wd h dX10_told_24
abbrev rmX10_digest : Room := rmOf 5 111
def wlX10_digest_91_body (Φ : Int64 → St → Prop) (k_80 : Int64 → Int32 → St → Prop) (k_91 : Int64 → Int32 → Int32 → St → Prop) (x1 : Int64) (x3 : Int32) (x4 : Int32) (σ : St) : Prop :=
  (((4 : Int32) ≤ x4 → (∀ y2 : Int32, y2 = x3 + (1 : Int32) → k_80 x1 y2 σ)) ∧ (¬ (4 : Int32) ≤ x4 → wpX10_sayingOf x3 x4 σ (fun r4 t3 => (∀ y5 : Int64, y5 = ((31 : Int64) * x1) + r4.toInt64 → (∀ y6 : Int32, y6 = x4 + (1 : Int32) → k_91 y5 x3 y6 t3)))))
def wlX10_digest_91 (Φ : Int64 → St → Prop) (k_80 : Int64 → Int32 → St → Prop) : Nat → Int64 → Int32 → Int32 → St → Prop
  | 0 => fun _ _ _ _ => False
  | N + 1 => fun x1 x3 x4 σ => wlX10_digest_91_body Φ k_80 (wlX10_digest_91 Φ k_80 N) x1 x3 x4 σ
set_option maxHeartbeats 4000000 in
set_option maxRecDepth 100000 in
theorem llX10_digest_91 {p : Program} {l : Launch} {e : Env} {s : State} {m : MethodId} {args : Array Value} {below : List Frame} {meth : Method} {c : Code} (C : Cx p s m args meth c cX10_digest 5 (some .long) RX10) {Φ : Int64 → St → Prop} {k_80 : Int64 → Int32 → St → Prop} (hk_80 : ∀ (x1 : Int64) (x3 : Int32) (σ : St) (H : Heap) (locs : List Loc) (ls : Array Slot), k_80 x1 x3 σ → gWd D (tyL cyI cyO) (mCell ad cyI cyO) ad 16 s H locs σ → lv_has ls 5 [(0, .ref (ad 0)), (1, .long x1), (3, .int x3)] → W p l e rmX10_digest s m args below meth c H locs 0 0 (MQ below (gQl D (mCell ad cyI cyO) ad 16 s.heap.size Φ) args s 0 0 (gA ad 16 s.heap.size)) (F0 m 80 ls [])) : ∀ (N : Nat) (x1 : Int64) (x3 : Int32) (x4 : Int32) (σ : St) (H : Heap) (locs : List Loc) (ls : Array Slot), wlX10_digest_91 Φ k_80 N x1 x3 x4 σ → gWd D (tyL cyI cyO) (mCell ad cyI cyO) ad 16 s H locs σ → lv_has ls 5 [(0, .ref (ad 0)), (1, .long x1), (3, .int x3), (4, .int x4)] → W p l e rmX10_digest s m args below meth c H locs 0 0 (MQ below (gQl D (mCell ad cyI cyO) ad 16 s.heap.size Φ) args s 0 0 (gA ad 16 s.heap.size)) (F0 m 91 ls []) := by
  obtain ⟨hx, hb, hr, hml, hown, hts, hlk⟩ := id C
  intro N
  induction N with
  | zero =>
    intro x1 x3 x4 σ H locs ls h
    exact False.elim h
  | succ N ih =>
    intro x1 x3 x4 σ H locs ls h wd hl
    have h : wlX10_digest_91_body Φ k_80 (wlX10_digest_91 Φ k_80 N) x1 x3 x4 σ := h
    have hk_91 := ih
    unfold wlX10_digest_91_body at h
    refine lv_iload hx hb dX10_digest_91 (lv_at hl 3 rfl) ?_
    refine lv_iconst (v := (4 : Int32)) hx hb dX10_digest_93 (by decide) ?_
    refine lv_icmp_ge (tgt := 118) hx hb dX10_digest_94 (by decide) (fun c1 => ?_) (fun c1 => ?_)
    · have h := h.1 c1
      obtain ⟨y2, ey2⟩ : ∃ y : Int32, y = x3 + (1 : Int32) := ⟨_, rfl⟩
      refine lv_iinc (v := y2) (lv' := [(3, .int y2), (0, .ref (ad 0)), (1, .long x1), (4, .int x4)]) hx hb dX10_digest_118 hl (k := 2) rfl (by rw [ey2]; rfl) (by decide) rfl (fun ls hl => ?_)
      have h := h y2 ey2
      refine lv_goto (tgt := 80) hx hb dX10_digest_121 (by decide) ?_
      exact hk_80 _ _ _ _ _ _ h wd (lv_sub hl [1, 2, 0] rfl)
    · have h := h.2 c1
      refine lv_ldc2 (v := (31 : Int64)) hx hb hown (hts _ tw5_163) dX10_digest_97 ?_
      refine lv_lload_n hx hb dX10_digest_100 rfl (lv_at hl 1 rfl) ?_
      refine lv_lmul hx hb dX10_digest_101 ?_
      refine lv_aload_n hx hb dX10_digest_102 rfl (lv_at hl 0 rfl) ?_
      refine lv_iload_n hx hb dX10_digest_103 rfl (lv_at hl 2 rfl) ?_
      refine lv_iload hx hb dX10_digest_104 (lv_at hl 3 rfl) ?_
      refine gCi wd (gRunV (y := yX10_sayingOf) (k := 0) (As := [.int x3, .int x4]) (rest := [.long ((31 : Int64) * x1)]) C wd (cmX10_sayingOf h) ⟨rfl, rfl⟩ gd_X10_222 nk_X10_sayingOf ⟨Nat.le_of_ble_eq_true rfl, Nat.le_of_ble_eq_true rfl⟩ (by decide) mc_X10 rfl rfl hl.1 (Nat.le_of_ble_eq_true rfl) dX10_digest_106 rfl) (fun r4 t3 H locs h wd => ?_)
      try dsimp only at h
      refine lv_i2l hx hb dX10_digest_109 rfl ?_
      refine lv_ladd hx hb dX10_digest_110 ?_
      refine lv_topl (fun y5 ey5 => ?_)
      have h := h y5 ey5
      refine lv_lstore_n (lv' := [(1, .long y5), (0, .ref (ad 0)), (3, .int x3), (4, .int x4)]) hx hb dX10_digest_111 rfl hl (by decide) rfl (fun ls hl => ?_)
      obtain ⟨y6, ey6⟩ : ∃ y : Int32, y = x4 + (1 : Int32) := ⟨_, rfl⟩
      refine lv_iinc (v := y6) (lv' := [(4, .int y6), (1, .long y5), (0, .ref (ad 0)), (3, .int x3)]) hx hb dX10_digest_112 hl (k := 3) rfl (by rw [ey6]; rfl) (by decide) rfl (fun ls hl => ?_)
      have h := h y6 ey6
      refine lv_goto (tgt := 91) hx hb dX10_digest_115 (by decide) ?_
      exact hk_91 _ _ _ _ _ _ _ h wd (lv_sub hl [2, 1, 3, 0] rfl)
def wlX10_digest_80_body (Φ : Int64 → St → Prop) (k_80 : Int64 → Int32 → St → Prop) (x1 : Int64) (x3 : Int32) (σ : St) : Prop :=
  (((σ.1 13) ≤ x3 → Φ x1 σ) ∧ (¬ (σ.1 13) ≤ x3 → (∃ N, wlX10_digest_91 Φ k_80 N x1 x3 (0 : Int32) σ)))
def wlX10_digest_80 (Φ : Int64 → St → Prop) : Nat → Int64 → Int32 → St → Prop
  | 0 => fun _ _ _ => False
  | N + 1 => fun x1 x3 σ => wlX10_digest_80_body Φ (wlX10_digest_80 Φ N) x1 x3 σ
set_option maxHeartbeats 4000000 in
set_option maxRecDepth 100000 in
theorem llX10_digest_80 {p : Program} {l : Launch} {e : Env} {s : State} {m : MethodId} {args : Array Value} {below : List Frame} {meth : Method} {c : Code} (C : Cx p s m args meth c cX10_digest 5 (some .long) RX10) {Φ : Int64 → St → Prop} : ∀ (N : Nat) (x1 : Int64) (x3 : Int32) (σ : St) (H : Heap) (locs : List Loc) (ls : Array Slot), wlX10_digest_80 Φ N x1 x3 σ → gWd D (tyL cyI cyO) (mCell ad cyI cyO) ad 16 s H locs σ → lv_has ls 5 [(0, .ref (ad 0)), (1, .long x1), (3, .int x3)] → W p l e rmX10_digest s m args below meth c H locs 0 0 (MQ below (gQl D (mCell ad cyI cyO) ad 16 s.heap.size Φ) args s 0 0 (gA ad 16 s.heap.size)) (F0 m 80 ls []) := by
  obtain ⟨hx, hb, hr, hml, hown, hts, hlk⟩ := id C
  intro N
  induction N with
  | zero =>
    intro x1 x3 σ H locs ls h
    exact False.elim h
  | succ N ih =>
    intro x1 x3 σ H locs ls h wd hl
    have h : wlX10_digest_80_body Φ (wlX10_digest_80 Φ N) x1 x3 σ := h
    have hk_80 := ih
    unfold wlX10_digest_80_body at h
    refine lv_iload_n hx hb dX10_digest_80 rfl (lv_at hl 2 rfl) ?_
    refine lv_aload_n hx hb dX10_digest_81 rfl (lv_at hl 0 rfl) ?_
    refine getF C wd (k := 0) (Cn := RX10) (T := TX10) (N := 26) (v := .int (σ.1 13)) (by decide) mc_X10 rfl 13 (by decide) rfl inX10 tw4_39 dX10_digest_82 ?_
    refine lv_icmp_ge (tgt := 124) hx hb dX10_digest_85 (by decide) (fun c1 => ?_) (fun c1 => ?_)
    · have h := h.1 c1
      refine lv_lload_n hx hb dX10_digest_124 rfl (lv_at hl 1 rfl) ?_
      exact retL C wd h dX10_digest_125
    · have h := h.2 c1
      refine lv_iconst (v := (0 : Int32)) hx hb dX10_digest_88 (by decide) ?_
      refine lv_istore (lv' := [(4, .int (0 : Int32)), (0, .ref (ad 0)), (1, .long x1), (3, .int x3)]) hx hb dX10_digest_89 hl (by decide) rfl (fun ls hl => ?_)
      obtain ⟨N, h⟩ := h
      exact llX10_digest_91 C hk_80 N _ _ _ _ _ _ _ h wd (lv_sub hl [1, 2, 3, 0] rfl)
def wlX10_digest_44_body (Φ : Int64 → St → Prop) (k_33 : Int64 → Int32 → St → Prop) (k_44 : Int64 → Int32 → Int32 → St → Prop) (x1 : Int64) (x3 : Int32) (x4 : Int32) (σ : St) : Prop :=
  (((8 : Int32) ≤ x4 → (∀ y2 : Int32, y2 = x3 + (1 : Int32) → k_33 x1 y2 σ)) ∧ (¬ (8 : Int32) ≤ x4 → wpX10_clerkOf x3 x4 σ (fun r4 t3 => (∀ y5 : Int64, y5 = ((31 : Int64) * x1) + r4.toInt64 → (∀ y6 : Int32, y6 = x4 + (1 : Int32) → k_44 y5 x3 y6 t3)))))
def wlX10_digest_44 (Φ : Int64 → St → Prop) (k_33 : Int64 → Int32 → St → Prop) : Nat → Int64 → Int32 → Int32 → St → Prop
  | 0 => fun _ _ _ _ => False
  | N + 1 => fun x1 x3 x4 σ => wlX10_digest_44_body Φ k_33 (wlX10_digest_44 Φ k_33 N) x1 x3 x4 σ
set_option maxHeartbeats 4000000 in
set_option maxRecDepth 100000 in
theorem llX10_digest_44 {p : Program} {l : Launch} {e : Env} {s : State} {m : MethodId} {args : Array Value} {below : List Frame} {meth : Method} {c : Code} (C : Cx p s m args meth c cX10_digest 5 (some .long) RX10) {Φ : Int64 → St → Prop} {k_33 : Int64 → Int32 → St → Prop} (hk_33 : ∀ (x1 : Int64) (x3 : Int32) (σ : St) (H : Heap) (locs : List Loc) (ls : Array Slot), k_33 x1 x3 σ → gWd D (tyL cyI cyO) (mCell ad cyI cyO) ad 16 s H locs σ → lv_has ls 5 [(0, .ref (ad 0)), (1, .long x1), (3, .int x3)] → W p l e rmX10_digest s m args below meth c H locs 0 0 (MQ below (gQl D (mCell ad cyI cyO) ad 16 s.heap.size Φ) args s 0 0 (gA ad 16 s.heap.size)) (F0 m 33 ls [])) : ∀ (N : Nat) (x1 : Int64) (x3 : Int32) (x4 : Int32) (σ : St) (H : Heap) (locs : List Loc) (ls : Array Slot), wlX10_digest_44 Φ k_33 N x1 x3 x4 σ → gWd D (tyL cyI cyO) (mCell ad cyI cyO) ad 16 s H locs σ → lv_has ls 5 [(0, .ref (ad 0)), (1, .long x1), (3, .int x3), (4, .int x4)] → W p l e rmX10_digest s m args below meth c H locs 0 0 (MQ below (gQl D (mCell ad cyI cyO) ad 16 s.heap.size Φ) args s 0 0 (gA ad 16 s.heap.size)) (F0 m 44 ls []) := by
  obtain ⟨hx, hb, hr, hml, hown, hts, hlk⟩ := id C
  intro N
  induction N with
  | zero =>
    intro x1 x3 x4 σ H locs ls h
    exact False.elim h
  | succ N ih =>
    intro x1 x3 x4 σ H locs ls h wd hl
    have h : wlX10_digest_44_body Φ k_33 (wlX10_digest_44 Φ k_33 N) x1 x3 x4 σ := h
    have hk_44 := ih
    unfold wlX10_digest_44_body at h
    refine lv_iload hx hb dX10_digest_44 (lv_at hl 3 rfl) ?_
    refine lv_bipush (v := (8 : Int32)) hx hb dX10_digest_46 (by decide) ?_
    refine lv_icmp_ge (tgt := 72) hx hb dX10_digest_48 (by decide) (fun c1 => ?_) (fun c1 => ?_)
    · have h := h.1 c1
      obtain ⟨y2, ey2⟩ : ∃ y : Int32, y = x3 + (1 : Int32) := ⟨_, rfl⟩
      refine lv_iinc (v := y2) (lv' := [(3, .int y2), (0, .ref (ad 0)), (1, .long x1), (4, .int x4)]) hx hb dX10_digest_72 hl (k := 2) rfl (by rw [ey2]; rfl) (by decide) rfl (fun ls hl => ?_)
      have h := h y2 ey2
      refine lv_goto (tgt := 33) hx hb dX10_digest_75 (by decide) ?_
      exact hk_33 _ _ _ _ _ _ h wd (lv_sub hl [1, 2, 0] rfl)
    · have h := h.2 c1
      refine lv_ldc2 (v := (31 : Int64)) hx hb hown (hts _ tw5_163) dX10_digest_51 ?_
      refine lv_lload_n hx hb dX10_digest_54 rfl (lv_at hl 1 rfl) ?_
      refine lv_lmul hx hb dX10_digest_55 ?_
      refine lv_aload_n hx hb dX10_digest_56 rfl (lv_at hl 0 rfl) ?_
      refine lv_iload_n hx hb dX10_digest_57 rfl (lv_at hl 2 rfl) ?_
      refine lv_iload hx hb dX10_digest_58 (lv_at hl 3 rfl) ?_
      refine gCi wd (gRunV (y := yX10_clerkOf) (k := 0) (As := [.int x3, .int x4]) (rest := [.long ((31 : Int64) * x1)]) C wd (cmX10_clerkOf h) ⟨rfl, rfl⟩ gd_X10_205 nk_X10_clerkOf ⟨Nat.le_of_ble_eq_true rfl, Nat.le_of_ble_eq_true rfl⟩ (by decide) mc_X10 rfl rfl hl.1 (Nat.le_of_ble_eq_true rfl) dX10_digest_60 rfl) (fun r4 t3 H locs h wd => ?_)
      try dsimp only at h
      refine lv_i2l hx hb dX10_digest_63 rfl ?_
      refine lv_ladd hx hb dX10_digest_64 ?_
      refine lv_topl (fun y5 ey5 => ?_)
      have h := h y5 ey5
      refine lv_lstore_n (lv' := [(1, .long y5), (0, .ref (ad 0)), (3, .int x3), (4, .int x4)]) hx hb dX10_digest_65 rfl hl (by decide) rfl (fun ls hl => ?_)
      obtain ⟨y6, ey6⟩ : ∃ y : Int32, y = x4 + (1 : Int32) := ⟨_, rfl⟩
      refine lv_iinc (v := y6) (lv' := [(4, .int y6), (1, .long y5), (0, .ref (ad 0)), (3, .int x3)]) hx hb dX10_digest_66 hl (k := 3) rfl (by rw [ey6]; rfl) (by decide) rfl (fun ls hl => ?_)
      have h := h y6 ey6
      refine lv_goto (tgt := 44) hx hb dX10_digest_69 (by decide) ?_
      exact hk_44 _ _ _ _ _ _ _ h wd (lv_sub hl [2, 1, 3, 0] rfl)
def wlX10_digest_33_body (Φ : Int64 → St → Prop) (k_33 : Int64 → Int32 → St → Prop) (x1 : Int64) (x3 : Int32) (σ : St) : Prop :=
  (((σ.1 0) ≤ x3 → (∃ N, wlX10_digest_80 Φ N x1 (0 : Int32) σ)) ∧ (¬ (σ.1 0) ≤ x3 → (∃ N, wlX10_digest_44 Φ k_33 N x1 x3 (0 : Int32) σ)))
def wlX10_digest_33 (Φ : Int64 → St → Prop) : Nat → Int64 → Int32 → St → Prop
  | 0 => fun _ _ _ => False
  | N + 1 => fun x1 x3 σ => wlX10_digest_33_body Φ (wlX10_digest_33 Φ N) x1 x3 σ
set_option maxHeartbeats 4000000 in
set_option maxRecDepth 100000 in
theorem llX10_digest_33 {p : Program} {l : Launch} {e : Env} {s : State} {m : MethodId} {args : Array Value} {below : List Frame} {meth : Method} {c : Code} (C : Cx p s m args meth c cX10_digest 5 (some .long) RX10) {Φ : Int64 → St → Prop} : ∀ (N : Nat) (x1 : Int64) (x3 : Int32) (σ : St) (H : Heap) (locs : List Loc) (ls : Array Slot), wlX10_digest_33 Φ N x1 x3 σ → gWd D (tyL cyI cyO) (mCell ad cyI cyO) ad 16 s H locs σ → lv_has ls 5 [(0, .ref (ad 0)), (1, .long x1), (3, .int x3)] → W p l e rmX10_digest s m args below meth c H locs 0 0 (MQ below (gQl D (mCell ad cyI cyO) ad 16 s.heap.size Φ) args s 0 0 (gA ad 16 s.heap.size)) (F0 m 33 ls []) := by
  obtain ⟨hx, hb, hr, hml, hown, hts, hlk⟩ := id C
  intro N
  induction N with
  | zero =>
    intro x1 x3 σ H locs ls h
    exact False.elim h
  | succ N ih =>
    intro x1 x3 σ H locs ls h wd hl
    have h : wlX10_digest_33_body Φ (wlX10_digest_33 Φ N) x1 x3 σ := h
    have hk_33 := ih
    unfold wlX10_digest_33_body at h
    refine lv_iload_n hx hb dX10_digest_33 rfl (lv_at hl 2 rfl) ?_
    refine lv_aload_n hx hb dX10_digest_34 rfl (lv_at hl 0 rfl) ?_
    refine getF C wd (k := 0) (Cn := RX10) (T := TX10) (N := 26) (v := .int (σ.1 0)) (by decide) mc_X10 rfl 0 (by decide) rfl inX10 tw4_26 dX10_digest_35 ?_
    refine lv_icmp_ge (tgt := 78) hx hb dX10_digest_38 (by decide) (fun c1 => ?_) (fun c1 => ?_)
    · have h := h.1 c1
      refine lv_iconst (v := (0 : Int32)) hx hb dX10_digest_78 (by decide) ?_
      refine lv_istore_n (lv' := [(3, .int (0 : Int32)), (0, .ref (ad 0)), (1, .long x1)]) hx hb dX10_digest_79 rfl hl (by decide) rfl (fun ls hl => ?_)
      obtain ⟨N, h⟩ := h
      exact llX10_digest_80 C N _ _ _ _ _ _ h wd (lv_sub hl [1, 2, 0] rfl)
    · have h := h.2 c1
      refine lv_iconst (v := (0 : Int32)) hx hb dX10_digest_41 (by decide) ?_
      refine lv_istore (lv' := [(4, .int (0 : Int32)), (0, .ref (ad 0)), (1, .long x1), (3, .int x3)]) hx hb dX10_digest_42 hl (by decide) rfl (fun ls hl => ?_)
      obtain ⟨N, h⟩ := h
      exact llX10_digest_44 C hk_33 N _ _ _ _ _ _ _ h wd (lv_sub hl [1, 2, 3, 0] rfl)
def wlX10_digest_6_body (Φ : Int64 → St → Prop) (k_6 : Int64 → Int32 → St → Prop) (x1 : Int64) (x3 : Int32) (σ : St) : Prop :=
  (((10 : Int32) ≤ x3 → (∃ N, wlX10_digest_33 Φ N x1 (0 : Int32) σ)) ∧ (¬ (10 : Int32) ≤ x3 → wpX10_toldOf x3 σ (fun r3 t2 => (∀ y4 : Int64, y4 = ((31 : Int64) * x1) + r3.toInt64 → (∀ y5 : Int32, y5 = x3 + (1 : Int32) → k_6 y4 y5 t2)))))
def wlX10_digest_6 (Φ : Int64 → St → Prop) : Nat → Int64 → Int32 → St → Prop
  | 0 => fun _ _ _ => False
  | N + 1 => fun x1 x3 σ => wlX10_digest_6_body Φ (wlX10_digest_6 Φ N) x1 x3 σ
set_option maxHeartbeats 4000000 in
set_option maxRecDepth 100000 in
theorem llX10_digest_6 {p : Program} {l : Launch} {e : Env} {s : State} {m : MethodId} {args : Array Value} {below : List Frame} {meth : Method} {c : Code} (C : Cx p s m args meth c cX10_digest 5 (some .long) RX10) {Φ : Int64 → St → Prop} : ∀ (N : Nat) (x1 : Int64) (x3 : Int32) (σ : St) (H : Heap) (locs : List Loc) (ls : Array Slot), wlX10_digest_6 Φ N x1 x3 σ → gWd D (tyL cyI cyO) (mCell ad cyI cyO) ad 16 s H locs σ → lv_has ls 5 [(0, .ref (ad 0)), (1, .long x1), (3, .int x3)] → W p l e rmX10_digest s m args below meth c H locs 0 0 (MQ below (gQl D (mCell ad cyI cyO) ad 16 s.heap.size Φ) args s 0 0 (gA ad 16 s.heap.size)) (F0 m 6 ls []) := by
  obtain ⟨hx, hb, hr, hml, hown, hts, hlk⟩ := id C
  intro N
  induction N with
  | zero =>
    intro x1 x3 σ H locs ls h
    exact False.elim h
  | succ N ih =>
    intro x1 x3 σ H locs ls h wd hl
    have h : wlX10_digest_6_body Φ (wlX10_digest_6 Φ N) x1 x3 σ := h
    have hk_6 := ih
    unfold wlX10_digest_6_body at h
    refine lv_iload_n hx hb dX10_digest_6 rfl (lv_at hl 2 rfl) ?_
    refine lv_bipush (v := (10 : Int32)) hx hb dX10_digest_7 (by decide) ?_
    refine lv_icmp_ge (tgt := 31) hx hb dX10_digest_9 (by decide) (fun c1 => ?_) (fun c1 => ?_)
    · have h := h.1 c1
      refine lv_iconst (v := (0 : Int32)) hx hb dX10_digest_31 (by decide) ?_
      refine lv_istore_n (lv' := [(3, .int (0 : Int32)), (0, .ref (ad 0)), (1, .long x1)]) hx hb dX10_digest_32 rfl hl (by decide) rfl (fun ls hl => ?_)
      obtain ⟨N, h⟩ := h
      exact llX10_digest_33 C N _ _ _ _ _ _ h wd (lv_sub hl [1, 2, 0] rfl)
    · have h := h.2 c1
      refine lv_ldc2 (v := (31 : Int64)) hx hb hown (hts _ tw5_163) dX10_digest_12 ?_
      refine lv_lload_n hx hb dX10_digest_15 rfl (lv_at hl 1 rfl) ?_
      refine lv_lmul hx hb dX10_digest_16 ?_
      refine lv_aload_n hx hb dX10_digest_17 rfl (lv_at hl 0 rfl) ?_
      refine lv_iload_n hx hb dX10_digest_18 rfl (lv_at hl 2 rfl) ?_
      refine gCi wd (gRunV (y := yX10_toldOf) (k := 0) (As := [.int x3]) (rest := [.long ((31 : Int64) * x1)]) C wd (cmX10_toldOf h) ⟨rfl, rfl⟩ gd_X10_274 nk_X10_toldOf ⟨Nat.le_of_ble_eq_true rfl, Nat.le_of_ble_eq_true rfl⟩ (by decide) mc_X10 rfl rfl hl.1 (Nat.le_of_ble_eq_true rfl) dX10_digest_19 rfl) (fun r3 t2 H locs h wd => ?_)
      try dsimp only at h
      refine lv_i2l hx hb dX10_digest_22 rfl ?_
      refine lv_ladd hx hb dX10_digest_23 ?_
      refine lv_topl (fun y4 ey4 => ?_)
      have h := h y4 ey4
      refine lv_lstore_n (lv' := [(1, .long y4), (0, .ref (ad 0)), (3, .int x3)]) hx hb dX10_digest_24 rfl hl (by decide) rfl (fun ls hl => ?_)
      obtain ⟨y5, ey5⟩ : ∃ y : Int32, y = x3 + (1 : Int32) := ⟨_, rfl⟩
      refine lv_iinc (v := y5) (lv' := [(3, .int y5), (1, .long y4), (0, .ref (ad 0))]) hx hb dX10_digest_25 hl (k := 2) rfl (by rw [ey5]; rfl) (by decide) rfl (fun ls hl => ?_)
      have h := h y5 ey5
      refine lv_goto (tgt := 6) hx hb dX10_digest_28 (by decide) ?_
      exact hk_6 _ _ _ _ _ _ h wd (lv_sub hl [2, 1, 0] rfl)
def wpX10_digest (σ : St) (Φ : Int64 → St → Prop) : Prop :=
  (∃ N, wlX10_digest_6 Φ N (2099 : Int64) (0 : Int32) σ)
set_option maxHeartbeats 4000000 in
set_option maxRecDepth 100000 in
theorem cmX10_digest {D : va_G} {cyI cyO : ClassId} {ad : Nat → Nat} {l : Launch} {σ : St} {sz : Nat} {Φ : Int64 → St → Prop} (h : wpX10_digest σ Φ) : gMet D (tyL cyI cyO) (mCell ad cyI cyO) ad 16 l yX10_digest cX10_digest 5 (some .long) rmX10_digest [.ref (ad 0)] σ sz (gQl D (mCell ad cyI cyO) ad 16 sz Φ) := by
  refine gMet.of (by decide) (Nat.le_of_ble_eq_true rfl) ?_
  intro p e s m below meth c ls hsz C hl wd
  subst hsz
  have C : Cx p s m _ meth c cX10_digest 5 (some .long) RX10 := C
  obtain ⟨hx, hb, hr, hml, hown, hts, hlk⟩ := id C
  have hl : lv_has ls 5 [(0, .ref (ad 0))] := hl
  unfold wpX10_digest at h
  refine lv_ldc2 (v := (2099 : Int64)) hx hb hown (hts _ tw5_162) dX10_digest_0 ?_
  refine lv_lstore_n (lv' := [(1, .long (2099 : Int64)), (0, .ref (ad 0))]) hx hb dX10_digest_3 rfl hl (by decide) rfl (fun ls hl => ?_)
  refine lv_iconst (v := (0 : Int32)) hx hb dX10_digest_4 (by decide) ?_
  refine lv_istore_n (lv' := [(3, .int (0 : Int32)), (1, .long (2099 : Int64)), (0, .ref (ad 0))]) hx hb dX10_digest_5 rfl hl (by decide) rfl (fun ls hl => ?_)
  obtain ⟨N, h⟩ := h
  exact llX10_digest_6 C N _ _ _ _ _ _ h wd (lv_sub hl [2, 1, 0] rfl)
end
