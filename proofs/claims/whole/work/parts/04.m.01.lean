section
variable {D : va_G} {cyI cyO : ClassId} {ad : Nat → Nat} {n : Nat}
abbrev rmX10_sends : Room := rmOf 2 43
def wlX10_sends_62_body (Φ : Int32 → St → Prop) (k_62 : Int32 → Int32 → Int32 → St → Prop) (x1 : Int32) (x3 : Int32) (x4 : Int32) (σ : St) : Prop :=
  (((5 : Int32) ≤ x4 → (∀ t2 : St, t2 = setI σ 11 ((σ.1 11) + (1 : Int32)) → Φ (t2.1 11) t2)) ∧ (¬ (5 : Int32) ≤ x4 → (vp_in x1 5 ∧ wpX10_restOf x1 (rd σ 2 x1) x4 σ (fun r5 t4 => (vp_in r5 600 ∧ (vp_in ((x3 + (3 : Int32)) + x4) 520 ∧ ∀ t8 : St, t8 = wr t4 10 ((x3 + (3 : Int32)) + x4) (rd t4 8 r5) → (vp_in x1 5 ∧ wpX10_restOf x1 (rd t8 2 x1) x4 t8 (fun r11 t10 => (vp_in r11 600 ∧ (vp_in ((x3 + (8 : Int32)) + x4) 520 ∧ ∀ t14 : St, t14 = wr t10 10 ((x3 + (8 : Int32)) + x4) (rd t10 9 r11) → (∀ y15 : Int32, y15 = x4 + (1 : Int32) → k_62 x1 x3 y15 t14)))))))))))
def wlX10_sends_62 (Φ : Int32 → St → Prop) : Nat → Int32 → Int32 → Int32 → St → Prop
  | 0 => fun _ _ _ _ => False
  | N + 1 => fun x1 x3 x4 σ => wlX10_sends_62_body Φ (wlX10_sends_62 Φ N) x1 x3 x4 σ
set_option maxHeartbeats 4000000 in
set_option maxRecDepth 100000 in
theorem llX10_sends_62 {p : Program} {l : Launch} {e : Env} {s : State} {m : MethodId} {args : Array Value} {below : List Frame} {meth : Method} {c : Code} (C : Cx p s m args meth c cX10_sends 5 (some .int) RX10) {Φ : Int32 → St → Prop} : ∀ (N : Nat) (x1 : Int32) (x3 : Int32) (x4 : Int32) (σ : St) (H : Heap) (locs : List Loc) (ls : Array Slot), wlX10_sends_62 Φ N x1 x3 x4 σ → gWd D (tyL cyI cyO) (mCell ad cyI cyO) ad 16 s H locs σ → lv_has ls 5 [(0, .ref (ad 0)), (1, .int x1), (3, .int x3), (4, .int x4)] → W p l e rmX10_sends s m args below meth c H locs 0 0 (MQ below (gQi D (mCell ad cyI cyO) ad 16 s.heap.size Φ) args s 0 0 (gA ad 16 s.heap.size)) (F0 m 62 ls []) := by
  obtain ⟨hx, hb, hr, hml, hown, hts, hlk⟩ := id C
  intro N
  induction N with
  | zero =>
    intro x1 x3 x4 σ H locs ls h
    exact False.elim h
  | succ N ih =>
    intro x1 x3 x4 σ H locs ls h wd hl
    have h : wlX10_sends_62_body Φ (wlX10_sends_62 Φ N) x1 x3 x4 σ := h
    have hk_62 := ih
    unfold wlX10_sends_62_body at h
    refine lv_iload hx hb dX10_sends_62 (lv_at hl 3 rfl) ?_
    refine lv_iconst (v := (5 : Int32)) hx hb dX10_sends_64 (by decide) ?_
    refine lv_icmp_ge (tgt := 131) hx hb dX10_sends_65 (by decide) (fun c1 => ?_) (fun c1 => ?_)
    · have h := h.1 c1
      refine lv_aload_n hx hb dX10_sends_131 rfl (lv_at hl 0 rfl) ?_
      refine lv_dup hx hb dX10_sends_132 rfl ?_
      refine getF C wd (k := 0) (Cn := RX10) (T := TX10) (N := 26) (v := .int (σ.1 11)) (by decide) mc_X10 rfl 11 (by decide) rfl inX10 tw4_37 dX10_sends_133 ?_
      refine lv_iconst (v := (1 : Int32)) hx hb dX10_sends_136 (by decide) ?_
      refine lv_iadd hx hb dX10_sends_137 ?_
      refine putF C wd (k := 0) (Cn := RX10) (T := TX10) (N := 26) (σ' := setI σ 11 ((σ.1 11) + (1 : Int32))) (by decide) mc_X10 rfl tyX10_ok nmX10 11 (by decide) rfl (by decide +kernel) (Nat.le_of_ble_eq_true rfl) inX10 tw4_37 ms_X10_lettersMany dX10_sends_138 (fun H locs wd => ?_)
      obtain ⟨t2, et2⟩ : ∃ z : St, z = setI σ 11 ((σ.1 11) + (1 : Int32)) := ⟨_, rfl⟩
      rw [← et2] at wd
      have h := h t2 et2
      refine lv_aload_n hx hb dX10_sends_141 rfl (lv_at hl 0 rfl) ?_
      refine getF C wd (k := 0) (Cn := RX10) (T := TX10) (N := 26) (v := .int (t2.1 11)) (by decide) mc_X10 rfl 11 (by decide) rfl inX10 tw4_37 dX10_sends_142 ?_
      exact retI C wd h dX10_sends_145
    · have h := h.2 c1
      refine lv_aload_n hx hb dX10_sends_68 rfl (lv_at hl 0 rfl) ?_
      refine getF C wd (k := 0) (Cn := RX10) (T := TX10) (N := 26) (v := .ref (ad 10)) (by decide) mc_X10 rfl 10 (by decide) rfl inX10 tw4_36 dX10_sends_69 ?_
      refine lv_iload_n hx hb dX10_sends_72 rfl (lv_at hl 2 rfl) ?_
      refine lv_iconst (v := (3 : Int32)) hx hb dX10_sends_73 (by decide) ?_
      refine lv_iadd hx hb dX10_sends_74 ?_
      refine lv_iload hx hb dX10_sends_75 (lv_at hl 3 rfl) ?_
      refine lv_iadd hx hb dX10_sends_77 ?_
      refine lv_aload_n hx hb dX10_sends_78 rfl (lv_at hl 0 rfl) ?_
      refine getF C wd (k := 0) (Cn := RX10) (T := TX10) (N := 26) (v := .ref (ad 8)) (by decide) mc_X10 rfl 8 (by decide) rfl inX10 tw4_34 dX10_sends_79 ?_
      refine lv_iload_n hx hb dX10_sends_82 rfl (lv_at hl 1 rfl) ?_
      refine lv_aload_n hx hb dX10_sends_83 rfl (lv_at hl 0 rfl) ?_
      refine getF C wd (k := 0) (Cn := RX10) (T := TX10) (N := 26) (v := .ref (ad 2)) (by decide) mc_X10 rfl 2 (by decide) rfl inX10 tw4_28 dX10_sends_84 ?_
      refine lv_iload_n hx hb dX10_sends_87 rfl (lv_at hl 1 rfl) ?_
      obtain ⟨hi3, h⟩ := h
      refine ldI C wd (k := 2) (N := 5) (by decide) mc_A2 hi3 dX10_sends_88 ?_
      refine lv_iload hx hb dX10_sends_89 (lv_at hl 3 rfl) ?_
      refine gCi wd (gRunS (y := yX10_restOf) (As := [.int x1, .int (rd σ 2 x1), .int x4]) (rest := [.ref (ad 8), .int ((x3 + (3 : Int32)) + x4), .ref (ad 10)]) C wd (cmX10_restOf h) ⟨rfl, rfl⟩ gd_X10_67 nk_X10_restOf ⟨Nat.le_of_ble_eq_true rfl, Nat.le_of_ble_eq_true rfl⟩ hl.1 (Nat.le_of_ble_eq_true rfl) dX10_sends_91 rfl) (fun r5 t4 H locs h wd => ?_)
      try dsimp only at h
      obtain ⟨hi6, h⟩ := h
      refine ldI C wd (k := 8) (N := 600) (by decide) mc_A8 hi6 dX10_sends_94 ?_
      obtain ⟨hi7, h⟩ := h
      refine stI C wd (k := 10) (N := 520) (by decide) mc_A10 ms_A10 hi7 dX10_sends_95 (fun H locs wd => ?_)
      obtain ⟨t8, et8⟩ : ∃ z : St, z = wr t4 10 ((x3 + (3 : Int32)) + x4) (rd t4 8 r5) := ⟨_, rfl⟩
      rw [← et8] at wd
      have h := h t8 et8
      refine lv_aload_n hx hb dX10_sends_96 rfl (lv_at hl 0 rfl) ?_
      refine getF C wd (k := 0) (Cn := RX10) (T := TX10) (N := 26) (v := .ref (ad 10)) (by decide) mc_X10 rfl 10 (by decide) rfl inX10 tw4_36 dX10_sends_97 ?_
      refine lv_iload_n hx hb dX10_sends_100 rfl (lv_at hl 2 rfl) ?_
      refine lv_bipush (v := (8 : Int32)) hx hb dX10_sends_101 (by decide) ?_
      refine lv_iadd hx hb dX10_sends_103 ?_
      refine lv_iload hx hb dX10_sends_104 (lv_at hl 3 rfl) ?_
      refine lv_iadd hx hb dX10_sends_106 ?_
      refine lv_aload_n hx hb dX10_sends_107 rfl (lv_at hl 0 rfl) ?_
      refine getF C wd (k := 0) (Cn := RX10) (T := TX10) (N := 26) (v := .ref (ad 9)) (by decide) mc_X10 rfl 9 (by decide) rfl inX10 tw4_35 dX10_sends_108 ?_
      refine lv_iload_n hx hb dX10_sends_111 rfl (lv_at hl 1 rfl) ?_
      refine lv_aload_n hx hb dX10_sends_112 rfl (lv_at hl 0 rfl) ?_
      refine getF C wd (k := 0) (Cn := RX10) (T := TX10) (N := 26) (v := .ref (ad 2)) (by decide) mc_X10 rfl 2 (by decide) rfl inX10 tw4_28 dX10_sends_113 ?_
      refine lv_iload_n hx hb dX10_sends_116 rfl (lv_at hl 1 rfl) ?_
      obtain ⟨hi9, h⟩ := h
      refine ldI C wd (k := 2) (N := 5) (by decide) mc_A2 hi9 dX10_sends_117 ?_
      refine lv_iload hx hb dX10_sends_118 (lv_at hl 3 rfl) ?_
      refine gCi wd (gRunS (y := yX10_restOf) (As := [.int x1, .int (rd t8 2 x1), .int x4]) (rest := [.ref (ad 9), .int ((x3 + (8 : Int32)) + x4), .ref (ad 10)]) C wd (cmX10_restOf h) ⟨rfl, rfl⟩ gd_X10_67 nk_X10_restOf ⟨Nat.le_of_ble_eq_true rfl, Nat.le_of_ble_eq_true rfl⟩ hl.1 (Nat.le_of_ble_eq_true rfl) dX10_sends_120 rfl) (fun r11 t10 H locs h wd => ?_)
      try dsimp only at h
      obtain ⟨hi12, h⟩ := h
      refine ldI C wd (k := 9) (N := 600) (by decide) mc_A9 hi12 dX10_sends_123 ?_
      obtain ⟨hi13, h⟩ := h
      refine stI C wd (k := 10) (N := 520) (by decide) mc_A10 ms_A10 hi13 dX10_sends_124 (fun H locs wd => ?_)
      obtain ⟨t14, et14⟩ : ∃ z : St, z = wr t10 10 ((x3 + (8 : Int32)) + x4) (rd t10 9 r11) := ⟨_, rfl⟩
      rw [← et14] at wd
      have h := h t14 et14
      obtain ⟨y15, ey15⟩ : ∃ y : Int32, y = x4 + (1 : Int32) := ⟨_, rfl⟩
      refine lv_iinc (v := y15) (lv' := [(4, .int y15), (0, .ref (ad 0)), (1, .int x1), (3, .int x3)]) hx hb dX10_sends_125 hl (k := 3) rfl (by rw [ey15]; rfl) (by decide) rfl (fun ls hl => ?_)
      have h := h y15 ey15
      refine lv_goto (tgt := 62) hx hb dX10_sends_128 (by decide) ?_
      exact hk_62 _ _ _ _ _ _ _ h wd (lv_sub hl [1, 2, 3, 0] rfl)
def wpX10_sends (x1 : Int32) (x2 : Int32) (σ : St) (Φ : Int32 → St → Prop) : Prop :=
  (((σ.1 11) = (40 : Int32) → Φ (-4 : Int32) σ) ∧ (¬ (σ.1 11) = (40 : Int32) → (∀ y2 : Int32, y2 = (13 : Int32) * (σ.1 11) → (vp_in y2 520 ∧ ∀ t4 : St, t4 = wr σ 10 y2 x2 → (vp_in (y2 + (1 : Int32)) 520 ∧ ∀ t6 : St, t6 = wr t4 10 (y2 + (1 : Int32)) x1 → (vp_in x1 5 ∧ wpX10_pageOf x1 (rd t6 2 x1) t6 (fun r9 t8 => (vp_in r9 120 ∧ (vp_in (y2 + (2 : Int32)) 520 ∧ ∀ t12 : St, t12 = wr t8 10 (y2 + (2 : Int32)) (rd t8 7 r9) → (∃ N, wlX10_sends_62 Φ N x1 y2 (0 : Int32) t12))))))))))
set_option maxHeartbeats 4000000 in
set_option maxRecDepth 100000 in
theorem cmX10_sends {D : va_G} {cyI cyO : ClassId} {ad : Nat → Nat} {l : Launch} {x1 : Int32} {x2 : Int32} {σ : St} {sz : Nat} {Φ : Int32 → St → Prop} (h : wpX10_sends x1 x2 σ Φ) : gMet D (tyL cyI cyO) (mCell ad cyI cyO) ad 16 l yX10_sends cX10_sends 5 (some .int) rmX10_sends [.ref (ad 0), .int x1, .int x2] σ sz (gQi D (mCell ad cyI cyO) ad 16 sz Φ) := by
  refine gMet.of (by decide) (Nat.le_of_ble_eq_true rfl) ?_
  intro p e s m below meth c ls hsz C hl wd
  subst hsz
  have C : Cx p s m _ meth c cX10_sends 5 (some .int) RX10 := C
  obtain ⟨hx, hb, hr, hml, hown, hts, hlk⟩ := id C
  have hl : lv_has ls 5 [(0, .ref (ad 0)), (1, .int x1), (2, .int x2)] := hl
  unfold wpX10_sends at h
  refine lv_aload_n hx hb dX10_sends_0 rfl (lv_at hl 0 rfl) ?_
  refine getF C wd (k := 0) (Cn := RX10) (T := TX10) (N := 26) (v := .int (σ.1 11)) (by decide) mc_X10 rfl 11 (by decide) rfl inX10 tw4_37 dX10_sends_1 ?_
  refine lv_bipush (v := (40 : Int32)) hx hb dX10_sends_4 (by decide) ?_
  refine lv_icmp_ne (tgt := 12) hx hb dX10_sends_6 (by decide) (fun c1 => ?_) (fun c1 => ?_)
  · have h := h.2 c1
    refine lv_bipush (v := (13 : Int32)) hx hb dX10_sends_12 (by decide) ?_
    refine lv_aload_n hx hb dX10_sends_14 rfl (lv_at hl 0 rfl) ?_
    refine getF C wd (k := 0) (Cn := RX10) (T := TX10) (N := 26) (v := .int (σ.1 11)) (by decide) mc_X10 rfl 11 (by decide) rfl inX10 tw4_37 dX10_sends_15 ?_
    refine lv_imul hx hb dX10_sends_18 ?_
    refine lv_topi (fun y2 ey2 => ?_)
    have h := h y2 ey2
    refine lv_istore_n (lv' := [(3, .int y2), (0, .ref (ad 0)), (1, .int x1), (2, .int x2)]) hx hb dX10_sends_19 rfl hl (by decide) rfl (fun ls hl => ?_)
    refine lv_aload_n hx hb dX10_sends_20 rfl (lv_at hl 1 rfl) ?_
    refine getF C wd (k := 0) (Cn := RX10) (T := TX10) (N := 26) (v := .ref (ad 10)) (by decide) mc_X10 rfl 10 (by decide) rfl inX10 tw4_36 dX10_sends_21 ?_
    refine lv_iload_n hx hb dX10_sends_24 rfl (lv_at hl 0 rfl) ?_
    refine lv_iload_n hx hb dX10_sends_25 rfl (lv_at hl 3 rfl) ?_
    obtain ⟨hi3, h⟩ := h
    refine stI C wd (k := 10) (N := 520) (by decide) mc_A10 ms_A10 hi3 dX10_sends_26 (fun H locs wd => ?_)
    obtain ⟨t4, et4⟩ : ∃ z : St, z = wr σ 10 y2 x2 := ⟨_, rfl⟩
    rw [← et4] at wd
    have h := h t4 et4
    refine lv_aload_n hx hb dX10_sends_27 rfl (lv_at hl 1 rfl) ?_
    refine getF C wd (k := 0) (Cn := RX10) (T := TX10) (N := 26) (v := .ref (ad 10)) (by decide) mc_X10 rfl 10 (by decide) rfl inX10 tw4_36 dX10_sends_28 ?_
    refine lv_iload_n hx hb dX10_sends_31 rfl (lv_at hl 0 rfl) ?_
    refine lv_iconst (v := (1 : Int32)) hx hb dX10_sends_32 (by decide) ?_
    refine lv_iadd hx hb dX10_sends_33 ?_
    refine lv_iload_n hx hb dX10_sends_34 rfl (lv_at hl 2 rfl) ?_
    obtain ⟨hi5, h⟩ := h
    refine stI C wd (k := 10) (N := 520) (by decide) mc_A10 ms_A10 hi5 dX10_sends_35 (fun H locs wd => ?_)
    obtain ⟨t6, et6⟩ : ∃ z : St, z = wr t4 10 (y2 + (1 : Int32)) x1 := ⟨_, rfl⟩
    rw [← et6] at wd
    have h := h t6 et6
    refine lv_aload_n hx hb dX10_sends_36 rfl (lv_at hl 1 rfl) ?_
    refine getF C wd (k := 0) (Cn := RX10) (T := TX10) (N := 26) (v := .ref (ad 10)) (by decide) mc_X10 rfl 10 (by decide) rfl inX10 tw4_36 dX10_sends_37 ?_
    refine lv_iload_n hx hb dX10_sends_40 rfl (lv_at hl 0 rfl) ?_
    refine lv_iconst (v := (2 : Int32)) hx hb dX10_sends_41 (by decide) ?_
    refine lv_iadd hx hb dX10_sends_42 ?_
    refine lv_aload_n hx hb dX10_sends_43 rfl (lv_at hl 1 rfl) ?_
    refine getF C wd (k := 0) (Cn := RX10) (T := TX10) (N := 26) (v := .ref (ad 7)) (by decide) mc_X10 rfl 7 (by decide) rfl inX10 tw4_33 dX10_sends_44 ?_
    refine lv_iload_n hx hb dX10_sends_47 rfl (lv_at hl 2 rfl) ?_
    refine lv_aload_n hx hb dX10_sends_48 rfl (lv_at hl 1 rfl) ?_
    refine getF C wd (k := 0) (Cn := RX10) (T := TX10) (N := 26) (v := .ref (ad 2)) (by decide) mc_X10 rfl 2 (by decide) rfl inX10 tw4_28 dX10_sends_49 ?_
    refine lv_iload_n hx hb dX10_sends_52 rfl (lv_at hl 2 rfl) ?_
    obtain ⟨hi7, h⟩ := h
    refine ldI C wd (k := 2) (N := 5) (by decide) mc_A2 hi7 dX10_sends_53 ?_
    refine gCi wd (gRunS (y := yX10_pageOf) (As := [.int x1, .int (rd t6 2 x1)]) (rest := [.ref (ad 7), .int (y2 + (2 : Int32)), .ref (ad 10)]) C wd (cmX10_pageOf h) ⟨rfl, rfl⟩ gd_X10_63 nk_X10_pageOf ⟨Nat.le_of_ble_eq_true rfl, Nat.le_of_ble_eq_true rfl⟩ hl.1 (Nat.le_of_ble_eq_true rfl) dX10_sends_54 rfl) (fun r9 t8 H locs h wd => ?_)
    try dsimp only at h
    obtain ⟨hi10, h⟩ := h
    refine ldI C wd (k := 7) (N := 120) (by decide) mc_A7 hi10 dX10_sends_57 ?_
    obtain ⟨hi11, h⟩ := h
    refine stI C wd (k := 10) (N := 520) (by decide) mc_A10 ms_A10 hi11 dX10_sends_58 (fun H locs wd => ?_)
    obtain ⟨t12, et12⟩ : ∃ z : St, z = wr t8 10 (y2 + (2 : Int32)) (rd t8 7 r9) := ⟨_, rfl⟩
    rw [← et12] at wd
    have h := h t12 et12
    refine lv_iconst (v := (0 : Int32)) hx hb dX10_sends_59 (by decide) ?_
    refine lv_istore (lv' := [(4, .int (0 : Int32)), (3, .int y2), (0, .ref (ad 0)), (1, .int x1), (2, .int x2)]) hx hb dX10_sends_60 hl (by decide) rfl (fun ls hl => ?_)
    obtain ⟨N, h⟩ := h
    exact llX10_sends_62 C N _ _ _ _ _ _ _ h wd (lv_sub hl [2, 3, 1, 0] rfl)
  · have h := h.1 c1
    refine lv_bipush (v := (-4 : Int32)) hx hb dX10_sends_9 (by decide) ?_
    exact retI C wd h dX10_sends_11
abbrev rmX10_send : Room := rmOf 3 67
def wbX10_send_21 (Φ : Int32 → St → Prop) (σ : St) : Prop :=
  wpX10_bad σ (fun r2 t1 => Φ r2 t1)
set_option maxHeartbeats 4000000 in
set_option maxRecDepth 100000 in
theorem blX10_send_21 {p : Program} {l : Launch} {e : Env} {s : State} {m : MethodId} {args : Array Value} {below : List Frame} {meth : Method} {c : Code} (C : Cx p s m args meth c cX10_send 3 (some .int) RX10) {Φ : Int32 → St → Prop} {σ : St} {H : Heap} {locs : List Loc} {ls : Array Slot} (h : wbX10_send_21 Φ σ) (wd : gWd D (tyL cyI cyO) (mCell ad cyI cyO) ad 16 s H locs σ) (hl : lv_has ls 3 [(0, .ref (ad 0))]) : W p l e rmX10_send s m args below meth c H locs 0 0 (MQ below (gQi D (mCell ad cyI cyO) ad 16 s.heap.size Φ) args s 0 0 (gA ad 16 s.heap.size)) (F0 m 21 ls []) := by
  obtain ⟨hx, hb, hr, hml, hown, hts, hlk⟩ := id C
  unfold wbX10_send_21 at h
  refine lv_aload_n hx hb dX10_send_21 rfl (lv_at hl 0 rfl) ?_
  refine gCi wd (gRunV (y := yX10_bad) (k := 0) (As := []) (rest := []) C wd (cmX10_bad h) ⟨rfl, rfl⟩ gd_X10_87 nk_X10_bad ⟨Nat.le_of_ble_eq_true rfl, Nat.le_of_ble_eq_true rfl⟩ (by decide) mc_X10 rfl rfl hl.1 (Nat.le_of_ble_eq_true rfl) dX10_send_22 rfl) (fun r2 t1 H locs h wd => ?_)
  try dsimp only at h
  refine lv_goto (tgt := 38) hx hb dX10_send_25 (by decide) ?_
  exact retI C wd h dX10_send_38
def wpX10_send (x1 : Int32) (x2 : Int32) (σ : St) (Φ : Int32 → St → Prop) : Prop :=
  wpX10_isClerk x1 σ (fun r2 t1 => ((r2 = 0 → wbX10_send_21 Φ t1) ∧ (¬ r2 = 0 → wpX10_isClerk x2 t1 (fun r5 t4 => ((r5 = 0 → wbX10_send_21 Φ t4) ∧ (¬ r5 = 0 → ((x1 = x2 → wbX10_send_21 Φ t4) ∧ (¬ x1 = x2 → wpX10_sends x1 x2 t4 (fun r9 t8 => wpX10_tells r9 t8 (fun r11 t10 => Φ r11 t10))))))))))
set_option maxHeartbeats 4000000 in
set_option maxRecDepth 100000 in
theorem cmX10_send {D : va_G} {cyI cyO : ClassId} {ad : Nat → Nat} {l : Launch} {x1 : Int32} {x2 : Int32} {σ : St} {sz : Nat} {Φ : Int32 → St → Prop} (h : wpX10_send x1 x2 σ Φ) : gMet D (tyL cyI cyO) (mCell ad cyI cyO) ad 16 l yX10_send cX10_send 3 (some .int) rmX10_send [.ref (ad 0), .int x1, .int x2] σ sz (gQi D (mCell ad cyI cyO) ad 16 sz Φ) := by
  refine gMet.of (by decide) (Nat.le_of_ble_eq_true rfl) ?_
  intro p e s m below meth c ls hsz C hl wd
  subst hsz
  have C : Cx p s m _ meth c cX10_send 3 (some .int) RX10 := C
  obtain ⟨hx, hb, hr, hml, hown, hts, hlk⟩ := id C
  have hl : lv_has ls 3 [(0, .ref (ad 0)), (1, .int x1), (2, .int x2)] := hl
  unfold wpX10_send at h
  refine lv_aload_n hx hb dX10_send_0 rfl (lv_at hl 0 rfl) ?_
  refine lv_iload_n hx hb dX10_send_1 rfl (lv_at hl 1 rfl) ?_
  refine gCi wd (gRunV (y := yX10_isClerk) (k := 0) (As := [.int x1]) (rest := []) C wd (cmX10_isClerk h) ⟨rfl, rfl⟩ gd_X10_98 nk_X10_isClerk ⟨Nat.le_of_ble_eq_true rfl, Nat.le_of_ble_eq_true rfl⟩ (by decide) mc_X10 rfl rfl hl.1 (Nat.le_of_ble_eq_true rfl) dX10_send_2 rfl) (fun r2 t1 H locs h wd => ?_)
  try dsimp only at h
  refine lv_if_eq (tgt := 21) hx hb dX10_send_5 (by decide) (fun c3 => ?_) (fun c3 => ?_)
  · have h := h.1 c3
    exact blX10_send_21 C h wd (lv_sub hl [0] rfl)
  · have h := h.2 c3
    refine lv_aload_n hx hb dX10_send_8 rfl (lv_at hl 0 rfl) ?_
    refine lv_iload_n hx hb dX10_send_9 rfl (lv_at hl 2 rfl) ?_
    refine gCi wd (gRunV (y := yX10_isClerk) (k := 0) (As := [.int x2]) (rest := []) C wd (cmX10_isClerk h) ⟨rfl, rfl⟩ gd_X10_98 nk_X10_isClerk ⟨Nat.le_of_ble_eq_true rfl, Nat.le_of_ble_eq_true rfl⟩ (by decide) mc_X10 rfl rfl hl.1 (Nat.le_of_ble_eq_true rfl) dX10_send_10 rfl) (fun r5 t4 H locs h wd => ?_)
    try dsimp only at h
    refine lv_if_eq (tgt := 21) hx hb dX10_send_13 (by decide) (fun c6 => ?_) (fun c6 => ?_)
    · have h := h.1 c6
      exact blX10_send_21 C h wd (lv_sub hl [0] rfl)
    · have h := h.2 c6
      refine lv_iload_n hx hb dX10_send_16 rfl (lv_at hl 1 rfl) ?_
      refine lv_iload_n hx hb dX10_send_17 rfl (lv_at hl 2 rfl) ?_
      refine lv_icmp_ne (tgt := 28) hx hb dX10_send_18 (by decide) (fun c7 => ?_) (fun c7 => ?_)
      · have h := h.2 c7
        refine lv_aload_n hx hb dX10_send_28 rfl (lv_at hl 0 rfl) ?_
        refine lv_aload_n hx hb dX10_send_29 rfl (lv_at hl 0 rfl) ?_
        refine lv_iload_n hx hb dX10_send_30 rfl (lv_at hl 1 rfl) ?_
        refine lv_iload_n hx hb dX10_send_31 rfl (lv_at hl 2 rfl) ?_
        refine gCi wd (gRunV (y := yX10_sends) (k := 0) (As := [.int x1, .int x2]) (rest := [.ref (ad 0)]) C wd (cmX10_sends h) ⟨rfl, rfl⟩ gd_X10_111 nk_X10_sends ⟨Nat.le_of_ble_eq_true rfl, Nat.le_of_ble_eq_true rfl⟩ (by decide) mc_X10 rfl rfl hl.1 (Nat.le_of_ble_eq_true rfl) dX10_send_32 rfl) (fun r9 t8 H locs h wd => ?_)
        try dsimp only at h
        refine gCi wd (gRunV (y := yX10_tells) (k := 0) (As := [.int r9]) (rest := []) C wd (cmX10_tells h) ⟨rfl, rfl⟩ gd_X10_107 nk_X10_tells ⟨Nat.le_of_ble_eq_true rfl, Nat.le_of_ble_eq_true rfl⟩ (by decide) mc_X10 rfl rfl hl.1 (Nat.le_of_ble_eq_true rfl) dX10_send_35 rfl) (fun r11 t10 H locs h wd => ?_)
        try dsimp only at h
        exact retI C wd h dX10_send_38
      · have h := h.1 c7
        exact blX10_send_21 C h wd (lv_sub hl [0] rfl)
abbrev rmX10_isDead : Room := rmOf 0 0
def wbX10_isDead_44 (Φ : Int32 → St → Prop) (k_6 : Int32 → Int32 → Int32 → Int32 → St → Prop) (x1 : Int32) (x3 : Int32) (x5 : Int32) (z0 : Int32) (σ : St) : Prop :=
  (∀ y1 : Int32, y1 = x5 + (1 : Int32) → k_6 x1 x3 z0 y1 σ)
set_option maxHeartbeats 4000000 in
set_option maxRecDepth 100000 in
theorem blX10_isDead_44 {p : Program} {l : Launch} {e : Env} {s : State} {m : MethodId} {args : Array Value} {below : List Frame} {meth : Method} {c : Code} (C : Cx p s m args meth c cX10_isDead 6 (some .boolean) RX10) {Φ : Int32 → St → Prop} {k_6 : Int32 → Int32 → Int32 → Int32 → St → Prop} (hk_6 : ∀ (x1 : Int32) (x3 : Int32) (x4 : Int32) (x5 : Int32) (σ : St) (H : Heap) (locs : List Loc) (ls : Array Slot), k_6 x1 x3 x4 x5 σ → gWd D (tyL cyI cyO) (mCell ad cyI cyO) ad 16 s H locs σ → lv_has ls 6 [(0, .ref (ad 0)), (1, .int x1), (3, .int x3), (4, .int x4), (5, .int x5)] → W p l e rmX10_isDead s m args below meth c H locs 0 0 (MQ below (gQi D (mCell ad cyI cyO) ad 16 s.heap.size Φ) args s 0 0 (gA ad 16 s.heap.size)) (F0 m 6 ls [])) {x1 : Int32} {x3 : Int32} {x5 : Int32} {z0 : Int32} {σ : St} {H : Heap} {locs : List Loc} {ls : Array Slot} (h : wbX10_isDead_44 Φ k_6 x1 x3 x5 z0 σ) (wd : gWd D (tyL cyI cyO) (mCell ad cyI cyO) ad 16 s H locs σ) (hl : lv_has ls 6 [(0, .ref (ad 0)), (1, .int x1), (3, .int x3), (5, .int x5)]) : W p l e rmX10_isDead s m args below meth c H locs 0 0 (MQ below (gQi D (mCell ad cyI cyO) ad 16 s.heap.size Φ) args s 0 0 (gA ad 16 s.heap.size)) (F0 m 44 ls [.int z0]) := by
  obtain ⟨hx, hb, hr, hml, hown, hts, hlk⟩ := id C
  unfold wbX10_isDead_44 at h
  refine lv_istore (lv' := [(4, .int z0), (0, .ref (ad 0)), (1, .int x1), (3, .int x3), (5, .int x5)]) hx hb dX10_isDead_44 hl (by decide) rfl (fun ls hl => ?_)
  obtain ⟨y1, ey1⟩ : ∃ y : Int32, y = x5 + (1 : Int32) := ⟨_, rfl⟩
  refine lv_iinc (v := y1) (lv' := [(5, .int y1), (4, .int z0), (0, .ref (ad 0)), (1, .int x1), (3, .int x3)]) hx hb dX10_isDead_46 hl (k := 4) rfl (by rw [ey1]; rfl) (by decide) rfl (fun ls hl => ?_)
  have h := h y1 ey1
  refine lv_goto (tgt := 6) hx hb dX10_isDead_49 (by decide) ?_
  exact hk_6 _ _ _ _ _ _ _ _ h wd (lv_sub hl [2, 3, 4, 1, 0] rfl)
def wlX10_isDead_6_body (Φ : Int32 → St → Prop) (k_6 : Int32 → Int32 → Int32 → Int32 → St → Prop) (x1 : Int32) (x3 : Int32) (x4 : Int32) (x5 : Int32) (σ : St) : Prop :=
  (vp_in x1 5 ∧ (((rd σ 1 x1) ≤ x5 → (narrow .boolean (.int x4) = .int x4 ∧ Φ x4 σ)) ∧ (¬ (rd σ 1 x1) ≤ x5 → ((x4 = 0 → (vp_in (((128 : Int32) * x1) + x5) 640 ∧ ((x3 ≤ (rd σ 5 (((128 : Int32) * x1) + x5)) → wbX10_isDead_44 Φ k_6 x1 x3 x5 (0 : Int32) σ) ∧ (¬ x3 ≤ (rd σ 5 (((128 : Int32) * x1) + x5)) → wbX10_isDead_44 Φ k_6 x1 x3 x5 (1 : Int32) σ)))) ∧ (¬ x4 = 0 → wbX10_isDead_44 Φ k_6 x1 x3 x5 (1 : Int32) σ)))))
def wlX10_isDead_6 (Φ : Int32 → St → Prop) : Nat → Int32 → Int32 → Int32 → Int32 → St → Prop
  | 0 => fun _ _ _ _ _ => False
  | N + 1 => fun x1 x3 x4 x5 σ => wlX10_isDead_6_body Φ (wlX10_isDead_6 Φ N) x1 x3 x4 x5 σ
set_option maxHeartbeats 4000000 in
set_option maxRecDepth 100000 in
theorem llX10_isDead_6 {p : Program} {l : Launch} {e : Env} {s : State} {m : MethodId} {args : Array Value} {below : List Frame} {meth : Method} {c : Code} (C : Cx p s m args meth c cX10_isDead 6 (some .boolean) RX10) {Φ : Int32 → St → Prop} : ∀ (N : Nat) (x1 : Int32) (x3 : Int32) (x4 : Int32) (x5 : Int32) (σ : St) (H : Heap) (locs : List Loc) (ls : Array Slot), wlX10_isDead_6 Φ N x1 x3 x4 x5 σ → gWd D (tyL cyI cyO) (mCell ad cyI cyO) ad 16 s H locs σ → lv_has ls 6 [(0, .ref (ad 0)), (1, .int x1), (3, .int x3), (4, .int x4), (5, .int x5)] → W p l e rmX10_isDead s m args below meth c H locs 0 0 (MQ below (gQi D (mCell ad cyI cyO) ad 16 s.heap.size Φ) args s 0 0 (gA ad 16 s.heap.size)) (F0 m 6 ls []) := by
  obtain ⟨hx, hb, hr, hml, hown, hts, hlk⟩ := id C
  intro N
  induction N with
  | zero =>
    intro x1 x3 x4 x5 σ H locs ls h
    exact False.elim h
  | succ N ih =>
    intro x1 x3 x4 x5 σ H locs ls h wd hl
    have h : wlX10_isDead_6_body Φ (wlX10_isDead_6 Φ N) x1 x3 x4 x5 σ := h
    have hk_6 := ih
    unfold wlX10_isDead_6_body at h
    refine lv_iload hx hb dX10_isDead_6 (lv_at hl 4 rfl) ?_
    refine lv_aload_n hx hb dX10_isDead_8 rfl (lv_at hl 0 rfl) ?_
    refine getF C wd (k := 0) (Cn := RX10) (T := TX10) (N := 26) (v := .ref (ad 1)) (by decide) mc_X10 rfl 1 (by decide) rfl inX10 tw4_27 dX10_isDead_9 ?_
    refine lv_iload_n hx hb dX10_isDead_12 rfl (lv_at hl 1 rfl) ?_
    obtain ⟨hi1, h⟩ := h
    refine ldI C wd (k := 1) (N := 5) (by decide) mc_A1 hi1 dX10_isDead_13 ?_
    refine lv_icmp_ge (tgt := 52) hx hb dX10_isDead_14 (by decide) (fun c2 => ?_) (fun c2 => ?_)
    · have h := h.1 c2
      refine lv_iload hx hb dX10_isDead_52 (lv_at hl 3 rfl) ?_
      exact retZ C wd h.1 h.2 dX10_isDead_54
    · have h := h.2 c2
      refine lv_iload hx hb dX10_isDead_17 (lv_at hl 3 rfl) ?_
      refine lv_if_ne (tgt := 39) hx hb dX10_isDead_19 (by decide) (fun c3 => ?_) (fun c3 => ?_)
      · have h := h.2 c3
        refine lv_iconst (v := (1 : Int32)) hx hb dX10_isDead_39 (by decide) ?_
        refine lv_goto (tgt := 44) hx hb dX10_isDead_40 (by decide) ?_
        exact blX10_isDead_44 C hk_6 h wd (lv_sub hl [0, 1, 2, 4] rfl)
      · have h := h.1 c3
        refine lv_aload_n hx hb dX10_isDead_22 rfl (lv_at hl 0 rfl) ?_
        refine getF C wd (k := 0) (Cn := RX10) (T := TX10) (N := 26) (v := .ref (ad 5)) (by decide) mc_X10 rfl 5 (by decide) rfl inX10 tw4_31 dX10_isDead_23 ?_
        refine lv_sipush (v := (128 : Int32)) hx hb dX10_isDead_26 (by decide) ?_
        refine lv_iload_n hx hb dX10_isDead_29 rfl (lv_at hl 1 rfl) ?_
        refine lv_imul hx hb dX10_isDead_30 ?_
        refine lv_iload hx hb dX10_isDead_31 (lv_at hl 4 rfl) ?_
        refine lv_iadd hx hb dX10_isDead_33 ?_
        obtain ⟨hi4, h⟩ := h
        refine ldI C wd (k := 5) (N := 640) (by decide) mc_A5 hi4 dX10_isDead_34 ?_
        refine lv_iload_n hx hb dX10_isDead_35 rfl (lv_at hl 2 rfl) ?_
        refine lv_icmp_ge (tgt := 43) hx hb dX10_isDead_36 (by decide) (fun c5 => ?_) (fun c5 => ?_)
        · have h := h.1 c5
          refine lv_iconst (v := (0 : Int32)) hx hb dX10_isDead_43 (by decide) ?_
          exact blX10_isDead_44 C hk_6 h wd (lv_sub hl [0, 1, 2, 4] rfl)
        · have h := h.2 c5
          refine lv_iconst (v := (1 : Int32)) hx hb dX10_isDead_39 (by decide) ?_
          refine lv_goto (tgt := 44) hx hb dX10_isDead_40 (by decide) ?_
          exact blX10_isDead_44 C hk_6 h wd (lv_sub hl [0, 1, 2, 4] rfl)
def wpX10_isDead (x1 : Int32) (x2 : Int32) (x3 : Int32) (σ : St) (Φ : Int32 → St → Prop) : Prop :=
  (∃ N, wlX10_isDead_6 Φ N x1 x3 (0 : Int32) x2 σ)
set_option maxHeartbeats 4000000 in
set_option maxRecDepth 100000 in
theorem cmX10_isDead {D : va_G} {cyI cyO : ClassId} {ad : Nat → Nat} {l : Launch} {x1 : Int32} {x2 : Int32} {x3 : Int32} {σ : St} {sz : Nat} {Φ : Int32 → St → Prop} (h : wpX10_isDead x1 x2 x3 σ Φ) : gMet D (tyL cyI cyO) (mCell ad cyI cyO) ad 16 l yX10_isDead cX10_isDead 6 (some .boolean) rmX10_isDead [.ref (ad 0), .int x1, .int x2, .int x3] σ sz (gQi D (mCell ad cyI cyO) ad 16 sz Φ) := by
  refine gMet.of (by decide) (Nat.le_of_ble_eq_true rfl) ?_
  intro p e s m below meth c ls hsz C hl wd
  subst hsz
  have C : Cx p s m _ meth c cX10_isDead 6 (some .boolean) RX10 := C
  obtain ⟨hx, hb, hr, hml, hown, hts, hlk⟩ := id C
  have hl : lv_has ls 6 [(0, .ref (ad 0)), (1, .int x1), (2, .int x2), (3, .int x3)] := hl
  unfold wpX10_isDead at h
  refine lv_iconst (v := (0 : Int32)) hx hb dX10_isDead_0 (by decide) ?_
  refine lv_istore (lv' := [(4, .int (0 : Int32)), (0, .ref (ad 0)), (1, .int x1), (2, .int x2), (3, .int x3)]) hx hb dX10_isDead_1 hl (by decide) rfl (fun ls hl => ?_)
  refine lv_iload_n hx hb dX10_isDead_3 rfl (lv_at hl 3 rfl) ?_
  refine lv_istore (lv' := [(5, .int x2), (4, .int (0 : Int32)), (0, .ref (ad 0)), (1, .int x1), (2, .int x2), (3, .int x3)]) hx hb dX10_isDead_4 hl (by decide) rfl (fun ls hl => ?_)
  obtain ⟨N, h⟩ := h
  exact llX10_isDead_6 C N _ _ _ _ _ _ _ _ h wd (lv_sub hl [2, 3, 5, 1, 0] rfl)
abbrev rmX10_isDeadLetter : Room := rmOf 1 25
def wbX10_isDeadLetter_56 (Φ : Int32 → St → Prop) (k_4 : Int32 → Int32 → Int32 → St → Prop) (x1 : Int32) (x3 : Int32) (z0 : Int32) (σ : St) : Prop :=
  (∀ y1 : Int32, y1 = x3 + (1 : Int32) → k_4 x1 z0 y1 σ)
set_option maxHeartbeats 4000000 in
set_option maxRecDepth 100000 in
theorem blX10_isDeadLetter_56 {p : Program} {l : Launch} {e : Env} {s : State} {m : MethodId} {args : Array Value} {below : List Frame} {meth : Method} {c : Code} (C : Cx p s m args meth c cX10_isDeadLetter 4 (some .boolean) RX10) {Φ : Int32 → St → Prop} {k_4 : Int32 → Int32 → Int32 → St → Prop} (hk_4 : ∀ (x1 : Int32) (x2 : Int32) (x3 : Int32) (σ : St) (H : Heap) (locs : List Loc) (ls : Array Slot), k_4 x1 x2 x3 σ → gWd D (tyL cyI cyO) (mCell ad cyI cyO) ad 16 s H locs σ → lv_has ls 4 [(0, .ref (ad 0)), (1, .int x1), (2, .int x2), (3, .int x3)] → W p l e rmX10_isDeadLetter s m args below meth c H locs 0 0 (MQ below (gQi D (mCell ad cyI cyO) ad 16 s.heap.size Φ) args s 0 0 (gA ad 16 s.heap.size)) (F0 m 4 ls [])) {x1 : Int32} {x3 : Int32} {z0 : Int32} {σ : St} {H : Heap} {locs : List Loc} {ls : Array Slot} (h : wbX10_isDeadLetter_56 Φ k_4 x1 x3 z0 σ) (wd : gWd D (tyL cyI cyO) (mCell ad cyI cyO) ad 16 s H locs σ) (hl : lv_has ls 4 [(0, .ref (ad 0)), (1, .int x1), (3, .int x3)]) : W p l e rmX10_isDeadLetter s m args below meth c H locs 0 0 (MQ below (gQi D (mCell ad cyI cyO) ad 16 s.heap.size Φ) args s 0 0 (gA ad 16 s.heap.size)) (F0 m 56 ls [.int z0]) := by
  obtain ⟨hx, hb, hr, hml, hown, hts, hlk⟩ := id C
  unfold wbX10_isDeadLetter_56 at h
  refine lv_istore_n (lv' := [(2, .int z0), (0, .ref (ad 0)), (1, .int x1), (3, .int x3)]) hx hb dX10_isDeadLetter_56 rfl hl (by decide) rfl (fun ls hl => ?_)
  obtain ⟨y1, ey1⟩ : ∃ y : Int32, y = x3 + (1 : Int32) := ⟨_, rfl⟩
  refine lv_iinc (v := y1) (lv' := [(3, .int y1), (2, .int z0), (0, .ref (ad 0)), (1, .int x1)]) hx hb dX10_isDeadLetter_57 hl (k := 3) rfl (by rw [ey1]; rfl) (by decide) rfl (fun ls hl => ?_)
  have h := h y1 ey1
  refine lv_goto (tgt := 4) hx hb dX10_isDeadLetter_60 (by decide) ?_
  exact hk_4 _ _ _ _ _ _ _ h wd (lv_sub hl [2, 3, 1, 0] rfl)
def wlX10_isDeadLetter_4_body (Φ : Int32 → St → Prop) (k_4 : Int32 → Int32 → Int32 → St → Prop) (x1 : Int32) (x2 : Int32) (x3 : Int32) (σ : St) : Prop :=
  (((σ.1 0) ≤ x3 → (narrow .boolean (.int x2) = .int x2 ∧ Φ x2 σ)) ∧ (¬ (σ.1 0) ≤ x3 → ((x2 = 0 → (vp_in ((((13 : Int32) * x1) + (3 : Int32)) + x3) 520 ∧ (vp_in ((((13 : Int32) * x1) + (8 : Int32)) + x3) 520 ∧ wpX10_isDead x3 (rd σ 10 ((((13 : Int32) * x1) + (3 : Int32)) + x3)) (rd σ 10 ((((13 : Int32) * x1) + (8 : Int32)) + x3)) σ (fun r6 t5 => ((r6 = 0 → wbX10_isDeadLetter_56 Φ k_4 x1 x3 (0 : Int32) t5) ∧ (¬ r6 = 0 → wbX10_isDeadLetter_56 Φ k_4 x1 x3 (1 : Int32) t5)))))) ∧ (¬ x2 = 0 → wbX10_isDeadLetter_56 Φ k_4 x1 x3 (1 : Int32) σ))))
def wlX10_isDeadLetter_4 (Φ : Int32 → St → Prop) : Nat → Int32 → Int32 → Int32 → St → Prop
  | 0 => fun _ _ _ _ => False
  | N + 1 => fun x1 x2 x3 σ => wlX10_isDeadLetter_4_body Φ (wlX10_isDeadLetter_4 Φ N) x1 x2 x3 σ
set_option maxHeartbeats 4000000 in
set_option maxRecDepth 100000 in
theorem llX10_isDeadLetter_4 {p : Program} {l : Launch} {e : Env} {s : State} {m : MethodId} {args : Array Value} {below : List Frame} {meth : Method} {c : Code} (C : Cx p s m args meth c cX10_isDeadLetter 4 (some .boolean) RX10) {Φ : Int32 → St → Prop} : ∀ (N : Nat) (x1 : Int32) (x2 : Int32) (x3 : Int32) (σ : St) (H : Heap) (locs : List Loc) (ls : Array Slot), wlX10_isDeadLetter_4 Φ N x1 x2 x3 σ → gWd D (tyL cyI cyO) (mCell ad cyI cyO) ad 16 s H locs σ → lv_has ls 4 [(0, .ref (ad 0)), (1, .int x1), (2, .int x2), (3, .int x3)] → W p l e rmX10_isDeadLetter s m args below meth c H locs 0 0 (MQ below (gQi D (mCell ad cyI cyO) ad 16 s.heap.size Φ) args s 0 0 (gA ad 16 s.heap.size)) (F0 m 4 ls []) := by
  obtain ⟨hx, hb, hr, hml, hown, hts, hlk⟩ := id C
  intro N
  induction N with
  | zero =>
    intro x1 x2 x3 σ H locs ls h
    exact False.elim h
  | succ N ih =>
    intro x1 x2 x3 σ H locs ls h wd hl
    have h : wlX10_isDeadLetter_4_body Φ (wlX10_isDeadLetter_4 Φ N) x1 x2 x3 σ := h
    have hk_4 := ih
    unfold wlX10_isDeadLetter_4_body at h
    refine lv_iload_n hx hb dX10_isDeadLetter_4 rfl (lv_at hl 3 rfl) ?_
    refine lv_aload_n hx hb dX10_isDeadLetter_5 rfl (lv_at hl 0 rfl) ?_
    refine getF C wd (k := 0) (Cn := RX10) (T := TX10) (N := 26) (v := .int (σ.1 0)) (by decide) mc_X10 rfl 0 (by decide) rfl inX10 tw4_26 dX10_isDeadLetter_6 ?_
    refine lv_icmp_ge (tgt := 63) hx hb dX10_isDeadLetter_9 (by decide) (fun c1 => ?_) (fun c1 => ?_)
    · have h := h.1 c1
      refine lv_iload_n hx hb dX10_isDeadLetter_63 rfl (lv_at hl 2 rfl) ?_
      exact retZ C wd h.1 h.2 dX10_isDeadLetter_64
    · have h := h.2 c1
      refine lv_iload_n hx hb dX10_isDeadLetter_12 rfl (lv_at hl 2 rfl) ?_
      refine lv_if_ne (tgt := 51) hx hb dX10_isDeadLetter_13 (by decide) (fun c2 => ?_) (fun c2 => ?_)
      · have h := h.2 c2
        refine lv_iconst (v := (1 : Int32)) hx hb dX10_isDeadLetter_51 (by decide) ?_
        refine lv_goto (tgt := 56) hx hb dX10_isDeadLetter_52 (by decide) ?_
        exact blX10_isDeadLetter_56 C hk_4 h wd (lv_sub hl [0, 1, 3] rfl)
      · have h := h.1 c2
        refine lv_aload_n hx hb dX10_isDeadLetter_16 rfl (lv_at hl 0 rfl) ?_
        refine lv_iload_n hx hb dX10_isDeadLetter_17 rfl (lv_at hl 3 rfl) ?_
        refine lv_aload_n hx hb dX10_isDeadLetter_18 rfl (lv_at hl 0 rfl) ?_
        refine getF C wd (k := 0) (Cn := RX10) (T := TX10) (N := 26) (v := .ref (ad 10)) (by decide) mc_X10 rfl 10 (by decide) rfl inX10 tw4_36 dX10_isDeadLetter_19 ?_
        refine lv_bipush (v := (13 : Int32)) hx hb dX10_isDeadLetter_22 (by decide) ?_
        refine lv_iload_n hx hb dX10_isDeadLetter_24 rfl (lv_at hl 1 rfl) ?_
        refine lv_imul hx hb dX10_isDeadLetter_25 ?_
        refine lv_iconst (v := (3 : Int32)) hx hb dX10_isDeadLetter_26 (by decide) ?_
        refine lv_iadd hx hb dX10_isDeadLetter_27 ?_
        refine lv_iload_n hx hb dX10_isDeadLetter_28 rfl (lv_at hl 3 rfl) ?_
        refine lv_iadd hx hb dX10_isDeadLetter_29 ?_
        obtain ⟨hi3, h⟩ := h
        refine ldI C wd (k := 10) (N := 520) (by decide) mc_A10 hi3 dX10_isDeadLetter_30 ?_
        refine lv_aload_n hx hb dX10_isDeadLetter_31 rfl (lv_at hl 0 rfl) ?_
        refine getF C wd (k := 0) (Cn := RX10) (T := TX10) (N := 26) (v := .ref (ad 10)) (by decide) mc_X10 rfl 10 (by decide) rfl inX10 tw4_36 dX10_isDeadLetter_32 ?_
        refine lv_bipush (v := (13 : Int32)) hx hb dX10_isDeadLetter_35 (by decide) ?_
        refine lv_iload_n hx hb dX10_isDeadLetter_37 rfl (lv_at hl 1 rfl) ?_
        refine lv_imul hx hb dX10_isDeadLetter_38 ?_
        refine lv_bipush (v := (8 : Int32)) hx hb dX10_isDeadLetter_39 (by decide) ?_
        refine lv_iadd hx hb dX10_isDeadLetter_41 ?_
        refine lv_iload_n hx hb dX10_isDeadLetter_42 rfl (lv_at hl 3 rfl) ?_
        refine lv_iadd hx hb dX10_isDeadLetter_43 ?_
        obtain ⟨hi4, h⟩ := h
        refine ldI C wd (k := 10) (N := 520) (by decide) mc_A10 hi4 dX10_isDeadLetter_44 ?_
        refine gCi wd (gRunV (y := yX10_isDead) (k := 0) (As := [.int x3, .int (rd σ 10 ((((13 : Int32) * x1) + (3 : Int32)) + x3)), .int (rd σ 10 ((((13 : Int32) * x1) + (8 : Int32)) + x3))]) (rest := []) C wd (cmX10_isDead h) ⟨rfl, rfl⟩ gd_X10_114 nk_X10_isDead ⟨Nat.le_of_ble_eq_true rfl, Nat.le_of_ble_eq_true rfl⟩ (by decide) mc_X10 rfl rfl hl.1 (Nat.le_of_ble_eq_true rfl) dX10_isDeadLetter_45 rfl) (fun r6 t5 H locs h wd => ?_)
        try dsimp only at h
        refine lv_if_eq (tgt := 55) hx hb dX10_isDeadLetter_48 (by decide) (fun c7 => ?_) (fun c7 => ?_)
        · have h := h.1 c7
          refine lv_iconst (v := (0 : Int32)) hx hb dX10_isDeadLetter_55 (by decide) ?_
          exact blX10_isDeadLetter_56 C hk_4 h wd (lv_sub hl [0, 1, 3] rfl)
        · have h := h.2 c7
          refine lv_iconst (v := (1 : Int32)) hx hb dX10_isDeadLetter_51 (by decide) ?_
          refine lv_goto (tgt := 56) hx hb dX10_isDeadLetter_52 (by decide) ?_
          exact blX10_isDeadLetter_56 C hk_4 h wd (lv_sub hl [0, 1, 3] rfl)
def wpX10_isDeadLetter (x1 : Int32) (σ : St) (Φ : Int32 → St → Prop) : Prop :=
  (∃ N, wlX10_isDeadLetter_4 Φ N x1 (0 : Int32) (0 : Int32) σ)
set_option maxHeartbeats 4000000 in
set_option maxRecDepth 100000 in
theorem cmX10_isDeadLetter {D : va_G} {cyI cyO : ClassId} {ad : Nat → Nat} {l : Launch} {x1 : Int32} {σ : St} {sz : Nat} {Φ : Int32 → St → Prop} (h : wpX10_isDeadLetter x1 σ Φ) : gMet D (tyL cyI cyO) (mCell ad cyI cyO) ad 16 l yX10_isDeadLetter cX10_isDeadLetter 4 (some .boolean) rmX10_isDeadLetter [.ref (ad 0), .int x1] σ sz (gQi D (mCell ad cyI cyO) ad 16 sz Φ) := by
  refine gMet.of (by decide) (Nat.le_of_ble_eq_true rfl) ?_
  intro p e s m below meth c ls hsz C hl wd
  subst hsz
  have C : Cx p s m _ meth c cX10_isDeadLetter 4 (some .boolean) RX10 := C
  obtain ⟨hx, hb, hr, hml, hown, hts, hlk⟩ := id C
  have hl : lv_has ls 4 [(0, .ref (ad 0)), (1, .int x1)] := hl
  unfold wpX10_isDeadLetter at h
  refine lv_iconst (v := (0 : Int32)) hx hb dX10_isDeadLetter_0 (by decide) ?_
  refine lv_istore_n (lv' := [(2, .int (0 : Int32)), (0, .ref (ad 0)), (1, .int x1)]) hx hb dX10_isDeadLetter_1 rfl hl (by decide) rfl (fun ls hl => ?_)
  refine lv_iconst (v := (0 : Int32)) hx hb dX10_isDeadLetter_2 (by decide) ?_
  refine lv_istore_n (lv' := [(3, .int (0 : Int32)), (2, .int (0 : Int32)), (0, .ref (ad 0)), (1, .int x1)]) hx hb dX10_isDeadLetter_3 rfl hl (by decide) rfl (fun ls hl => ?_)
  obtain ⟨N, h⟩ := h
  exact llX10_isDeadLetter_4 C N _ _ _ _ _ _ _ h wd (lv_sub hl [2, 3, 1, 0] rfl)
abbrev rmX10_letterAt : Room := rmOf 0 0
def wbX10_letterAt_38 (Φ : Int32 → St → Prop) (k_5 : Int32 → Int32 → Int32 → St → Prop) (x1 : Int32) (x3 : Int32) (x4 : Int32) (σ : St) : Prop :=
  (∀ y1 : Int32, y1 = x4 + (1 : Int32) → k_5 x1 x3 y1 σ)
set_option maxHeartbeats 4000000 in
set_option maxRecDepth 100000 in
theorem blX10_letterAt_38 {p : Program} {l : Launch} {e : Env} {s : State} {m : MethodId} {args : Array Value} {below : List Frame} {meth : Method} {c : Code} (C : Cx p s m args meth c cX10_letterAt 5 (some .int) RX10) {Φ : Int32 → St → Prop} {k_5 : Int32 → Int32 → Int32 → St → Prop} (hk_5 : ∀ (x1 : Int32) (x3 : Int32) (x4 : Int32) (σ : St) (H : Heap) (locs : List Loc) (ls : Array Slot), k_5 x1 x3 x4 σ → gWd D (tyL cyI cyO) (mCell ad cyI cyO) ad 16 s H locs σ → lv_has ls 5 [(0, .ref (ad 0)), (1, .int x1), (3, .int x3), (4, .int x4)] → W p l e rmX10_letterAt s m args below meth c H locs 0 0 (MQ below (gQi D (mCell ad cyI cyO) ad 16 s.heap.size Φ) args s 0 0 (gA ad 16 s.heap.size)) (F0 m 5 ls [])) {x1 : Int32} {x3 : Int32} {x4 : Int32} {σ : St} {H : Heap} {locs : List Loc} {ls : Array Slot} (h : wbX10_letterAt_38 Φ k_5 x1 x3 x4 σ) (wd : gWd D (tyL cyI cyO) (mCell ad cyI cyO) ad 16 s H locs σ) (hl : lv_has ls 5 [(0, .ref (ad 0)), (1, .int x1), (3, .int x3), (4, .int x4)]) : W p l e rmX10_letterAt s m args below meth c H locs 0 0 (MQ below (gQi D (mCell ad cyI cyO) ad 16 s.heap.size Φ) args s 0 0 (gA ad 16 s.heap.size)) (F0 m 38 ls []) := by
  obtain ⟨hx, hb, hr, hml, hown, hts, hlk⟩ := id C
  unfold wbX10_letterAt_38 at h
  obtain ⟨y1, ey1⟩ : ∃ y : Int32, y = x4 + (1 : Int32) := ⟨_, rfl⟩
  refine lv_iinc (v := y1) (lv' := [(4, .int y1), (0, .ref (ad 0)), (1, .int x1), (3, .int x3)]) hx hb dX10_letterAt_38 hl (k := 3) rfl (by rw [ey1]; rfl) (by decide) rfl (fun ls hl => ?_)
  have h := h y1 ey1
  refine lv_goto (tgt := 5) hx hb dX10_letterAt_41 (by decide) ?_
  exact hk_5 _ _ _ _ _ _ _ h wd (lv_sub hl [1, 2, 3, 0] rfl)
def wlX10_letterAt_5_body (Φ : Int32 → St → Prop) (k_5 : Int32 → Int32 → Int32 → St → Prop) (x1 : Int32) (x3 : Int32) (x4 : Int32) (σ : St) : Prop :=
  (((σ.1 11) ≤ x4 → Φ (-1 : Int32) σ) ∧ (¬ (σ.1 11) ≤ x4 → (vp_in ((13 : Int32) * x4) 520 ∧ (((rd σ 10 ((13 : Int32) * x4)) = x1 → ((x3 = 0 → Φ x4 σ) ∧ (¬ x3 = 0 → (∀ y5 : Int32, y5 = x3 + (-1 : Int32) → wbX10_letterAt_38 Φ k_5 x1 y5 x4 σ)))) ∧ (¬ (rd σ 10 ((13 : Int32) * x4)) = x1 → wbX10_letterAt_38 Φ k_5 x1 x3 x4 σ)))))
def wlX10_letterAt_5 (Φ : Int32 → St → Prop) : Nat → Int32 → Int32 → Int32 → St → Prop
  | 0 => fun _ _ _ _ => False
  | N + 1 => fun x1 x3 x4 σ => wlX10_letterAt_5_body Φ (wlX10_letterAt_5 Φ N) x1 x3 x4 σ
set_option maxHeartbeats 4000000 in
set_option maxRecDepth 100000 in
theorem llX10_letterAt_5 {p : Program} {l : Launch} {e : Env} {s : State} {m : MethodId} {args : Array Value} {below : List Frame} {meth : Method} {c : Code} (C : Cx p s m args meth c cX10_letterAt 5 (some .int) RX10) {Φ : Int32 → St → Prop} : ∀ (N : Nat) (x1 : Int32) (x3 : Int32) (x4 : Int32) (σ : St) (H : Heap) (locs : List Loc) (ls : Array Slot), wlX10_letterAt_5 Φ N x1 x3 x4 σ → gWd D (tyL cyI cyO) (mCell ad cyI cyO) ad 16 s H locs σ → lv_has ls 5 [(0, .ref (ad 0)), (1, .int x1), (3, .int x3), (4, .int x4)] → W p l e rmX10_letterAt s m args below meth c H locs 0 0 (MQ below (gQi D (mCell ad cyI cyO) ad 16 s.heap.size Φ) args s 0 0 (gA ad 16 s.heap.size)) (F0 m 5 ls []) := by
  obtain ⟨hx, hb, hr, hml, hown, hts, hlk⟩ := id C
  intro N
  induction N with
  | zero =>
    intro x1 x3 x4 σ H locs ls h
    exact False.elim h
  | succ N ih =>
    intro x1 x3 x4 σ H locs ls h wd hl
    have h : wlX10_letterAt_5_body Φ (wlX10_letterAt_5 Φ N) x1 x3 x4 σ := h
    have hk_5 := ih
    unfold wlX10_letterAt_5_body at h
    refine lv_iload hx hb dX10_letterAt_5 (lv_at hl 3 rfl) ?_
    refine lv_aload_n hx hb dX10_letterAt_7 rfl (lv_at hl 0 rfl) ?_
    refine getF C wd (k := 0) (Cn := RX10) (T := TX10) (N := 26) (v := .int (σ.1 11)) (by decide) mc_X10 rfl 11 (by decide) rfl inX10 tw4_37 dX10_letterAt_8 ?_
    refine lv_icmp_ge (tgt := 44) hx hb dX10_letterAt_11 (by decide) (fun c1 => ?_) (fun c1 => ?_)
    · have h := h.1 c1
      refine lv_iconst (v := (-1 : Int32)) hx hb dX10_letterAt_44 (by decide) ?_
      exact retI C wd h dX10_letterAt_45
    · have h := h.2 c1
      refine lv_aload_n hx hb dX10_letterAt_14 rfl (lv_at hl 0 rfl) ?_
      refine getF C wd (k := 0) (Cn := RX10) (T := TX10) (N := 26) (v := .ref (ad 10)) (by decide) mc_X10 rfl 10 (by decide) rfl inX10 tw4_36 dX10_letterAt_15 ?_
      refine lv_bipush (v := (13 : Int32)) hx hb dX10_letterAt_18 (by decide) ?_
      refine lv_iload hx hb dX10_letterAt_20 (lv_at hl 3 rfl) ?_
      refine lv_imul hx hb dX10_letterAt_22 ?_
      obtain ⟨hi2, h⟩ := h
      refine ldI C wd (k := 10) (N := 520) (by decide) mc_A10 hi2 dX10_letterAt_23 ?_
      refine lv_iload_n hx hb dX10_letterAt_24 rfl (lv_at hl 1 rfl) ?_
      refine lv_icmp_ne (tgt := 38) hx hb dX10_letterAt_25 (by decide) (fun c3 => ?_) (fun c3 => ?_)
      · have h := h.2 c3
        exact blX10_letterAt_38 C hk_5 h wd (lv_sub hl [0, 1, 2, 3] rfl)
      · have h := h.1 c3
        refine lv_iload_n hx hb dX10_letterAt_28 rfl (lv_at hl 2 rfl) ?_
        refine lv_if_ne (tgt := 35) hx hb dX10_letterAt_29 (by decide) (fun c4 => ?_) (fun c4 => ?_)
        · have h := h.2 c4
          obtain ⟨y5, ey5⟩ : ∃ y : Int32, y = x3 + (-1 : Int32) := ⟨_, rfl⟩
          refine lv_iinc (v := y5) (lv' := [(3, .int y5), (0, .ref (ad 0)), (1, .int x1), (4, .int x4)]) hx hb dX10_letterAt_35 hl (k := 2) rfl (by rw [ey5]; rfl) (by decide) rfl (fun ls hl => ?_)
          have h := h y5 ey5
          exact blX10_letterAt_38 C hk_5 h wd (lv_sub hl [1, 2, 0, 3] rfl)
        · have h := h.1 c4
          refine lv_iload hx hb dX10_letterAt_32 (lv_at hl 3 rfl) ?_
          exact retI C wd h dX10_letterAt_34
def wpX10_letterAt (x1 : Int32) (x2 : Int32) (σ : St) (Φ : Int32 → St → Prop) : Prop :=
  (∃ N, wlX10_letterAt_5 Φ N x1 x2 (0 : Int32) σ)
set_option maxHeartbeats 4000000 in
set_option maxRecDepth 100000 in
theorem cmX10_letterAt {D : va_G} {cyI cyO : ClassId} {ad : Nat → Nat} {l : Launch} {x1 : Int32} {x2 : Int32} {σ : St} {sz : Nat} {Φ : Int32 → St → Prop} (h : wpX10_letterAt x1 x2 σ Φ) : gMet D (tyL cyI cyO) (mCell ad cyI cyO) ad 16 l yX10_letterAt cX10_letterAt 5 (some .int) rmX10_letterAt [.ref (ad 0), .int x1, .int x2] σ sz (gQi D (mCell ad cyI cyO) ad 16 sz Φ) := by
  refine gMet.of (by decide) (Nat.le_of_ble_eq_true rfl) ?_
  intro p e s m below meth c ls hsz C hl wd
  subst hsz
  have C : Cx p s m _ meth c cX10_letterAt 5 (some .int) RX10 := C
  obtain ⟨hx, hb, hr, hml, hown, hts, hlk⟩ := id C
  have hl : lv_has ls 5 [(0, .ref (ad 0)), (1, .int x1), (2, .int x2)] := hl
  unfold wpX10_letterAt at h
  refine lv_iload_n hx hb dX10_letterAt_0 rfl (lv_at hl 2 rfl) ?_
  refine lv_istore_n (lv' := [(3, .int x2), (0, .ref (ad 0)), (1, .int x1), (2, .int x2)]) hx hb dX10_letterAt_1 rfl hl (by decide) rfl (fun ls hl => ?_)
  refine lv_iconst (v := (0 : Int32)) hx hb dX10_letterAt_2 (by decide) ?_
  refine lv_istore (lv' := [(4, .int (0 : Int32)), (3, .int x2), (0, .ref (ad 0)), (1, .int x1), (2, .int x2)]) hx hb dX10_letterAt_3 hl (by decide) rfl (fun ls hl => ?_)
  obtain ⟨N, h⟩ := h
  exact llX10_letterAt_5 C N _ _ _ _ _ _ _ h wd (lv_sub hl [2, 3, 1, 0] rfl)
abbrev rmX10_takeLetter : Room := rmOf 0 0
def wlX10_takeLetter_15_body (Φ : St → Prop) (k_15 : Int32 → St → Prop) (x2 : Int32) (σ : St) : Prop :=
  ((((13 : Int32) * (σ.1 11)) ≤ x2 → Φ σ) ∧ (¬ ((13 : Int32) * (σ.1 11)) ≤ x2 → (vp_in (x2 + (13 : Int32)) 520 ∧ (vp_in x2 520 ∧ ∀ t4 : St, t4 = wr σ 10 x2 (rd σ 10 (x2 + (13 : Int32))) → (∀ y5 : Int32, y5 = x2 + (1 : Int32) → k_15 y5 t4)))))
def wlX10_takeLetter_15 (Φ : St → Prop) : Nat → Int32 → St → Prop
  | 0 => fun _ _ => False
  | N + 1 => fun x2 σ => wlX10_takeLetter_15_body Φ (wlX10_takeLetter_15 Φ N) x2 σ
set_option maxHeartbeats 4000000 in
set_option maxRecDepth 100000 in
theorem llX10_takeLetter_15 {p : Program} {l : Launch} {e : Env} {s : State} {m : MethodId} {args : Array Value} {below : List Frame} {meth : Method} {c : Code} (C : Cx p s m args meth c cX10_takeLetter 3 none RX10) {Φ : St → Prop} : ∀ (N : Nat) (x2 : Int32) (σ : St) (H : Heap) (locs : List Loc) (ls : Array Slot), wlX10_takeLetter_15 Φ N x2 σ → gWd D (tyL cyI cyO) (mCell ad cyI cyO) ad 16 s H locs σ → lv_has ls 3 [(0, .ref (ad 0)), (2, .int x2)] → W p l e rmX10_takeLetter s m args below meth c H locs 0 0 (MQ below (gQv D (mCell ad cyI cyO) ad 16 s.heap.size Φ) args s 0 0 (gA ad 16 s.heap.size)) (F0 m 15 ls []) := by
  obtain ⟨hx, hb, hr, hml, hown, hts, hlk⟩ := id C
  intro N
  induction N with
  | zero =>
    intro x2 σ H locs ls h
    exact False.elim h
  | succ N ih =>
    intro x2 σ H locs ls h wd hl
    have h : wlX10_takeLetter_15_body Φ (wlX10_takeLetter_15 Φ N) x2 σ := h
    have hk_15 := ih
    unfold wlX10_takeLetter_15_body at h
    refine lv_iload_n hx hb dX10_takeLetter_15 rfl (lv_at hl 1 rfl) ?_
    refine lv_bipush (v := (13 : Int32)) hx hb dX10_takeLetter_16 (by decide) ?_
    refine lv_aload_n hx hb dX10_takeLetter_18 rfl (lv_at hl 0 rfl) ?_
    refine getF C wd (k := 0) (Cn := RX10) (T := TX10) (N := 26) (v := .int (σ.1 11)) (by decide) mc_X10 rfl 11 (by decide) rfl inX10 tw4_37 dX10_takeLetter_19 ?_
    refine lv_imul hx hb dX10_takeLetter_22 ?_
    refine lv_icmp_ge (tgt := 47) hx hb dX10_takeLetter_23 (by decide) (fun c1 => ?_) (fun c1 => ?_)
    · have h := h.1 c1
      exact retV C wd h dX10_takeLetter_47
    · have h := h.2 c1
      refine lv_aload_n hx hb dX10_takeLetter_26 rfl (lv_at hl 0 rfl) ?_
      refine getF C wd (k := 0) (Cn := RX10) (T := TX10) (N := 26) (v := .ref (ad 10)) (by decide) mc_X10 rfl 10 (by decide) rfl inX10 tw4_36 dX10_takeLetter_27 ?_
      refine lv_iload_n hx hb dX10_takeLetter_30 rfl (lv_at hl 1 rfl) ?_
      refine lv_aload_n hx hb dX10_takeLetter_31 rfl (lv_at hl 0 rfl) ?_
      refine getF C wd (k := 0) (Cn := RX10) (T := TX10) (N := 26) (v := .ref (ad 10)) (by decide) mc_X10 rfl 10 (by decide) rfl inX10 tw4_36 dX10_takeLetter_32 ?_
      refine lv_iload_n hx hb dX10_takeLetter_35 rfl (lv_at hl 1 rfl) ?_
      refine lv_bipush (v := (13 : Int32)) hx hb dX10_takeLetter_36 (by decide) ?_
      refine lv_iadd hx hb dX10_takeLetter_38 ?_
      obtain ⟨hi2, h⟩ := h
      refine ldI C wd (k := 10) (N := 520) (by decide) mc_A10 hi2 dX10_takeLetter_39 ?_
      obtain ⟨hi3, h⟩ := h
      refine stI C wd (k := 10) (N := 520) (by decide) mc_A10 ms_A10 hi3 dX10_takeLetter_40 (fun H locs wd => ?_)
      obtain ⟨t4, et4⟩ : ∃ z : St, z = wr σ 10 x2 (rd σ 10 (x2 + (13 : Int32))) := ⟨_, rfl⟩
      rw [← et4] at wd
      have h := h t4 et4
      obtain ⟨y5, ey5⟩ : ∃ y : Int32, y = x2 + (1 : Int32) := ⟨_, rfl⟩
      refine lv_iinc (v := y5) (lv' := [(2, .int y5), (0, .ref (ad 0))]) hx hb dX10_takeLetter_41 hl (k := 1) rfl (by rw [ey5]; rfl) (by decide) rfl (fun ls hl => ?_)
      have h := h y5 ey5
      refine lv_goto (tgt := 15) hx hb dX10_takeLetter_44 (by decide) ?_
      exact hk_15 _ _ _ _ _ h wd (lv_sub hl [1, 0] rfl)
def wpX10_takeLetter (x1 : Int32) (σ : St) (Φ : St → Prop) : Prop :=
  (∀ t1 : St, t1 = setI σ 11 ((σ.1 11) - (1 : Int32)) → (∀ y2 : Int32, y2 = (13 : Int32) * x1 → (∃ N, wlX10_takeLetter_15 Φ N y2 t1)))
set_option maxHeartbeats 4000000 in
set_option maxRecDepth 100000 in
theorem cmX10_takeLetter {D : va_G} {cyI cyO : ClassId} {ad : Nat → Nat} {l : Launch} {x1 : Int32} {σ : St} {sz : Nat} {Φ : St → Prop} (h : wpX10_takeLetter x1 σ Φ) : gMet D (tyL cyI cyO) (mCell ad cyI cyO) ad 16 l yX10_takeLetter cX10_takeLetter 3 none rmX10_takeLetter [.ref (ad 0), .int x1] σ sz (gQv D (mCell ad cyI cyO) ad 16 sz Φ) := by
  refine gMet.of (by decide) (Nat.le_of_ble_eq_true rfl) ?_
  intro p e s m below meth c ls hsz C hl wd
  subst hsz
  have C : Cx p s m _ meth c cX10_takeLetter 3 none RX10 := C
  obtain ⟨hx, hb, hr, hml, hown, hts, hlk⟩ := id C
  have hl : lv_has ls 3 [(0, .ref (ad 0)), (1, .int x1)] := hl
  unfold wpX10_takeLetter at h
  refine lv_aload_n hx hb dX10_takeLetter_0 rfl (lv_at hl 0 rfl) ?_
  refine lv_dup hx hb dX10_takeLetter_1 rfl ?_
  refine getF C wd (k := 0) (Cn := RX10) (T := TX10) (N := 26) (v := .int (σ.1 11)) (by decide) mc_X10 rfl 11 (by decide) rfl inX10 tw4_37 dX10_takeLetter_2 ?_
  refine lv_iconst (v := (1 : Int32)) hx hb dX10_takeLetter_5 (by decide) ?_
  refine lv_isub hx hb dX10_takeLetter_6 ?_
  refine putF C wd (k := 0) (Cn := RX10) (T := TX10) (N := 26) (σ' := setI σ 11 ((σ.1 11) - (1 : Int32))) (by decide) mc_X10 rfl tyX10_ok nmX10 11 (by decide) rfl (by decide +kernel) (Nat.le_of_ble_eq_true rfl) inX10 tw4_37 ms_X10_lettersMany dX10_takeLetter_7 (fun H locs wd => ?_)
  obtain ⟨t1, et1⟩ : ∃ z : St, z = setI σ 11 ((σ.1 11) - (1 : Int32)) := ⟨_, rfl⟩
  rw [← et1] at wd
  have h := h t1 et1
  refine lv_bipush (v := (13 : Int32)) hx hb dX10_takeLetter_10 (by decide) ?_
  refine lv_iload_n hx hb dX10_takeLetter_12 rfl (lv_at hl 1 rfl) ?_
  refine lv_imul hx hb dX10_takeLetter_13 ?_
  refine lv_topi (fun y2 ey2 => ?_)
  have h := h y2 ey2
  refine lv_istore_n (lv' := [(2, .int y2), (0, .ref (ad 0)), (1, .int x1)]) hx hb dX10_takeLetter_14 rfl hl (by decide) rfl (fun ls hl => ?_)
  obtain ⟨N, h⟩ := h
  exact llX10_takeLetter_15 C N _ _ _ _ _ h wd (lv_sub hl [1, 0] rfl)
abbrev rmX10_gets : Room := rmOf 3 67
def wbX10_gets_185 (Φ : Int32 → St → Prop) (k_61 : Int32 → Int32 → Int32 → Int32 → St → Prop) (x1 : Int32) (x3 : Int32) (x4 : Int32) (x5 : Int32) (σ : St) : Prop :=
  (∀ y1 : Int32, y1 = x5 + (1 : Int32) → k_61 x1 x3 x4 y1 σ)
set_option maxHeartbeats 4000000 in
set_option maxRecDepth 100000 in
theorem blX10_gets_185 {p : Program} {l : Launch} {e : Env} {s : State} {m : MethodId} {args : Array Value} {below : List Frame} {meth : Method} {c : Code} (C : Cx p s m args meth c cX10_gets 10 (some .int) RX10) {Φ : Int32 → St → Prop} {k_61 : Int32 → Int32 → Int32 → Int32 → St → Prop} (hk_61 : ∀ (x1 : Int32) (x3 : Int32) (x4 : Int32) (x5 : Int32) (σ : St) (H : Heap) (locs : List Loc) (ls : Array Slot), k_61 x1 x3 x4 x5 σ → gWd D (tyL cyI cyO) (mCell ad cyI cyO) ad 16 s H locs σ → lv_has ls 10 [(0, .ref (ad 0)), (1, .int x1), (3, .int x3), (4, .int x4), (5, .int x5)] → W p l e rmX10_gets s m args below meth c H locs 0 0 (MQ below (gQi D (mCell ad cyI cyO) ad 16 s.heap.size Φ) args s 0 0 (gA ad 16 s.heap.size)) (F0 m 61 ls [])) {x1 : Int32} {x3 : Int32} {x4 : Int32} {x5 : Int32} {σ : St} {H : Heap} {locs : List Loc} {ls : Array Slot} (h : wbX10_gets_185 Φ k_61 x1 x3 x4 x5 σ) (wd : gWd D (tyL cyI cyO) (mCell ad cyI cyO) ad 16 s H locs σ) (hl : lv_has ls 10 [(0, .ref (ad 0)), (1, .int x1), (3, .int x3), (4, .int x4), (5, .int x5)]) : W p l e rmX10_gets s m args below meth c H locs 0 0 (MQ below (gQi D (mCell ad cyI cyO) ad 16 s.heap.size Φ) args s 0 0 (gA ad 16 s.heap.size)) (F0 m 185 ls []) := by
  obtain ⟨hx, hb, hr, hml, hown, hts, hlk⟩ := id C
  unfold wbX10_gets_185 at h
  obtain ⟨y1, ey1⟩ : ∃ y : Int32, y = x5 + (1 : Int32) := ⟨_, rfl⟩
  refine lv_iinc (v := y1) (lv' := [(5, .int y1), (0, .ref (ad 0)), (1, .int x1), (3, .int x3), (4, .int x4)]) hx hb dX10_gets_185 hl (k := 4) rfl (by rw [ey1]; rfl) (by decide) rfl (fun ls hl => ?_)
  have h := h y1 ey1
  refine lv_goto (tgt := 61) hx hb dX10_gets_188 (by decide) ?_
  exact hk_61 _ _ _ _ _ _ _ _ h wd (lv_sub hl [1, 2, 3, 4, 0] rfl)
def wbX10_gets_154 (Φ : Int32 → St → Prop) (k_61 : Int32 → Int32 → Int32 → Int32 → St → Prop) (x1 : Int32) (x3 : Int32) (x4 : Int32) (x5 : Int32) (x6 : Int32) (x7 : Int32) (x8 : Int32) (z0 : Int32) (σ : St) : Prop :=
  ((x5 = x1 → wbX10_gets_185 Φ k_61 x1 x3 x4 x5 σ) ∧ (¬ x5 = x1 → ((z0 = 0 → wbX10_gets_185 Φ k_61 x1 x3 x4 x5 σ) ∧ (¬ z0 = 0 → (vp_in x6 600 ∧ ∀ t4 : St, t4 = wr σ 8 x6 x7 → (vp_in x6 600 ∧ ∀ t6 : St, t6 = wr t4 9 x6 x8 → wbX10_gets_185 Φ k_61 x1 x3 x4 x5 t6))))))
set_option maxHeartbeats 4000000 in
set_option maxRecDepth 100000 in
theorem blX10_gets_154 {p : Program} {l : Launch} {e : Env} {s : State} {m : MethodId} {args : Array Value} {below : List Frame} {meth : Method} {c : Code} (C : Cx p s m args meth c cX10_gets 10 (some .int) RX10) {Φ : Int32 → St → Prop} {k_61 : Int32 → Int32 → Int32 → Int32 → St → Prop} (hk_61 : ∀ (x1 : Int32) (x3 : Int32) (x4 : Int32) (x5 : Int32) (σ : St) (H : Heap) (locs : List Loc) (ls : Array Slot), k_61 x1 x3 x4 x5 σ → gWd D (tyL cyI cyO) (mCell ad cyI cyO) ad 16 s H locs σ → lv_has ls 10 [(0, .ref (ad 0)), (1, .int x1), (3, .int x3), (4, .int x4), (5, .int x5)] → W p l e rmX10_gets s m args below meth c H locs 0 0 (MQ below (gQi D (mCell ad cyI cyO) ad 16 s.heap.size Φ) args s 0 0 (gA ad 16 s.heap.size)) (F0 m 61 ls [])) {x1 : Int32} {x3 : Int32} {x4 : Int32} {x5 : Int32} {x6 : Int32} {x7 : Int32} {x8 : Int32} {z0 : Int32} {σ : St} {H : Heap} {locs : List Loc} {ls : Array Slot} (h : wbX10_gets_154 Φ k_61 x1 x3 x4 x5 x6 x7 x8 z0 σ) (wd : gWd D (tyL cyI cyO) (mCell ad cyI cyO) ad 16 s H locs σ) (hl : lv_has ls 10 [(0, .ref (ad 0)), (1, .int x1), (3, .int x3), (4, .int x4), (5, .int x5), (6, .int x6), (7, .int x7), (8, .int x8)]) : W p l e rmX10_gets s m args below meth c H locs 0 0 (MQ below (gQi D (mCell ad cyI cyO) ad 16 s.heap.size Φ) args s 0 0 (gA ad 16 s.heap.size)) (F0 m 154 ls [.int z0]) := by
  obtain ⟨hx, hb, hr, hml, hown, hts, hlk⟩ := id C
  unfold wbX10_gets_154 at h
  refine lv_istore (lv' := [(9, .int z0), (0, .ref (ad 0)), (1, .int x1), (3, .int x3), (4, .int x4), (5, .int x5), (6, .int x6), (7, .int x7), (8, .int x8)]) hx hb dX10_gets_154 hl (by decide) rfl (fun ls hl => ?_)
  refine lv_iload hx hb dX10_gets_156 (lv_at hl 5 rfl) ?_
  refine lv_iload_n hx hb dX10_gets_158 rfl (lv_at hl 2 rfl) ?_
  refine lv_icmp_eq (tgt := 185) hx hb dX10_gets_159 (by decide) (fun c1 => ?_) (fun c1 => ?_)
  · have h := h.1 c1
    exact blX10_gets_185 C hk_61 h wd (lv_sub hl [1, 2, 3, 4, 5] rfl)
  · have h := h.2 c1
    refine lv_iload hx hb dX10_gets_162 (lv_at hl 0 rfl) ?_
    refine lv_if_eq (tgt := 185) hx hb dX10_gets_164 (by decide) (fun c2 => ?_) (fun c2 => ?_)
    · have h := h.1 c2
      exact blX10_gets_185 C hk_61 h wd (lv_sub hl [1, 2, 3, 4, 5] rfl)
    · have h := h.2 c2
      refine lv_aload_n hx hb dX10_gets_167 rfl (lv_at hl 1 rfl) ?_
      refine getF C wd (k := 0) (Cn := RX10) (T := TX10) (N := 26) (v := .ref (ad 8)) (by decide) mc_X10 rfl 8 (by decide) rfl inX10 tw4_34 dX10_gets_168 ?_
      refine lv_iload hx hb dX10_gets_171 (lv_at hl 6 rfl) ?_
      refine lv_iload hx hb dX10_gets_173 (lv_at hl 7 rfl) ?_
      obtain ⟨hi3, h⟩ := h
      refine stI C wd (k := 8) (N := 600) (by decide) mc_A8 ms_A8 hi3 dX10_gets_175 (fun H locs wd => ?_)
      obtain ⟨t4, et4⟩ : ∃ z : St, z = wr σ 8 x6 x7 := ⟨_, rfl⟩
      rw [← et4] at wd
      have h := h t4 et4
      refine lv_aload_n hx hb dX10_gets_176 rfl (lv_at hl 1 rfl) ?_
      refine getF C wd (k := 0) (Cn := RX10) (T := TX10) (N := 26) (v := .ref (ad 9)) (by decide) mc_X10 rfl 9 (by decide) rfl inX10 tw4_35 dX10_gets_177 ?_
      refine lv_iload hx hb dX10_gets_180 (lv_at hl 6 rfl) ?_
      refine lv_iload hx hb dX10_gets_182 (lv_at hl 8 rfl) ?_
      obtain ⟨hi5, h⟩ := h
      refine stI C wd (k := 9) (N := 600) (by decide) mc_A9 ms_A9 hi5 dX10_gets_184 (fun H locs wd => ?_)
      obtain ⟨t6, et6⟩ : ∃ z : St, z = wr t4 9 x6 x8 := ⟨_, rfl⟩
      rw [← et6] at wd
      have h := h t6 et6
      exact blX10_gets_185 C hk_61 h wd (lv_sub hl [1, 2, 3, 4, 5] rfl)
def wbX10_gets_153 (Φ : Int32 → St → Prop) (k_61 : Int32 → Int32 → Int32 → Int32 → St → Prop) (x1 : Int32) (x3 : Int32) (x4 : Int32) (x5 : Int32) (x6 : Int32) (x7 : Int32) (x8 : Int32) (σ : St) : Prop :=
  wbX10_gets_154 Φ k_61 x1 x3 x4 x5 x6 x7 x8 (0 : Int32) σ
set_option maxHeartbeats 4000000 in
set_option maxRecDepth 100000 in
theorem blX10_gets_153 {p : Program} {l : Launch} {e : Env} {s : State} {m : MethodId} {args : Array Value} {below : List Frame} {meth : Method} {c : Code} (C : Cx p s m args meth c cX10_gets 10 (some .int) RX10) {Φ : Int32 → St → Prop} {k_61 : Int32 → Int32 → Int32 → Int32 → St → Prop} (hk_61 : ∀ (x1 : Int32) (x3 : Int32) (x4 : Int32) (x5 : Int32) (σ : St) (H : Heap) (locs : List Loc) (ls : Array Slot), k_61 x1 x3 x4 x5 σ → gWd D (tyL cyI cyO) (mCell ad cyI cyO) ad 16 s H locs σ → lv_has ls 10 [(0, .ref (ad 0)), (1, .int x1), (3, .int x3), (4, .int x4), (5, .int x5)] → W p l e rmX10_gets s m args below meth c H locs 0 0 (MQ below (gQi D (mCell ad cyI cyO) ad 16 s.heap.size Φ) args s 0 0 (gA ad 16 s.heap.size)) (F0 m 61 ls [])) {x1 : Int32} {x3 : Int32} {x4 : Int32} {x5 : Int32} {x6 : Int32} {x7 : Int32} {x8 : Int32} {σ : St} {H : Heap} {locs : List Loc} {ls : Array Slot} (h : wbX10_gets_153 Φ k_61 x1 x3 x4 x5 x6 x7 x8 σ) (wd : gWd D (tyL cyI cyO) (mCell ad cyI cyO) ad 16 s H locs σ) (hl : lv_has ls 10 [(0, .ref (ad 0)), (1, .int x1), (3, .int x3), (4, .int x4), (5, .int x5), (6, .int x6), (7, .int x7), (8, .int x8)]) : W p l e rmX10_gets s m args below meth c H locs 0 0 (MQ below (gQi D (mCell ad cyI cyO) ad 16 s.heap.size Φ) args s 0 0 (gA ad 16 s.heap.size)) (F0 m 153 ls []) := by
  obtain ⟨hx, hb, hr, hml, hown, hts, hlk⟩ := id C
  unfold wbX10_gets_153 at h
  refine lv_iconst (v := (0 : Int32)) hx hb dX10_gets_153 (by decide) ?_
  exact blX10_gets_154 C hk_61 h wd (lv_sub hl [0, 1, 2, 3, 4, 5, 6, 7] rfl)
def wlX10_gets_61_body (Φ : Int32 → St → Prop) (k_61 : Int32 → Int32 → Int32 → Int32 → St → Prop) (x1 : Int32) (x3 : Int32) (x4 : Int32) (x5 : Int32) (σ : St) : Prop :=
  (((σ.1 0) ≤ x5 → wpX10_takeLetter x3 σ (fun t2 => Φ x4 t2)) ∧ (¬ (σ.1 0) ≤ x5 → wpX10_restOf x1 x4 x5 σ (fun r4 t3 => (vp_in ((((13 : Int32) * x3) + (3 : Int32)) + x5) 520 ∧ (∀ y6 : Int32, y6 = rd t3 10 ((((13 : Int32) * x3) + (3 : Int32)) + x5) → (vp_in ((((13 : Int32) * x3) + (8 : Int32)) + x5) 520 ∧ (∀ y8 : Int32, y8 = rd t3 10 ((((13 : Int32) * x3) + (8 : Int32)) + x5) → (vp_in r4 600 ∧ (((rd t3 8 r4) < y6 → wbX10_gets_154 Φ k_61 x1 x3 x4 x5 r4 y6 y8 (1 : Int32) t3) ∧ (¬ (rd t3 8 r4) < y6 → (vp_in r4 600 ∧ ((y6 = (rd t3 8 r4) → (vp_in r4 600 ∧ ((y8 ≤ (rd t3 9 r4) → wbX10_gets_153 Φ k_61 x1 x3 x4 x5 r4 y6 y8 t3) ∧ (¬ y8 ≤ (rd t3 9 r4) → wbX10_gets_154 Φ k_61 x1 x3 x4 x5 r4 y6 y8 (1 : Int32) t3)))) ∧ (¬ y6 = (rd t3 8 r4) → wbX10_gets_153 Φ k_61 x1 x3 x4 x5 r4 y6 y8 t3)))))))))))))
def wlX10_gets_61 (Φ : Int32 → St → Prop) : Nat → Int32 → Int32 → Int32 → Int32 → St → Prop
  | 0 => fun _ _ _ _ _ => False
  | N + 1 => fun x1 x3 x4 x5 σ => wlX10_gets_61_body Φ (wlX10_gets_61 Φ N) x1 x3 x4 x5 σ
set_option maxHeartbeats 4000000 in
set_option maxRecDepth 100000 in
theorem llX10_gets_61 {p : Program} {l : Launch} {e : Env} {s : State} {m : MethodId} {args : Array Value} {below : List Frame} {meth : Method} {c : Code} (C : Cx p s m args meth c cX10_gets 10 (some .int) RX10) {Φ : Int32 → St → Prop} : ∀ (N : Nat) (x1 : Int32) (x3 : Int32) (x4 : Int32) (x5 : Int32) (σ : St) (H : Heap) (locs : List Loc) (ls : Array Slot), wlX10_gets_61 Φ N x1 x3 x4 x5 σ → gWd D (tyL cyI cyO) (mCell ad cyI cyO) ad 16 s H locs σ → lv_has ls 10 [(0, .ref (ad 0)), (1, .int x1), (3, .int x3), (4, .int x4), (5, .int x5)] → W p l e rmX10_gets s m args below meth c H locs 0 0 (MQ below (gQi D (mCell ad cyI cyO) ad 16 s.heap.size Φ) args s 0 0 (gA ad 16 s.heap.size)) (F0 m 61 ls []) := by
  obtain ⟨hx, hb, hr, hml, hown, hts, hlk⟩ := id C
  intro N
  induction N with
  | zero =>
    intro x1 x3 x4 x5 σ H locs ls h
    exact False.elim h
  | succ N ih =>
    intro x1 x3 x4 x5 σ H locs ls h wd hl
    have h : wlX10_gets_61_body Φ (wlX10_gets_61 Φ N) x1 x3 x4 x5 σ := h
    have hk_61 := ih
    unfold wlX10_gets_61_body at h
    refine lv_iload hx hb dX10_gets_61 (lv_at hl 4 rfl) ?_
    refine lv_aload_n hx hb dX10_gets_63 rfl (lv_at hl 0 rfl) ?_
    refine getF C wd (k := 0) (Cn := RX10) (T := TX10) (N := 26) (v := .int (σ.1 0)) (by decide) mc_X10 rfl 0 (by decide) rfl inX10 tw4_26 dX10_gets_64 ?_
    refine lv_icmp_ge (tgt := 191) hx hb dX10_gets_67 (by decide) (fun c1 => ?_) (fun c1 => ?_)
    · have h := h.1 c1
      refine lv_aload_n hx hb dX10_gets_191 rfl (lv_at hl 0 rfl) ?_
      refine lv_iload_n hx hb dX10_gets_192 rfl (lv_at hl 2 rfl) ?_
      refine gCv wd (gRunV (y := yX10_takeLetter) (k := 0) (As := [.int x3]) (rest := []) C wd (cmX10_takeLetter h) ⟨rfl, rfl⟩ gd_X10_124 nk_X10_takeLetter ⟨Nat.le_of_ble_eq_true rfl, Nat.le_of_ble_eq_true rfl⟩ (by decide) mc_X10 rfl rfl hl.1 (Nat.le_of_ble_eq_true rfl) dX10_gets_193 rfl) (fun t2 H locs h wd => ?_)
      try dsimp only at h
      refine lv_iload hx hb dX10_gets_196 (lv_at hl 3 rfl) ?_
      exact retI C wd h dX10_gets_198
    · have h := h.2 c1
      refine lv_iload_n hx hb dX10_gets_70 rfl (lv_at hl 1 rfl) ?_
      refine lv_iload hx hb dX10_gets_71 (lv_at hl 3 rfl) ?_
      refine lv_iload hx hb dX10_gets_73 (lv_at hl 4 rfl) ?_
      refine gCi wd (gRunS (y := yX10_restOf) (As := [.int x1, .int x4, .int x5]) (rest := []) C wd (cmX10_restOf h) ⟨rfl, rfl⟩ gd_X10_67 nk_X10_restOf ⟨Nat.le_of_ble_eq_true rfl, Nat.le_of_ble_eq_true rfl⟩ hl.1 (Nat.le_of_ble_eq_true rfl) dX10_gets_75 rfl) (fun r4 t3 H locs h wd => ?_)
      try dsimp only at h
      refine lv_istore (lv' := [(6, .int r4), (0, .ref (ad 0)), (1, .int x1), (3, .int x3), (4, .int x4), (5, .int x5)]) hx hb dX10_gets_78 hl (by decide) rfl (fun ls hl => ?_)
      refine lv_aload_n hx hb dX10_gets_80 rfl (lv_at hl 1 rfl) ?_
      refine getF C wd (k := 0) (Cn := RX10) (T := TX10) (N := 26) (v := .ref (ad 10)) (by decide) mc_X10 rfl 10 (by decide) rfl inX10 tw4_36 dX10_gets_81 ?_
      refine lv_bipush (v := (13 : Int32)) hx hb dX10_gets_84 (by decide) ?_
      refine lv_iload_n hx hb dX10_gets_86 rfl (lv_at hl 3 rfl) ?_
      refine lv_imul hx hb dX10_gets_87 ?_
      refine lv_iconst (v := (3 : Int32)) hx hb dX10_gets_88 (by decide) ?_
      refine lv_iadd hx hb dX10_gets_89 ?_
      refine lv_iload hx hb dX10_gets_90 (lv_at hl 5 rfl) ?_
      refine lv_iadd hx hb dX10_gets_92 ?_
      obtain ⟨hi5, h⟩ := h
      refine ldI C wd (k := 10) (N := 520) (by decide) mc_A10 hi5 dX10_gets_93 ?_
      refine lv_topi (fun y6 ey6 => ?_)
      have h := h y6 ey6
      refine lv_istore (lv' := [(7, .int y6), (6, .int r4), (0, .ref (ad 0)), (1, .int x1), (3, .int x3), (4, .int x4), (5, .int x5)]) hx hb dX10_gets_94 hl (by decide) rfl (fun ls hl => ?_)
      refine lv_aload_n hx hb dX10_gets_96 rfl (lv_at hl 2 rfl) ?_
      refine getF C wd (k := 0) (Cn := RX10) (T := TX10) (N := 26) (v := .ref (ad 10)) (by decide) mc_X10 rfl 10 (by decide) rfl inX10 tw4_36 dX10_gets_97 ?_
      refine lv_bipush (v := (13 : Int32)) hx hb dX10_gets_100 (by decide) ?_
      refine lv_iload_n hx hb dX10_gets_102 rfl (lv_at hl 4 rfl) ?_
      refine lv_imul hx hb dX10_gets_103 ?_
      refine lv_bipush (v := (8 : Int32)) hx hb dX10_gets_104 (by decide) ?_
      refine lv_iadd hx hb dX10_gets_106 ?_
      refine lv_iload hx hb dX10_gets_107 (lv_at hl 6 rfl) ?_
      refine lv_iadd hx hb dX10_gets_109 ?_
      obtain ⟨hi7, h⟩ := h
      refine ldI C wd (k := 10) (N := 520) (by decide) mc_A10 hi7 dX10_gets_110 ?_
      refine lv_topi (fun y8 ey8 => ?_)
      have h := h y8 ey8
      refine lv_istore (lv' := [(8, .int y8), (7, .int y6), (6, .int r4), (0, .ref (ad 0)), (1, .int x1), (3, .int x3), (4, .int x4), (5, .int x5)]) hx hb dX10_gets_111 hl (by decide) rfl (fun ls hl => ?_)
      refine lv_iload hx hb dX10_gets_113 (lv_at hl 1 rfl) ?_
      refine lv_aload_n hx hb dX10_gets_115 rfl (lv_at hl 3 rfl) ?_
      refine getF C wd (k := 0) (Cn := RX10) (T := TX10) (N := 26) (v := .ref (ad 8)) (by decide) mc_X10 rfl 8 (by decide) rfl inX10 tw4_34 dX10_gets_116 ?_
      refine lv_iload hx hb dX10_gets_119 (lv_at hl 2 rfl) ?_
      obtain ⟨hi9, h⟩ := h
      refine ldI C wd (k := 8) (N := 600) (by decide) mc_A8 hi9 dX10_gets_121 ?_
      refine lv_icmp_gt (tgt := 149) hx hb dX10_gets_122 (by decide) (fun c10 => ?_) (fun c10 => ?_)
      · have h := h.1 c10
        refine lv_iconst (v := (1 : Int32)) hx hb dX10_gets_149 (by decide) ?_
        refine lv_goto (tgt := 154) hx hb dX10_gets_150 (by decide) ?_
        exact blX10_gets_154 C hk_61 h wd (lv_sub hl [3, 4, 5, 6, 7, 2, 1, 0] rfl)
      · have h := h.2 c10
        refine lv_iload hx hb dX10_gets_125 (lv_at hl 1 rfl) ?_
        refine lv_aload_n hx hb dX10_gets_127 rfl (lv_at hl 3 rfl) ?_
        refine getF C wd (k := 0) (Cn := RX10) (T := TX10) (N := 26) (v := .ref (ad 8)) (by decide) mc_X10 rfl 8 (by decide) rfl inX10 tw4_34 dX10_gets_128 ?_
        refine lv_iload hx hb dX10_gets_131 (lv_at hl 2 rfl) ?_
        obtain ⟨hi11, h⟩ := h
        refine ldI C wd (k := 8) (N := 600) (by decide) mc_A8 hi11 dX10_gets_133 ?_
        refine lv_icmp_ne (tgt := 153) hx hb dX10_gets_134 (by decide) (fun c12 => ?_) (fun c12 => ?_)
        · have h := h.2 c12
          exact blX10_gets_153 C hk_61 h wd (lv_sub hl [3, 4, 5, 6, 7, 2, 1, 0] rfl)
        · have h := h.1 c12
          refine lv_iload hx hb dX10_gets_137 (lv_at hl 0 rfl) ?_
          refine lv_aload_n hx hb dX10_gets_139 rfl (lv_at hl 3 rfl) ?_
          refine getF C wd (k := 0) (Cn := RX10) (T := TX10) (N := 26) (v := .ref (ad 9)) (by decide) mc_X10 rfl 9 (by decide) rfl inX10 tw4_35 dX10_gets_140 ?_
          refine lv_iload hx hb dX10_gets_143 (lv_at hl 2 rfl) ?_
          obtain ⟨hi13, h⟩ := h
          refine ldI C wd (k := 9) (N := 600) (by decide) mc_A9 hi13 dX10_gets_145 ?_
          refine lv_icmp_le (tgt := 153) hx hb dX10_gets_146 (by decide) (fun c14 => ?_) (fun c14 => ?_)
          · have h := h.1 c14
            exact blX10_gets_153 C hk_61 h wd (lv_sub hl [3, 4, 5, 6, 7, 2, 1, 0] rfl)
          · have h := h.2 c14
            refine lv_iconst (v := (1 : Int32)) hx hb dX10_gets_149 (by decide) ?_
            refine lv_goto (tgt := 154) hx hb dX10_gets_150 (by decide) ?_
            exact blX10_gets_154 C hk_61 h wd (lv_sub hl [3, 4, 5, 6, 7, 2, 1, 0] rfl)
def wpX10_gets (x1 : Int32) (x2 : Int32) (σ : St) (Φ : Int32 → St → Prop) : Prop :=
  wpX10_letterAt x1 x2 σ (fun r2 t1 => ((r2 = (-1 : Int32) → Φ (-3 : Int32) t1) ∧ (¬ r2 = (-1 : Int32) → wpX10_isDeadLetter r2 t1 (fun r5 t4 => ((r5 = 0 → (vp_in (((13 : Int32) * r2) + (2 : Int32)) 520 ∧ wpX10_writesPage x1 (rd t4 10 (((13 : Int32) * r2) + (2 : Int32))) t4 (fun r9 t8 => ((r9 = (-4 : Int32) → Φ (-4 : Int32) t8) ∧ (¬ r9 = (-4 : Int32) → (∃ N, wlX10_gets_61 Φ N x1 r2 r9 (0 : Int32) t8)))))) ∧ (¬ r5 = 0 → wpX10_takeLetter r2 t4 (fun t11 => Φ (-1 : Int32) t11)))))))
set_option maxHeartbeats 4000000 in
set_option maxRecDepth 100000 in
theorem cmX10_gets {D : va_G} {cyI cyO : ClassId} {ad : Nat → Nat} {l : Launch} {x1 : Int32} {x2 : Int32} {σ : St} {sz : Nat} {Φ : Int32 → St → Prop} (h : wpX10_gets x1 x2 σ Φ) : gMet D (tyL cyI cyO) (mCell ad cyI cyO) ad 16 l yX10_gets cX10_gets 10 (some .int) rmX10_gets [.ref (ad 0), .int x1, .int x2] σ sz (gQi D (mCell ad cyI cyO) ad 16 sz Φ) := by
  refine gMet.of (by decide) (Nat.le_of_ble_eq_true rfl) ?_
  intro p e s m below meth c ls hsz C hl wd
  subst hsz
  have C : Cx p s m _ meth c cX10_gets 10 (some .int) RX10 := C
  obtain ⟨hx, hb, hr, hml, hown, hts, hlk⟩ := id C
  have hl : lv_has ls 10 [(0, .ref (ad 0)), (1, .int x1), (2, .int x2)] := hl
  unfold wpX10_gets at h
  refine lv_aload_n hx hb dX10_gets_0 rfl (lv_at hl 0 rfl) ?_
  refine lv_iload_n hx hb dX10_gets_1 rfl (lv_at hl 1 rfl) ?_
  refine lv_iload_n hx hb dX10_gets_2 rfl (lv_at hl 2 rfl) ?_
  refine gCi wd (gRunV (y := yX10_letterAt) (k := 0) (As := [.int x1, .int x2]) (rest := []) C wd (cmX10_letterAt h) ⟨rfl, rfl⟩ gd_X10_118 nk_X10_letterAt ⟨Nat.le_of_ble_eq_true rfl, Nat.le_of_ble_eq_true rfl⟩ (by decide) mc_X10 rfl rfl hl.1 (Nat.le_of_ble_eq_true rfl) dX10_gets_3 rfl) (fun r2 t1 H locs h wd => ?_)
  try dsimp only at h
  refine lv_istore_n (lv' := [(3, .int r2), (0, .ref (ad 0)), (1, .int x1), (2, .int x2)]) hx hb dX10_gets_6 rfl hl (by decide) rfl (fun ls hl => ?_)
  refine lv_iload_n hx hb dX10_gets_7 rfl (lv_at hl 0 rfl) ?_
  refine lv_iconst (v := (-1 : Int32)) hx hb dX10_gets_8 (by decide) ?_
  refine lv_icmp_ne (tgt := 15) hx hb dX10_gets_9 (by decide) (fun c3 => ?_) (fun c3 => ?_)
  · have h := h.2 c3
    refine lv_aload_n hx hb dX10_gets_15 rfl (lv_at hl 1 rfl) ?_
    refine lv_iload_n hx hb dX10_gets_16 rfl (lv_at hl 0 rfl) ?_
    refine gCi wd (gRunV (y := yX10_isDeadLetter) (k := 0) (As := [.int r2]) (rest := []) C wd (cmX10_isDeadLetter h) ⟨rfl, rfl⟩ gd_X10_121 nk_X10_isDeadLetter ⟨Nat.le_of_ble_eq_true rfl, Nat.le_of_ble_eq_true rfl⟩ (by decide) mc_X10 rfl rfl hl.1 (Nat.le_of_ble_eq_true rfl) dX10_gets_17 rfl) (fun r5 t4 H locs h wd => ?_)
    try dsimp only at h
    refine lv_if_eq (tgt := 30) hx hb dX10_gets_20 (by decide) (fun c6 => ?_) (fun c6 => ?_)
    · have h := h.1 c6
      refine lv_aload_n hx hb dX10_gets_30 rfl (lv_at hl 1 rfl) ?_
      refine lv_iload_n hx hb dX10_gets_31 rfl (lv_at hl 2 rfl) ?_
      refine lv_aload_n hx hb dX10_gets_32 rfl (lv_at hl 1 rfl) ?_
      refine getF C wd (k := 0) (Cn := RX10) (T := TX10) (N := 26) (v := .ref (ad 10)) (by decide) mc_X10 rfl 10 (by decide) rfl inX10 tw4_36 dX10_gets_33 ?_
      refine lv_bipush (v := (13 : Int32)) hx hb dX10_gets_36 (by decide) ?_
      refine lv_iload_n hx hb dX10_gets_38 rfl (lv_at hl 0 rfl) ?_
      refine lv_imul hx hb dX10_gets_39 ?_
      refine lv_iconst (v := (2 : Int32)) hx hb dX10_gets_40 (by decide) ?_
      refine lv_iadd hx hb dX10_gets_41 ?_
      obtain ⟨hi7, h⟩ := h
      refine ldI C wd (k := 10) (N := 520) (by decide) mc_A10 hi7 dX10_gets_42 ?_
      refine gCi wd (gRunV (y := yX10_writesPage) (k := 0) (As := [.int x1, .int (rd t4 10 (((13 : Int32) * r2) + (2 : Int32)))]) (rest := []) C wd (cmX10_writesPage h) ⟨rfl, rfl⟩ gd_X10_104 nk_X10_writesPage ⟨Nat.le_of_ble_eq_true rfl, Nat.le_of_ble_eq_true rfl⟩ (by decide) mc_X10 rfl rfl hl.1 (Nat.le_of_ble_eq_true rfl) dX10_gets_43 rfl) (fun r9 t8 H locs h wd => ?_)
      try dsimp only at h
      refine lv_istore (lv' := [(4, .int r9), (3, .int r2), (0, .ref (ad 0)), (1, .int x1), (2, .int x2)]) hx hb dX10_gets_46 hl (by decide) rfl (fun ls hl => ?_)
      refine lv_iload hx hb dX10_gets_48 (lv_at hl 0 rfl) ?_
      refine lv_bipush (v := (-4 : Int32)) hx hb dX10_gets_50 (by decide) ?_
      refine lv_icmp_ne (tgt := 58) hx hb dX10_gets_52 (by decide) (fun c10 => ?_) (fun c10 => ?_)
      · have h := h.2 c10
        refine lv_iconst (v := (0 : Int32)) hx hb dX10_gets_58 (by decide) ?_
        refine lv_istore (lv' := [(5, .int (0 : Int32)), (4, .int r9), (3, .int r2), (0, .ref (ad 0)), (1, .int x1), (2, .int x2)]) hx hb dX10_gets_59 hl (by decide) rfl (fun ls hl => ?_)
        obtain ⟨N, h⟩ := h
        exact llX10_gets_61 C N _ _ _ _ _ _ _ _ h wd (lv_sub hl [3, 4, 2, 1, 0] rfl)
      · have h := h.1 c10
        refine lv_bipush (v := (-4 : Int32)) hx hb dX10_gets_55 (by decide) ?_
        exact retI C wd h dX10_gets_57
    · have h := h.2 c6
      refine lv_aload_n hx hb dX10_gets_23 rfl (lv_at hl 1 rfl) ?_
      refine lv_iload_n hx hb dX10_gets_24 rfl (lv_at hl 0 rfl) ?_
      refine gCv wd (gRunV (y := yX10_takeLetter) (k := 0) (As := [.int r2]) (rest := []) C wd (cmX10_takeLetter h) ⟨rfl, rfl⟩ gd_X10_124 nk_X10_takeLetter ⟨Nat.le_of_ble_eq_true rfl, Nat.le_of_ble_eq_true rfl⟩ (by decide) mc_X10 rfl rfl hl.1 (Nat.le_of_ble_eq_true rfl) dX10_gets_25 rfl) (fun t11 H locs h wd => ?_)
      try dsimp only at h
      refine lv_iconst (v := (-1 : Int32)) hx hb dX10_gets_28 (by decide) ?_
      exact retI C wd h dX10_gets_29
  · have h := h.1 c3
    refine lv_bipush (v := (-3 : Int32)) hx hb dX10_gets_12 (by decide) ?_
    exact retI C wd h dX10_gets_14
end
