theorem nki_X5_init : nmOK yX5_init 1 := by decide +kernel
theorem gi_X5_init : GoodIn gT (wsOf yX5_init cX5_init 3 none) := gdC tw1_39
theorem nki_X7_init : nmOK yX7_init 0 := by decide +kernel
theorem gi_X7_init : GoodIn gT (wsOf yX7_init cX7_init 1 none) := gdC tw2_27
theorem nki_X8_init : nmOK yX8_init 0 := by decide +kernel
theorem gi_X8_init : GoodIn gT (wsOf yX8_init cX8_init 1 none) := gdC tw1_223
theorem nki_X1_init : nmOK yX1_init 0 := by decide +kernel
theorem gi_X1_init : GoodIn gT (wsOf yX1_init cX1_init 1 none) := gdC tw1_111
theorem nki_X6_init : nmOK yX6_init 0 := by decide +kernel
theorem gi_X6_init : GoodIn gT (wsOf yX6_init cX6_init 1 none) := gdC tw1_80
theorem nki_X4_init : nmOK yX4_init 0 := by decide +kernel
theorem gi_X4_init : GoodIn gT (wsOf yX4_init cX4_init 1 none) := gdC tw1_238
theorem nki_X0_init : nmOK yX0_init 1 := by decide +kernel
theorem gi_X0_init : GoodIn gT (wsOf yX0_init cX0_init 2 none) := gdC tw1_129
theorem nki_X3_init : nmOK yX3_init 0 := by decide +kernel
theorem gi_X3_init : GoodIn gT (wsOf yX3_init cX3_init 1 none) := gdC tw1_33
theorem nki_X10_init : nmOK yX10_init 0 := by decide +kernel
theorem gi_X10_init : GoodIn gT (wsOf yX10_init cX10_init 1 none) := gdC tw4_24
theorem nki_X2_init : nmOK yX2_init 0 := by decide +kernel
theorem gi_X2_init : GoodIn gT (wsOf yX2_init cX2_init 2 none) := gdC tw1_25
theorem nki_X9_init : nmOK yX9_init 0 := by decide +kernel
theorem gi_X9_init : GoodIn gT (wsOf yX9_init cX9_init 1 none) := gdC tw1_17
def blkX7 (cyI : ClassId) (h0 : Nat) (u : Nat → Nat) : va_W := [(h0, .inr (7, [.int 0, .int 0, .int 0]))]
abbrev rmciX7 : Room := { frames := 1, cells := 0, slots := 0, locals := 21 }
set_option maxHeartbeats 4000000 in
set_option maxRecDepth 100000 in
theorem ciX7 {D : va_G} {cyI cyO : ClassId} {l : Launch} {h0 sz : Nat} : iMet D cyI cyO l yX7_init cX7_init 1 rmciX7 [.ref h0] [(h0, .inr (7, [.int 0, .int 0, .int 0]))] sz (fun _ : Nat → Nat => True) (blkX7 cyI h0) 0 0 := by
  refine iMet.of (by decide) rfl (Nat.le_of_ble_eq_true rfl) ?_
  intro p e s m below meth c ls hsz hin C hl wd
  subst hsz
  have C : Cx p s m _ meth c cX7_init 1 none RX7 := C
  obtain ⟨hx, hb, hr, hml, hown, hts, hlk⟩ := id C
  have hl : lv_has ls 1 [(0, .ref h0)] := hl
  refine lv_aload_n hx hb dX7_init_0 rfl (lv_at hl 0 rfl) ?_
  refine iObj C hl.1 tw2_28 (Nat.le_of_ble_eq_true rfl) (Nat.le_of_ble_eq_true rfl) dX7_init_1 ?_
  exact iRetV C wd (fun k => match k with | _ => 0) trivial rfl dX7_init_4
def blkX8 (cyI : ClassId) (h0 : Nat) (u : Nat → Nat) : va_W := [(h0, .inr (8, [.int 0, .ref (u 0)])), ((u 0), .inl (cyI, 120, .inl (fun _ => 0)))]
abbrev rmciX8 : Room := { frames := 1, cells := 1, slots := 120, locals := 21 }
set_option maxHeartbeats 4000000 in
set_option maxRecDepth 100000 in
theorem ciX8 {D : va_G} {cyI cyO : ClassId} {l : Launch} {h0 sz : Nat} : iMet D cyI cyO l yX8_init cX8_init 1 rmciX8 [.ref h0] [(h0, .inr (8, [.int 0, .null]))] sz (fun _ : Nat → Nat => True) (blkX8 cyI h0) 1 120 := by
  refine iMet.of (by decide) rfl (Nat.le_of_ble_eq_true rfl) ?_
  intro p e s m below meth c ls hsz hin C hl wd
  subst hsz
  have C : Cx p s m _ meth c cX8_init 1 none RX8 := C
  obtain ⟨hx, hb, hr, hml, hown, hts, hlk⟩ := id C
  have hl : lv_has ls 1 [(0, .ref h0)] := hl
  refine lv_aload_n hx hb dX8_init_0 rfl (lv_at hl 0 rfl) ?_
  refine iObj C hl.1 tw1_224 (Nat.le_of_ble_eq_true rfl) (Nat.le_of_ble_eq_true rfl) dX8_init_1 ?_
  refine lv_aload_n hx hb dX8_init_4 rfl (lv_at hl 0 rfl) ?_
  refine lv_bipush (v := (120 : Int32)) hx hb dX8_init_5 (by decide) ?_
  refine iNewA C wd (N := 120) (by decide) (by decide) (by decide) (Nat.le_of_ble_eq_true rfl) (Nat.le_of_ble_eq_true rfl) dX8_init_7 (fun q1 H wd => ?_)
  have wd : iWd D cyI cyO _ s _ _ [(h0, .inr (8, [.int 0, .null])), (q1, .inl (cyI, 120, .inl (fun _ => 0)))] := wd
  refine iPutF C wd hin (a := h0) (k := 0) (ci := 8) (N := 2) (Cn := RX8) (T := TX8) (v := .ref q1) (ty := .array .int) rfl rfl tyX8_ok nmX8 1 (by decide) rfl rfl (by decide +kernel) rfl rfl (Nat.le_of_ble_eq_true rfl) inX8 tw1_228 dX8_init_9 (fun H locs wd => ?_)
  have wd : iWd D cyI cyO _ s _ _ [(h0, .inr (8, [.int 0, .ref q1])), (q1, .inl (cyI, 120, .inl (fun _ => 0)))] := wd
  exact iRetV C wd (fun k => match k with | 0 => q1 | _ => 0) trivial rfl dX8_init_12
def blkX5_24 (cyI : ClassId) (h0 : Nat) (u : Nat → Nat) : va_W := [(h0, .inr (5, [.ref (u 0), .ref (u 1)])), ((u 0), .inl (cyI, 120, .inl (fun _ => 0))), ((u 1), .inl (cyI, 120, .inl (fun _ => 0)))]
abbrev rmciX5_24 : Room := { frames := 1, cells := 2, slots := 240, locals := 21 }
set_option maxHeartbeats 4000000 in
set_option maxRecDepth 100000 in
theorem ciX5_24 {D : va_G} {cyI cyO : ClassId} {l : Launch} {h0 sz : Nat} : iMet D cyI cyO l yX5_init cX5_init 3 rmciX5_24 [.ref h0, .int (24 : Int32)] [(h0, .inr (5, [.null, .null]))] sz (fun _ : Nat → Nat => True) (blkX5_24 cyI h0) 2 240 := by
  refine iMet.of (by decide) rfl (Nat.le_of_ble_eq_true rfl) ?_
  intro p e s m below meth c ls hsz hin C hl wd
  subst hsz
  have C : Cx p s m _ meth c cX5_init 3 none RX5 := C
  obtain ⟨hx, hb, hr, hml, hown, hts, hlk⟩ := id C
  have hl : lv_has ls 3 [(0, .ref h0), (1, .int (24 : Int32))] := hl
  refine lv_aload_n hx hb dX5_init_0 rfl (lv_at hl 0 rfl) ?_
  refine iObj C hl.1 tw1_40 (Nat.le_of_ble_eq_true rfl) (Nat.le_of_ble_eq_true rfl) dX5_init_1 ?_
  refine lv_iconst (v := (0 : Int32)) hx hb dX5_init_4 (by decide) ?_
  refine lv_iload_n hx hb dX5_init_5 rfl (lv_at hl 1 rfl) ?_
  refine lv_bipush (v := (40 : Int32)) hx hb dX5_init_6 (by decide) ?_
  refine gMin C hl.1 tw1_41 tw1_42 tw1_5 tw1_43 (Nat.le_of_ble_eq_true rfl) (Nat.le_of_ble_eq_true rfl) dX5_init_8 ?_
  refine gMax C hl.1 tw1_44 tw1_45 tw1_5 tw1_46 (Nat.le_of_ble_eq_true rfl) (Nat.le_of_ble_eq_true rfl) dX5_init_11 ?_
  refine lv_iconst (v := (5 : Int32)) hx hb dX5_init_14 (by decide) ?_
  refine lv_imul hx hb dX5_init_15 ?_
  refine lv_istore_n (lv' := [(2, .int ((if (0 : Int32) < (if (40 : Int32) < (24 : Int32) then (40 : Int32) else (24 : Int32)) then (if (40 : Int32) < (24 : Int32) then (40 : Int32) else (24 : Int32)) else (0 : Int32)) * (5 : Int32))), (0, .ref h0), (1, .int (24 : Int32))]) hx hb dX5_init_16 rfl hl (by decide) rfl (fun ls hl => ?_)
  refine lv_aload_n hx hb dX5_init_17 rfl (lv_at hl 1 rfl) ?_
  refine lv_iload_n hx hb dX5_init_18 rfl (lv_at hl 0 rfl) ?_
  refine iNewA C wd (N := 120) (by decide) (by decide) (by decide) (Nat.le_of_ble_eq_true rfl) (Nat.le_of_ble_eq_true rfl) dX5_init_19 (fun q1 H wd => ?_)
  have wd : iWd D cyI cyO _ s _ _ [(h0, .inr (5, [.null, .null])), (q1, .inl (cyI, 120, .inl (fun _ => 0)))] := wd
  refine iPutF C wd hin (a := h0) (k := 0) (ci := 5) (N := 2) (Cn := RX5) (T := TX5) (v := .ref q1) (ty := .array .int) rfl rfl tyX5_ok nmX5 0 (by decide) rfl rfl (by decide +kernel) rfl rfl (Nat.le_of_ble_eq_true rfl) inX5 tw1_47 dX5_init_21 (fun H locs wd => ?_)
  have wd : iWd D cyI cyO _ s _ _ [(h0, .inr (5, [.ref q1, .null])), (q1, .inl (cyI, 120, .inl (fun _ => 0)))] := wd
  refine lv_aload_n hx hb dX5_init_24 rfl (lv_at hl 1 rfl) ?_
  refine lv_iload_n hx hb dX5_init_25 rfl (lv_at hl 0 rfl) ?_
  refine iNewA C wd (N := 120) (by decide) (by decide) (by decide) (Nat.le_of_ble_eq_true rfl) (Nat.le_of_ble_eq_true rfl) dX5_init_26 (fun q2 H wd => ?_)
  have wd : iWd D cyI cyO _ s _ _ [(h0, .inr (5, [.ref q1, .null])), (q1, .inl (cyI, 120, .inl (fun _ => 0))), (q2, .inl (cyI, 120, .inl (fun _ => 0)))] := wd
  refine iPutF C wd hin (a := h0) (k := 0) (ci := 5) (N := 2) (Cn := RX5) (T := TX5) (v := .ref q2) (ty := .array .int) rfl rfl tyX5_ok nmX5 1 (by decide) rfl rfl (by decide +kernel) rfl rfl (Nat.le_of_ble_eq_true rfl) inX5 tw1_48 dX5_init_28 (fun H locs wd => ?_)
  have wd : iWd D cyI cyO _ s _ _ [(h0, .inr (5, [.ref q1, .ref q2])), (q1, .inl (cyI, 120, .inl (fun _ => 0))), (q2, .inl (cyI, 120, .inl (fun _ => 0)))] := wd
  exact iRetV C wd (fun k => match k with | 0 => q1 | 1 => q2 | _ => 0) trivial rfl dX5_init_31
def blkX5_40 (cyI : ClassId) (h0 : Nat) (u : Nat → Nat) : va_W := [(h0, .inr (5, [.ref (u 0), .ref (u 1)])), ((u 0), .inl (cyI, 200, .inl (fun _ => 0))), ((u 1), .inl (cyI, 200, .inl (fun _ => 0)))]
abbrev rmciX5_40 : Room := { frames := 1, cells := 2, slots := 400, locals := 21 }
set_option maxHeartbeats 4000000 in
set_option maxRecDepth 100000 in
theorem ciX5_40 {D : va_G} {cyI cyO : ClassId} {l : Launch} {h0 sz : Nat} : iMet D cyI cyO l yX5_init cX5_init 3 rmciX5_40 [.ref h0, .int (40 : Int32)] [(h0, .inr (5, [.null, .null]))] sz (fun _ : Nat → Nat => True) (blkX5_40 cyI h0) 2 400 := by
  refine iMet.of (by decide) rfl (Nat.le_of_ble_eq_true rfl) ?_
  intro p e s m below meth c ls hsz hin C hl wd
  subst hsz
  have C : Cx p s m _ meth c cX5_init 3 none RX5 := C
  obtain ⟨hx, hb, hr, hml, hown, hts, hlk⟩ := id C
  have hl : lv_has ls 3 [(0, .ref h0), (1, .int (40 : Int32))] := hl
  refine lv_aload_n hx hb dX5_init_0 rfl (lv_at hl 0 rfl) ?_
  refine iObj C hl.1 tw1_40 (Nat.le_of_ble_eq_true rfl) (Nat.le_of_ble_eq_true rfl) dX5_init_1 ?_
  refine lv_iconst (v := (0 : Int32)) hx hb dX5_init_4 (by decide) ?_
  refine lv_iload_n hx hb dX5_init_5 rfl (lv_at hl 1 rfl) ?_
  refine lv_bipush (v := (40 : Int32)) hx hb dX5_init_6 (by decide) ?_
  refine gMin C hl.1 tw1_41 tw1_42 tw1_5 tw1_43 (Nat.le_of_ble_eq_true rfl) (Nat.le_of_ble_eq_true rfl) dX5_init_8 ?_
  refine gMax C hl.1 tw1_44 tw1_45 tw1_5 tw1_46 (Nat.le_of_ble_eq_true rfl) (Nat.le_of_ble_eq_true rfl) dX5_init_11 ?_
  refine lv_iconst (v := (5 : Int32)) hx hb dX5_init_14 (by decide) ?_
  refine lv_imul hx hb dX5_init_15 ?_
  refine lv_istore_n (lv' := [(2, .int ((if (0 : Int32) < (if (40 : Int32) < (40 : Int32) then (40 : Int32) else (40 : Int32)) then (if (40 : Int32) < (40 : Int32) then (40 : Int32) else (40 : Int32)) else (0 : Int32)) * (5 : Int32))), (0, .ref h0), (1, .int (40 : Int32))]) hx hb dX5_init_16 rfl hl (by decide) rfl (fun ls hl => ?_)
  refine lv_aload_n hx hb dX5_init_17 rfl (lv_at hl 1 rfl) ?_
  refine lv_iload_n hx hb dX5_init_18 rfl (lv_at hl 0 rfl) ?_
  refine iNewA C wd (N := 200) (by decide) (by decide) (by decide) (Nat.le_of_ble_eq_true rfl) (Nat.le_of_ble_eq_true rfl) dX5_init_19 (fun q1 H wd => ?_)
  have wd : iWd D cyI cyO _ s _ _ [(h0, .inr (5, [.null, .null])), (q1, .inl (cyI, 200, .inl (fun _ => 0)))] := wd
  refine iPutF C wd hin (a := h0) (k := 0) (ci := 5) (N := 2) (Cn := RX5) (T := TX5) (v := .ref q1) (ty := .array .int) rfl rfl tyX5_ok nmX5 0 (by decide) rfl rfl (by decide +kernel) rfl rfl (Nat.le_of_ble_eq_true rfl) inX5 tw1_47 dX5_init_21 (fun H locs wd => ?_)
  have wd : iWd D cyI cyO _ s _ _ [(h0, .inr (5, [.ref q1, .null])), (q1, .inl (cyI, 200, .inl (fun _ => 0)))] := wd
  refine lv_aload_n hx hb dX5_init_24 rfl (lv_at hl 1 rfl) ?_
  refine lv_iload_n hx hb dX5_init_25 rfl (lv_at hl 0 rfl) ?_
  refine iNewA C wd (N := 200) (by decide) (by decide) (by decide) (Nat.le_of_ble_eq_true rfl) (Nat.le_of_ble_eq_true rfl) dX5_init_26 (fun q2 H wd => ?_)
  have wd : iWd D cyI cyO _ s _ _ [(h0, .inr (5, [.ref q1, .null])), (q1, .inl (cyI, 200, .inl (fun _ => 0))), (q2, .inl (cyI, 200, .inl (fun _ => 0)))] := wd
  refine iPutF C wd hin (a := h0) (k := 0) (ci := 5) (N := 2) (Cn := RX5) (T := TX5) (v := .ref q2) (ty := .array .int) rfl rfl tyX5_ok nmX5 1 (by decide) rfl rfl (by decide +kernel) rfl rfl (Nat.le_of_ble_eq_true rfl) inX5 tw1_48 dX5_init_28 (fun H locs wd => ?_)
  have wd : iWd D cyI cyO _ s _ _ [(h0, .inr (5, [.ref q1, .ref q2])), (q1, .inl (cyI, 200, .inl (fun _ => 0))), (q2, .inl (cyI, 200, .inl (fun _ => 0)))] := wd
  exact iRetV C wd (fun k => match k with | 0 => q1 | 1 => q2 | _ => 0) trivial rfl dX5_init_31
def blkX1 (cyI : ClassId) (h0 : Nat) (u : Nat → Nat) : va_W := [(h0, .inr (1, [.int 0, .int 0, .ref (u 0), .ref (u 1)])), ((u 0), .inl (cyI, 5, .inl (fun _ => 0))), ((u 1), .inl (cyI, 5, .inl (fun _ => 0)))]
abbrev rmciX1 : Room := { frames := 1, cells := 2, slots := 10, locals := 21 }
set_option maxHeartbeats 4000000 in
set_option maxRecDepth 100000 in
theorem ciX1 {D : va_G} {cyI cyO : ClassId} {l : Launch} {h0 sz : Nat} : iMet D cyI cyO l yX1_init cX1_init 1 rmciX1 [.ref h0] [(h0, .inr (1, [.int 0, .int 0, .null, .null]))] sz (fun _ : Nat → Nat => True) (blkX1 cyI h0) 2 10 := by
  refine iMet.of (by decide) rfl (Nat.le_of_ble_eq_true rfl) ?_
  intro p e s m below meth c ls hsz hin C hl wd
  subst hsz
  have C : Cx p s m _ meth c cX1_init 1 none RX1 := C
  obtain ⟨hx, hb, hr, hml, hown, hts, hlk⟩ := id C
  have hl : lv_has ls 1 [(0, .ref h0)] := hl
  refine lv_aload_n hx hb dX1_init_0 rfl (lv_at hl 0 rfl) ?_
  refine iObj C hl.1 tw1_112 (Nat.le_of_ble_eq_true rfl) (Nat.le_of_ble_eq_true rfl) dX1_init_1 ?_
  refine lv_aload_n hx hb dX1_init_4 rfl (lv_at hl 0 rfl) ?_
  refine lv_iconst (v := (5 : Int32)) hx hb dX1_init_5 (by decide) ?_
  refine iNewA C wd (N := 5) (by decide) (by decide) (by decide) (Nat.le_of_ble_eq_true rfl) (Nat.le_of_ble_eq_true rfl) dX1_init_6 (fun q1 H wd => ?_)
  have wd : iWd D cyI cyO _ s _ _ [(h0, .inr (1, [.int 0, .int 0, .null, .null])), (q1, .inl (cyI, 5, .inl (fun _ => 0)))] := wd
  refine iPutF C wd hin (a := h0) (k := 0) (ci := 1) (N := 4) (Cn := RX1) (T := TX1) (v := .ref q1) (ty := .array .int) rfl rfl tyX1_ok nmX1 2 (by decide) rfl rfl (by decide +kernel) rfl rfl (Nat.le_of_ble_eq_true rfl) inX1 tw1_115 dX1_init_8 (fun H locs wd => ?_)
  have wd : iWd D cyI cyO _ s _ _ [(h0, .inr (1, [.int 0, .int 0, .ref q1, .null])), (q1, .inl (cyI, 5, .inl (fun _ => 0)))] := wd
  refine lv_aload_n hx hb dX1_init_11 rfl (lv_at hl 0 rfl) ?_
  refine lv_iconst (v := (5 : Int32)) hx hb dX1_init_12 (by decide) ?_
  refine iNewA C wd (N := 5) (by decide) (by decide) (by decide) (Nat.le_of_ble_eq_true rfl) (Nat.le_of_ble_eq_true rfl) dX1_init_13 (fun q2 H wd => ?_)
  have wd : iWd D cyI cyO _ s _ _ [(h0, .inr (1, [.int 0, .int 0, .ref q1, .null])), (q1, .inl (cyI, 5, .inl (fun _ => 0))), (q2, .inl (cyI, 5, .inl (fun _ => 0)))] := wd
  refine iPutF C wd hin (a := h0) (k := 0) (ci := 1) (N := 4) (Cn := RX1) (T := TX1) (v := .ref q2) (ty := .array .int) rfl rfl tyX1_ok nmX1 3 (by decide) rfl rfl (by decide +kernel) rfl rfl (Nat.le_of_ble_eq_true rfl) inX1 tw1_116 dX1_init_15 (fun H locs wd => ?_)
  have wd : iWd D cyI cyO _ s _ _ [(h0, .inr (1, [.int 0, .int 0, .ref q1, .ref q2])), (q1, .inl (cyI, 5, .inl (fun _ => 0))), (q2, .inl (cyI, 5, .inl (fun _ => 0)))] := wd
  exact iRetV C wd (fun k => match k with | 0 => q1 | 1 => q2 | _ => 0) trivial rfl dX1_init_18
def blkX6 (cyI : ClassId) (h0 : Nat) (u : Nat → Nat) : va_W := [(h0, .inr (6, [.int 0, .int 0, .ref (u 0), .ref (u 1), .ref (u 2), .ref (u 3)])), ((u 0), .inl (cyI, 30, .inl (fun _ => 0))), ((u 1), .inl (cyI, 30, .inl (fun _ => 0))), ((u 2), .inl (cyI, 30, .inl (fun _ => 0))), ((u 3), .inl (cyI, 30, .inl (fun _ => 0)))]
abbrev rmciX6 : Room := { frames := 1, cells := 4, slots := 120, locals := 21 }
set_option maxHeartbeats 4000000 in
set_option maxRecDepth 100000 in
theorem ciX6 {D : va_G} {cyI cyO : ClassId} {l : Launch} {h0 sz : Nat} : iMet D cyI cyO l yX6_init cX6_init 1 rmciX6 [.ref h0] [(h0, .inr (6, [.int 0, .int 0, .null, .null, .null, .null]))] sz (fun _ : Nat → Nat => True) (blkX6 cyI h0) 4 120 := by
  refine iMet.of (by decide) rfl (Nat.le_of_ble_eq_true rfl) ?_
  intro p e s m below meth c ls hsz hin C hl wd
  subst hsz
  have C : Cx p s m _ meth c cX6_init 1 none RX6 := C
  obtain ⟨hx, hb, hr, hml, hown, hts, hlk⟩ := id C
  have hl : lv_has ls 1 [(0, .ref h0)] := hl
  refine lv_aload_n hx hb dX6_init_0 rfl (lv_at hl 0 rfl) ?_
  refine iObj C hl.1 tw1_81 (Nat.le_of_ble_eq_true rfl) (Nat.le_of_ble_eq_true rfl) dX6_init_1 ?_
  refine lv_aload_n hx hb dX6_init_4 rfl (lv_at hl 0 rfl) ?_
  refine lv_bipush (v := (30 : Int32)) hx hb dX6_init_5 (by decide) ?_
  refine iNewA C wd (N := 30) (by decide) (by decide) (by decide) (Nat.le_of_ble_eq_true rfl) (Nat.le_of_ble_eq_true rfl) dX6_init_7 (fun q1 H wd => ?_)
  have wd : iWd D cyI cyO _ s _ _ [(h0, .inr (6, [.int 0, .int 0, .null, .null, .null, .null])), (q1, .inl (cyI, 30, .inl (fun _ => 0)))] := wd
  refine iPutF C wd hin (a := h0) (k := 0) (ci := 6) (N := 6) (Cn := RX6) (T := TX6) (v := .ref q1) (ty := .array .int) rfl rfl tyX6_ok nmX6 2 (by decide) rfl rfl (by decide +kernel) rfl rfl (Nat.le_of_ble_eq_true rfl) inX6 tw1_87 dX6_init_9 (fun H locs wd => ?_)
  have wd : iWd D cyI cyO _ s _ _ [(h0, .inr (6, [.int 0, .int 0, .ref q1, .null, .null, .null])), (q1, .inl (cyI, 30, .inl (fun _ => 0)))] := wd
  refine lv_aload_n hx hb dX6_init_12 rfl (lv_at hl 0 rfl) ?_
  refine lv_bipush (v := (30 : Int32)) hx hb dX6_init_13 (by decide) ?_
  refine iNewA C wd (N := 30) (by decide) (by decide) (by decide) (Nat.le_of_ble_eq_true rfl) (Nat.le_of_ble_eq_true rfl) dX6_init_15 (fun q2 H wd => ?_)
  have wd : iWd D cyI cyO _ s _ _ [(h0, .inr (6, [.int 0, .int 0, .ref q1, .null, .null, .null])), (q1, .inl (cyI, 30, .inl (fun _ => 0))), (q2, .inl (cyI, 30, .inl (fun _ => 0)))] := wd
  refine iPutF C wd hin (a := h0) (k := 0) (ci := 6) (N := 6) (Cn := RX6) (T := TX6) (v := .ref q2) (ty := .array .int) rfl rfl tyX6_ok nmX6 3 (by decide) rfl rfl (by decide +kernel) rfl rfl (Nat.le_of_ble_eq_true rfl) inX6 tw1_89 dX6_init_17 (fun H locs wd => ?_)
  have wd : iWd D cyI cyO _ s _ _ [(h0, .inr (6, [.int 0, .int 0, .ref q1, .ref q2, .null, .null])), (q1, .inl (cyI, 30, .inl (fun _ => 0))), (q2, .inl (cyI, 30, .inl (fun _ => 0)))] := wd
  refine lv_aload_n hx hb dX6_init_20 rfl (lv_at hl 0 rfl) ?_
  refine lv_bipush (v := (30 : Int32)) hx hb dX6_init_21 (by decide) ?_
  refine iNewA C wd (N := 30) (by decide) (by decide) (by decide) (Nat.le_of_ble_eq_true rfl) (Nat.le_of_ble_eq_true rfl) dX6_init_23 (fun q3 H wd => ?_)
  have wd : iWd D cyI cyO _ s _ _ [(h0, .inr (6, [.int 0, .int 0, .ref q1, .ref q2, .null, .null])), (q1, .inl (cyI, 30, .inl (fun _ => 0))), (q2, .inl (cyI, 30, .inl (fun _ => 0))), (q3, .inl (cyI, 30, .inl (fun _ => 0)))] := wd
  refine iPutF C wd hin (a := h0) (k := 0) (ci := 6) (N := 6) (Cn := RX6) (T := TX6) (v := .ref q3) (ty := .array .int) rfl rfl tyX6_ok nmX6 4 (by decide) rfl rfl (by decide +kernel) rfl rfl (Nat.le_of_ble_eq_true rfl) inX6 tw1_91 dX6_init_25 (fun H locs wd => ?_)
  have wd : iWd D cyI cyO _ s _ _ [(h0, .inr (6, [.int 0, .int 0, .ref q1, .ref q2, .ref q3, .null])), (q1, .inl (cyI, 30, .inl (fun _ => 0))), (q2, .inl (cyI, 30, .inl (fun _ => 0))), (q3, .inl (cyI, 30, .inl (fun _ => 0)))] := wd
  refine lv_aload_n hx hb dX6_init_28 rfl (lv_at hl 0 rfl) ?_
  refine lv_bipush (v := (30 : Int32)) hx hb dX6_init_29 (by decide) ?_
  refine iNewA C wd (N := 30) (by decide) (by decide) (by decide) (Nat.le_of_ble_eq_true rfl) (Nat.le_of_ble_eq_true rfl) dX6_init_31 (fun q4 H wd => ?_)
  have wd : iWd D cyI cyO _ s _ _ [(h0, .inr (6, [.int 0, .int 0, .ref q1, .ref q2, .ref q3, .null])), (q1, .inl (cyI, 30, .inl (fun _ => 0))), (q2, .inl (cyI, 30, .inl (fun _ => 0))), (q3, .inl (cyI, 30, .inl (fun _ => 0))), (q4, .inl (cyI, 30, .inl (fun _ => 0)))] := wd
  refine iPutF C wd hin (a := h0) (k := 0) (ci := 6) (N := 6) (Cn := RX6) (T := TX6) (v := .ref q4) (ty := .array .int) rfl rfl tyX6_ok nmX6 5 (by decide) rfl rfl (by decide +kernel) rfl rfl (Nat.le_of_ble_eq_true rfl) inX6 tw1_93 dX6_init_33 (fun H locs wd => ?_)
  have wd : iWd D cyI cyO _ s _ _ [(h0, .inr (6, [.int 0, .int 0, .ref q1, .ref q2, .ref q3, .ref q4])), (q1, .inl (cyI, 30, .inl (fun _ => 0))), (q2, .inl (cyI, 30, .inl (fun _ => 0))), (q3, .inl (cyI, 30, .inl (fun _ => 0))), (q4, .inl (cyI, 30, .inl (fun _ => 0)))] := wd
  exact iRetV C wd (fun k => match k with | 0 => q1 | 1 => q2 | 2 => q3 | 3 => q4 | _ => 0) trivial rfl dX6_init_36
def blkX4 (cyI : ClassId) (h0 : Nat) (u : Nat → Nat) : va_W := [(h0, .inr (4, [.int 0, .int 0, .int 0, .ref (u 0), .ref (u 1), .ref (u 2)])), ((u 0), .inl (cyI, 60, .inl (fun _ => 0))), ((u 1), .inl (cyI, 60, .inl (fun _ => 0))), ((u 2), .inl (cyI, 60, .inl (fun _ => 0)))]
abbrev rmciX4 : Room := { frames := 1, cells := 3, slots := 180, locals := 21 }
set_option maxHeartbeats 4000000 in
set_option maxRecDepth 100000 in
theorem ciX4 {D : va_G} {cyI cyO : ClassId} {l : Launch} {h0 sz : Nat} : iMet D cyI cyO l yX4_init cX4_init 1 rmciX4 [.ref h0] [(h0, .inr (4, [.int 0, .int 0, .int 0, .null, .null, .null]))] sz (fun _ : Nat → Nat => True) (blkX4 cyI h0) 3 180 := by
  refine iMet.of (by decide) rfl (Nat.le_of_ble_eq_true rfl) ?_
  intro p e s m below meth c ls hsz hin C hl wd
  subst hsz
  have C : Cx p s m _ meth c cX4_init 1 none RX4 := C
  obtain ⟨hx, hb, hr, hml, hown, hts, hlk⟩ := id C
  have hl : lv_has ls 1 [(0, .ref h0)] := hl
  refine lv_aload_n hx hb dX4_init_0 rfl (lv_at hl 0 rfl) ?_
  refine iObj C hl.1 tw1_239 (Nat.le_of_ble_eq_true rfl) (Nat.le_of_ble_eq_true rfl) dX4_init_1 ?_
  refine lv_aload_n hx hb dX4_init_4 rfl (lv_at hl 0 rfl) ?_
  refine lv_bipush (v := (60 : Int32)) hx hb dX4_init_5 (by decide) ?_
  refine iNewA C wd (N := 60) (by decide) (by decide) (by decide) (Nat.le_of_ble_eq_true rfl) (Nat.le_of_ble_eq_true rfl) dX4_init_7 (fun q1 H wd => ?_)
  have wd : iWd D cyI cyO _ s _ _ [(h0, .inr (4, [.int 0, .int 0, .int 0, .null, .null, .null])), (q1, .inl (cyI, 60, .inl (fun _ => 0)))] := wd
  refine iPutF C wd hin (a := h0) (k := 0) (ci := 4) (N := 6) (Cn := RX4) (T := TX4) (v := .ref q1) (ty := .array .int) rfl rfl tyX4_ok nmX4 3 (by decide) rfl rfl (by decide +kernel) rfl rfl (Nat.le_of_ble_eq_true rfl) inX4 tw2_4 dX4_init_9 (fun H locs wd => ?_)
  have wd : iWd D cyI cyO _ s _ _ [(h0, .inr (4, [.int 0, .int 0, .int 0, .ref q1, .null, .null])), (q1, .inl (cyI, 60, .inl (fun _ => 0)))] := wd
  refine lv_aload_n hx hb dX4_init_12 rfl (lv_at hl 0 rfl) ?_
  refine lv_bipush (v := (60 : Int32)) hx hb dX4_init_13 (by decide) ?_
  refine iNewA C wd (N := 60) (by decide) (by decide) (by decide) (Nat.le_of_ble_eq_true rfl) (Nat.le_of_ble_eq_true rfl) dX4_init_15 (fun q2 H wd => ?_)
  have wd : iWd D cyI cyO _ s _ _ [(h0, .inr (4, [.int 0, .int 0, .int 0, .ref q1, .null, .null])), (q1, .inl (cyI, 60, .inl (fun _ => 0))), (q2, .inl (cyI, 60, .inl (fun _ => 0)))] := wd
  refine iPutF C wd hin (a := h0) (k := 0) (ci := 4) (N := 6) (Cn := RX4) (T := TX4) (v := .ref q2) (ty := .array .int) rfl rfl tyX4_ok nmX4 4 (by decide) rfl rfl (by decide +kernel) rfl rfl (Nat.le_of_ble_eq_true rfl) inX4 tw2_6 dX4_init_17 (fun H locs wd => ?_)
  have wd : iWd D cyI cyO _ s _ _ [(h0, .inr (4, [.int 0, .int 0, .int 0, .ref q1, .ref q2, .null])), (q1, .inl (cyI, 60, .inl (fun _ => 0))), (q2, .inl (cyI, 60, .inl (fun _ => 0)))] := wd
  refine lv_aload_n hx hb dX4_init_20 rfl (lv_at hl 0 rfl) ?_
  refine lv_bipush (v := (60 : Int32)) hx hb dX4_init_21 (by decide) ?_
  refine iNewA C wd (N := 60) (by decide) (by decide) (by decide) (Nat.le_of_ble_eq_true rfl) (Nat.le_of_ble_eq_true rfl) dX4_init_23 (fun q3 H wd => ?_)
  have wd : iWd D cyI cyO _ s _ _ [(h0, .inr (4, [.int 0, .int 0, .int 0, .ref q1, .ref q2, .null])), (q1, .inl (cyI, 60, .inl (fun _ => 0))), (q2, .inl (cyI, 60, .inl (fun _ => 0))), (q3, .inl (cyI, 60, .inl (fun _ => 0)))] := wd
  refine iPutF C wd hin (a := h0) (k := 0) (ci := 4) (N := 6) (Cn := RX4) (T := TX4) (v := .ref q3) (ty := .array .int) rfl rfl tyX4_ok nmX4 5 (by decide) rfl rfl (by decide +kernel) rfl rfl (Nat.le_of_ble_eq_true rfl) inX4 tw2_8 dX4_init_25 (fun H locs wd => ?_)
  have wd : iWd D cyI cyO _ s _ _ [(h0, .inr (4, [.int 0, .int 0, .int 0, .ref q1, .ref q2, .ref q3])), (q1, .inl (cyI, 60, .inl (fun _ => 0))), (q2, .inl (cyI, 60, .inl (fun _ => 0))), (q3, .inl (cyI, 60, .inl (fun _ => 0)))] := wd
  exact iRetV C wd (fun k => match k with | 0 => q1 | 1 => q2 | 2 => q3 | _ => 0) trivial rfl dX4_init_28
def blkX0 (cyI : ClassId) (x1 : Int32) (h0 : Nat) (u : Nat → Nat) : va_W := [(h0, .inr (0, [.int x1, .int 0, .int 0, .int 0, .int 0, .ref (u 0), .ref (u 1), .ref (u 2), .ref (u 5)])), ((u 0), .inl (cyI, 24, .inl (fun _ => 0))), ((u 1), .inl (cyI, 24, .inl (fun _ => 0))), ((u 2), .inr (5, [.ref (u 3), .ref (u 4)])), ((u 3), .inl (cyI, 120, .inl (fun _ => 0))), ((u 4), .inl (cyI, 120, .inl (fun _ => 0))), ((u 5), .inl (cyI, 60, .inl (fun _ => 0)))]
abbrev rmciX0 : Room := { frames := 2, cells := 6, slots := 350, locals := 43 }
set_option maxHeartbeats 4000000 in
set_option maxRecDepth 100000 in
theorem ciX0 {D : va_G} {cyI cyO : ClassId} {l : Launch} {h0 sz : Nat} {x1 : Int32} : iMet D cyI cyO l yX0_init cX0_init 2 rmciX0 [.ref h0, .int x1] [(h0, .inr (0, [.int 0, .int 0, .int 0, .int 0, .int 0, .null, .null, .null, .null]))] sz (fun _ : Nat → Nat => True) (blkX0 cyI x1 h0) 6 350 := by
  refine iMet.of (by decide) rfl (Nat.le_of_ble_eq_true rfl) ?_
  intro p e s m below meth c ls hsz hin C hl wd
  subst hsz
  have C : Cx p s m _ meth c cX0_init 2 none RX0 := C
  obtain ⟨hx, hb, hr, hml, hown, hts, hlk⟩ := id C
  have hl : lv_has ls 2 [(0, .ref h0), (1, .int x1)] := hl
  refine lv_aload_n hx hb dX0_init_0 rfl (lv_at hl 0 rfl) ?_
  refine iObj C hl.1 tw1_130 (Nat.le_of_ble_eq_true rfl) (Nat.le_of_ble_eq_true rfl) dX0_init_1 ?_
  refine lv_aload_n hx hb dX0_init_4 rfl (lv_at hl 0 rfl) ?_
  refine lv_bipush (v := (24 : Int32)) hx hb dX0_init_5 (by decide) ?_
  refine iNewA C wd (N := 24) (by decide) (by decide) (by decide) (Nat.le_of_ble_eq_true rfl) (Nat.le_of_ble_eq_true rfl) dX0_init_7 (fun q1 H wd => ?_)
  have wd : iWd D cyI cyO _ s _ _ [(h0, .inr (0, [.int 0, .int 0, .int 0, .int 0, .int 0, .null, .null, .null, .null])), (q1, .inl (cyI, 24, .inl (fun _ => 0)))] := wd
  refine iPutF C wd hin (a := h0) (k := 0) (ci := 0) (N := 9) (Cn := RX0) (T := TX0) (v := .ref q1) (ty := .array .int) rfl rfl tyX0_ok nmX0 5 (by decide) rfl rfl (by decide +kernel) rfl rfl (Nat.le_of_ble_eq_true rfl) inX0 tw1_147 dX0_init_9 (fun H locs wd => ?_)
  have wd : iWd D cyI cyO _ s _ _ [(h0, .inr (0, [.int 0, .int 0, .int 0, .int 0, .int 0, .ref q1, .null, .null, .null])), (q1, .inl (cyI, 24, .inl (fun _ => 0)))] := wd
  refine lv_aload_n hx hb dX0_init_12 rfl (lv_at hl 0 rfl) ?_
  refine lv_bipush (v := (24 : Int32)) hx hb dX0_init_13 (by decide) ?_
  refine iNewA C wd (N := 24) (by decide) (by decide) (by decide) (Nat.le_of_ble_eq_true rfl) (Nat.le_of_ble_eq_true rfl) dX0_init_15 (fun q2 H wd => ?_)
  have wd : iWd D cyI cyO _ s _ _ [(h0, .inr (0, [.int 0, .int 0, .int 0, .int 0, .int 0, .ref q1, .null, .null, .null])), (q1, .inl (cyI, 24, .inl (fun _ => 0))), (q2, .inl (cyI, 24, .inl (fun _ => 0)))] := wd
  refine iPutF C wd hin (a := h0) (k := 0) (ci := 0) (N := 9) (Cn := RX0) (T := TX0) (v := .ref q2) (ty := .array .int) rfl rfl tyX0_ok nmX0 6 (by decide) rfl rfl (by decide +kernel) rfl rfl (Nat.le_of_ble_eq_true rfl) inX0 tw1_149 dX0_init_17 (fun H locs wd => ?_)
  have wd : iWd D cyI cyO _ s _ _ [(h0, .inr (0, [.int 0, .int 0, .int 0, .int 0, .int 0, .ref q1, .ref q2, .null, .null])), (q1, .inl (cyI, 24, .inl (fun _ => 0))), (q2, .inl (cyI, 24, .inl (fun _ => 0)))] := wd
  refine lv_aload_n hx hb dX0_init_20 rfl (lv_at hl 0 rfl) ?_
  refine iNew C wd (Cn := RX5) (T := TX5) (N := 2) (ci := 5) (ty := tyX5) (fs := [.null, .null]) inX5 tyX5_ok tw1_131 tw1_36 tw1_4 rfl (fun j hj => by rcases (show j = 0 ∨ j = 1 by omega) with rfl | rfl <;> rfl) (Nat.le_of_ble_eq_true rfl) (Nat.le_of_ble_eq_true rfl) dX0_init_21 (fun q3 H wd => ?_)
  refine lv_dup hx hb dX0_init_24 rfl ?_
  refine lv_bipush (v := (24 : Int32)) hx hb dX0_init_25 (by decide) ?_
  refine iCall (y := yX5_init) (As := [.int (24 : Int32)]) (rest := [.ref q3, .ref h0]) C wd ciX5_24 ⟨rfl, rfl⟩ gi_X5_init rfl tw1_4 tw1_38 (Or.inl tw1_132) nki_X5_init ⟨(Nat.le_of_ble_eq_true rfl), (Nat.le_of_ble_eq_true rfl)⟩ hl.1 (Nat.le_of_ble_eq_true rfl) dX0_init_27 rfl ⟨(Nat.le_of_ble_eq_true rfl), (Nat.le_of_ble_eq_true rfl)⟩ (fun u3 H locs _ wd => ?_)
  have wd : iWd D cyI cyO _ s _ _ [(h0, .inr (0, [.int 0, .int 0, .int 0, .int 0, .int 0, .ref q1, .ref q2, .null, .null])), (q1, .inl (cyI, 24, .inl (fun _ => 0))), (q2, .inl (cyI, 24, .inl (fun _ => 0))), (q3, .inr (5, [.ref (u3 0), .ref (u3 1)])), ((u3 0), .inl (cyI, 120, .inl (fun _ => 0))), ((u3 1), .inl (cyI, 120, .inl (fun _ => 0)))] := wd
  refine iPutF C wd hin (a := h0) (k := 0) (ci := 0) (N := 9) (Cn := RX0) (T := TX0) (v := .ref q3) (ty := .object "OrphanLogs$Rests") rfl rfl tyX0_ok nmX0 7 (by decide) rfl rfl (by decide +kernel) rfl rfl (Nat.le_of_ble_eq_true rfl) inX0 tw1_151 dX0_init_30 (fun H locs wd => ?_)
  have wd : iWd D cyI cyO _ s _ _ [(h0, .inr (0, [.int 0, .int 0, .int 0, .int 0, .int 0, .ref q1, .ref q2, .ref q3, .null])), (q1, .inl (cyI, 24, .inl (fun _ => 0))), (q2, .inl (cyI, 24, .inl (fun _ => 0))), (q3, .inr (5, [.ref (u3 0), .ref (u3 1)])), ((u3 0), .inl (cyI, 120, .inl (fun _ => 0))), ((u3 1), .inl (cyI, 120, .inl (fun _ => 0)))] := wd
  refine lv_aload_n hx hb dX0_init_33 rfl (lv_at hl 0 rfl) ?_
  refine lv_bipush (v := (60 : Int32)) hx hb dX0_init_34 (by decide) ?_
  refine iNewA C wd (N := 60) (by decide) (by decide) (by decide) (Nat.le_of_ble_eq_true rfl) (Nat.le_of_ble_eq_true rfl) dX0_init_36 (fun q6 H wd => ?_)
  have wd : iWd D cyI cyO _ s _ _ [(h0, .inr (0, [.int 0, .int 0, .int 0, .int 0, .int 0, .ref q1, .ref q2, .ref q3, .null])), (q1, .inl (cyI, 24, .inl (fun _ => 0))), (q2, .inl (cyI, 24, .inl (fun _ => 0))), (q3, .inr (5, [.ref (u3 0), .ref (u3 1)])), ((u3 0), .inl (cyI, 120, .inl (fun _ => 0))), ((u3 1), .inl (cyI, 120, .inl (fun _ => 0))), (q6, .inl (cyI, 60, .inl (fun _ => 0)))] := wd
  refine iPutF C wd hin (a := h0) (k := 0) (ci := 0) (N := 9) (Cn := RX0) (T := TX0) (v := .ref q6) (ty := .array .int) rfl rfl tyX0_ok nmX0 8 (by decide) rfl rfl (by decide +kernel) rfl rfl (Nat.le_of_ble_eq_true rfl) inX0 tw1_155 dX0_init_38 (fun H locs wd => ?_)
  have wd : iWd D cyI cyO _ s _ _ [(h0, .inr (0, [.int 0, .int 0, .int 0, .int 0, .int 0, .ref q1, .ref q2, .ref q3, .ref q6])), (q1, .inl (cyI, 24, .inl (fun _ => 0))), (q2, .inl (cyI, 24, .inl (fun _ => 0))), (q3, .inr (5, [.ref (u3 0), .ref (u3 1)])), ((u3 0), .inl (cyI, 120, .inl (fun _ => 0))), ((u3 1), .inl (cyI, 120, .inl (fun _ => 0))), (q6, .inl (cyI, 60, .inl (fun _ => 0)))] := wd
  refine lv_aload_n hx hb dX0_init_41 rfl (lv_at hl 0 rfl) ?_
  refine lv_iload_n hx hb dX0_init_42 rfl (lv_at hl 1 rfl) ?_
  refine iPutF C wd hin (a := h0) (k := 0) (ci := 0) (N := 9) (Cn := RX0) (T := TX0) (v := .int x1) (ty := .int) rfl rfl tyX0_ok nmX0 0 (by decide) rfl rfl (by decide +kernel) rfl rfl (Nat.le_of_ble_eq_true rfl) inX0 tw1_133 dX0_init_43 (fun H locs wd => ?_)
  have wd : iWd D cyI cyO _ s _ _ [(h0, .inr (0, [.int x1, .int 0, .int 0, .int 0, .int 0, .ref q1, .ref q2, .ref q3, .ref q6])), (q1, .inl (cyI, 24, .inl (fun _ => 0))), (q2, .inl (cyI, 24, .inl (fun _ => 0))), (q3, .inr (5, [.ref (u3 0), .ref (u3 1)])), ((u3 0), .inl (cyI, 120, .inl (fun _ => 0))), ((u3 1), .inl (cyI, 120, .inl (fun _ => 0))), (q6, .inl (cyI, 60, .inl (fun _ => 0)))] := wd
  exact iRetV C wd (fun k => match k with | 0 => q1 | 1 => q2 | 2 => q3 | 3 => (u3 0) | 4 => (u3 1) | 5 => q6 | _ => 0) trivial rfl dX0_init_46
def blkX3 (cyI : ClassId) (h0 : Nat) (u : Nat → Nat) : va_W := [(h0, .inr (3, [.int 0, .ref (u 0), .ref (u 1), .ref (u 2), .ref (u 3)])), ((u 0), .inl (cyI, 40, .inl (fun _ => 0))), ((u 1), .inl (cyI, 40, .inl (fun _ => 0))), ((u 2), .inl (cyI, 40, .inl (fun _ => 0))), ((u 3), .inr (5, [.ref (u 4), .ref (u 5)])), ((u 4), .inl (cyI, 200, .inl (fun _ => 0))), ((u 5), .inl (cyI, 200, .inl (fun _ => 0)))]
abbrev rmciX3 : Room := { frames := 2, cells := 6, slots := 522, locals := 43 }
set_option maxHeartbeats 4000000 in
set_option maxRecDepth 100000 in
theorem ciX3 {D : va_G} {cyI cyO : ClassId} {l : Launch} {h0 sz : Nat} : iMet D cyI cyO l yX3_init cX3_init 1 rmciX3 [.ref h0] [(h0, .inr (3, [.int 0, .null, .null, .null, .null]))] sz (fun _ : Nat → Nat => True) (blkX3 cyI h0) 6 522 := by
  refine iMet.of (by decide) rfl (Nat.le_of_ble_eq_true rfl) ?_
  intro p e s m below meth c ls hsz hin C hl wd
  subst hsz
  have C : Cx p s m _ meth c cX3_init 1 none RX3 := C
  obtain ⟨hx, hb, hr, hml, hown, hts, hlk⟩ := id C
  have hl : lv_has ls 1 [(0, .ref h0)] := hl
  refine lv_aload_n hx hb dX3_init_0 rfl (lv_at hl 0 rfl) ?_
  refine iObj C hl.1 tw1_34 (Nat.le_of_ble_eq_true rfl) (Nat.le_of_ble_eq_true rfl) dX3_init_1 ?_
  refine lv_aload_n hx hb dX3_init_4 rfl (lv_at hl 0 rfl) ?_
  refine lv_bipush (v := (40 : Int32)) hx hb dX3_init_5 (by decide) ?_
  refine iNewA C wd (N := 40) (by decide) (by decide) (by decide) (Nat.le_of_ble_eq_true rfl) (Nat.le_of_ble_eq_true rfl) dX3_init_7 (fun q1 H wd => ?_)
  have wd : iWd D cyI cyO _ s _ _ [(h0, .inr (3, [.int 0, .null, .null, .null, .null])), (q1, .inl (cyI, 40, .inl (fun _ => 0)))] := wd
  refine iPutF C wd hin (a := h0) (k := 0) (ci := 3) (N := 5) (Cn := RX3) (T := TX3) (v := .ref q1) (ty := .array .int) rfl rfl tyX3_ok nmX3 1 (by decide) rfl rfl (by decide +kernel) rfl rfl (Nat.le_of_ble_eq_true rfl) inX3 tw1_58 dX3_init_9 (fun H locs wd => ?_)
  have wd : iWd D cyI cyO _ s _ _ [(h0, .inr (3, [.int 0, .ref q1, .null, .null, .null])), (q1, .inl (cyI, 40, .inl (fun _ => 0)))] := wd
  refine lv_aload_n hx hb dX3_init_12 rfl (lv_at hl 0 rfl) ?_
  refine lv_bipush (v := (40 : Int32)) hx hb dX3_init_13 (by decide) ?_
  refine iNewA C wd (N := 40) (by decide) (by decide) (by decide) (Nat.le_of_ble_eq_true rfl) (Nat.le_of_ble_eq_true rfl) dX3_init_15 (fun q2 H wd => ?_)
  have wd : iWd D cyI cyO _ s _ _ [(h0, .inr (3, [.int 0, .ref q1, .null, .null, .null])), (q1, .inl (cyI, 40, .inl (fun _ => 0))), (q2, .inl (cyI, 40, .inl (fun _ => 0)))] := wd
  refine iPutF C wd hin (a := h0) (k := 0) (ci := 3) (N := 5) (Cn := RX3) (T := TX3) (v := .ref q2) (ty := .array .int) rfl rfl tyX3_ok nmX3 2 (by decide) rfl rfl (by decide +kernel) rfl rfl (Nat.le_of_ble_eq_true rfl) inX3 tw1_60 dX3_init_17 (fun H locs wd => ?_)
  have wd : iWd D cyI cyO _ s _ _ [(h0, .inr (3, [.int 0, .ref q1, .ref q2, .null, .null])), (q1, .inl (cyI, 40, .inl (fun _ => 0))), (q2, .inl (cyI, 40, .inl (fun _ => 0)))] := wd
  refine lv_aload_n hx hb dX3_init_20 rfl (lv_at hl 0 rfl) ?_
  refine lv_bipush (v := (40 : Int32)) hx hb dX3_init_21 (by decide) ?_
  refine iNewA C wd (N := 40) (by decide) (by decide) (by decide) (Nat.le_of_ble_eq_true rfl) (Nat.le_of_ble_eq_true rfl) dX3_init_23 (fun q3 H wd => ?_)
  have wd : iWd D cyI cyO _ s _ _ [(h0, .inr (3, [.int 0, .ref q1, .ref q2, .null, .null])), (q1, .inl (cyI, 40, .inl (fun _ => 0))), (q2, .inl (cyI, 40, .inl (fun _ => 0))), (q3, .inl (cyI, 40, .inl (fun _ => 0)))] := wd
  refine iPutF C wd hin (a := h0) (k := 0) (ci := 3) (N := 5) (Cn := RX3) (T := TX3) (v := .ref q3) (ty := .array .int) rfl rfl tyX3_ok nmX3 3 (by decide) rfl rfl (by decide +kernel) rfl rfl (Nat.le_of_ble_eq_true rfl) inX3 tw1_61 dX3_init_25 (fun H locs wd => ?_)
  have wd : iWd D cyI cyO _ s _ _ [(h0, .inr (3, [.int 0, .ref q1, .ref q2, .ref q3, .null])), (q1, .inl (cyI, 40, .inl (fun _ => 0))), (q2, .inl (cyI, 40, .inl (fun _ => 0))), (q3, .inl (cyI, 40, .inl (fun _ => 0)))] := wd
  refine lv_aload_n hx hb dX3_init_28 rfl (lv_at hl 0 rfl) ?_
  refine iNew C wd (Cn := RX5) (T := TX5) (N := 2) (ci := 5) (ty := tyX5) (fs := [.null, .null]) inX5 tyX5_ok tw1_35 tw1_36 tw1_4 rfl (fun j hj => by rcases (show j = 0 ∨ j = 1 by omega) with rfl | rfl <;> rfl) (Nat.le_of_ble_eq_true rfl) (Nat.le_of_ble_eq_true rfl) dX3_init_29 (fun q4 H wd => ?_)
  refine lv_dup hx hb dX3_init_32 rfl ?_
  refine lv_bipush (v := (40 : Int32)) hx hb dX3_init_33 (by decide) ?_
  refine iCall (y := yX5_init) (As := [.int (40 : Int32)]) (rest := [.ref q4, .ref h0]) C wd ciX5_40 ⟨rfl, rfl⟩ gi_X5_init rfl tw1_4 tw1_38 (Or.inl tw1_37) nki_X5_init ⟨(Nat.le_of_ble_eq_true rfl), (Nat.le_of_ble_eq_true rfl)⟩ hl.1 (Nat.le_of_ble_eq_true rfl) dX3_init_35 rfl ⟨(Nat.le_of_ble_eq_true rfl), (Nat.le_of_ble_eq_true rfl)⟩ (fun u4 H locs _ wd => ?_)
  have wd : iWd D cyI cyO _ s _ _ [(h0, .inr (3, [.int 0, .ref q1, .ref q2, .ref q3, .null])), (q1, .inl (cyI, 40, .inl (fun _ => 0))), (q2, .inl (cyI, 40, .inl (fun _ => 0))), (q3, .inl (cyI, 40, .inl (fun _ => 0))), (q4, .inr (5, [.ref (u4 0), .ref (u4 1)])), ((u4 0), .inl (cyI, 200, .inl (fun _ => 0))), ((u4 1), .inl (cyI, 200, .inl (fun _ => 0)))] := wd
  refine iPutF C wd hin (a := h0) (k := 0) (ci := 3) (N := 5) (Cn := RX3) (T := TX3) (v := .ref q4) (ty := .object "OrphanLogs$Rests") rfl rfl tyX3_ok nmX3 4 (by decide) rfl rfl (by decide +kernel) rfl rfl (Nat.le_of_ble_eq_true rfl) inX3 tw1_63 dX3_init_38 (fun H locs wd => ?_)
  have wd : iWd D cyI cyO _ s _ _ [(h0, .inr (3, [.int 0, .ref q1, .ref q2, .ref q3, .ref q4])), (q1, .inl (cyI, 40, .inl (fun _ => 0))), (q2, .inl (cyI, 40, .inl (fun _ => 0))), (q3, .inl (cyI, 40, .inl (fun _ => 0))), (q4, .inr (5, [.ref (u4 0), .ref (u4 1)])), ((u4 0), .inl (cyI, 200, .inl (fun _ => 0))), ((u4 1), .inl (cyI, 200, .inl (fun _ => 0)))] := wd
  exact iRetV C wd (fun k => match k with | 0 => q1 | 1 => q2 | 2 => q3 | 3 => q4 | 4 => (u4 0) | 5 => (u4 1) | _ => 0) trivial rfl dX3_init_41
def blkX10 (cyI : ClassId) (h0 : Nat) (u : Nat → Nat) : va_W := [(h0, .inr (10, [.int (3 : Int32), .ref (u 0), .ref (u 1), .ref (u 2), .ref (u 3), .ref (u 4), .ref (u 5), .ref (u 6), .ref (u 7), .ref (u 8), .ref (u 9), .int 0, .ref (u 10), .int 0, .ref (u 11), .int 0, .int 0, .ref (u 12), .ref (u 13), .int 0, .int 0, .ref (u 14), .int 0, .int 0, .int 0, .int 0])), ((u 0), .inl (cyI, 5, .inl (fun _ => 0))), ((u 1), .inl (cyI, 5, .inl (fun _ => 0))), ((u 2), .inl (cyI, 5, .inl (fun _ => 0))), ((u 3), .inl (cyI, 5, .inl (fun _ => 0))), ((u 4), .inl (cyI, 640, .inl (fun _ => 0))), ((u 5), .inl (cyI, 120, .inl (fun _ => 0))), ((u 6), .inl (cyI, 120, .inl (fun _ => 0))), ((u 7), .inl (cyI, 600, .inl (fun _ => 0))), ((u 8), .inl (cyI, 600, .inl (fun _ => 0))), ((u 9), .inl (cyI, 520, .inl (fun _ => 0))), ((u 10), .inl (cyI, 90, .inl (fun _ => 0))), ((u 11), .inl (cyI, 30, .inl (fun _ => 0))), ((u 12), .inl (cyI, 3, .inl (fun _ => 0))), ((u 13), .inl (cyI, 15, .inl (fun _ => 0))), ((u 14), .inl (cyI, 120, .inl (fun _ => 0)))]
abbrev rmciX10 : Room := { frames := 1, cells := 15, slots := 2878, locals := 21 }
set_option maxHeartbeats 4000000 in
set_option maxRecDepth 100000 in
theorem ciX10 {D : va_G} {cyI cyO : ClassId} {l : Launch} {h0 sz : Nat} : iMet D cyI cyO l yX10_init cX10_init 1 rmciX10 [.ref h0] [(h0, .inr (10, [.int 0, .null, .null, .null, .null, .null, .null, .null, .null, .null, .null, .int 0, .null, .int 0, .null, .int 0, .int 0, .null, .null, .int 0, .int 0, .null, .int 0, .int 0, .int 0, .int 0]))] sz (fun _ : Nat → Nat => True) (blkX10 cyI h0) 15 2878 := by
  refine iMet.of (by decide) rfl (Nat.le_of_ble_eq_true rfl) ?_
  intro p e s m below meth c ls hsz hin C hl wd
  subst hsz
  have C : Cx p s m _ meth c cX10_init 1 none RX10 := C
  obtain ⟨hx, hb, hr, hml, hown, hts, hlk⟩ := id C
  have hl : lv_has ls 1 [(0, .ref h0)] := hl
  refine lv_aload_n hx hb dX10_init_0 rfl (lv_at hl 0 rfl) ?_
  refine iObj C hl.1 tw4_25 (Nat.le_of_ble_eq_true rfl) (Nat.le_of_ble_eq_true rfl) dX10_init_1 ?_
  refine lv_aload_n hx hb dX10_init_4 rfl (lv_at hl 0 rfl) ?_
  refine lv_iconst (v := (3 : Int32)) hx hb dX10_init_5 (by decide) ?_
  refine iPut C wd (a := h0) (k := 0) (ci := 10) (N := 26) (Cn := RX10) (T := TX10) (v := .int (3 : Int32)) (ty := .int) rfl rfl tyX10_ok nmX10 0 (by decide) rfl (by decide +kernel) rfl rfl (Nat.le_of_ble_eq_true rfl) inX10 tw4_26 dX10_init_6 (fun H locs wd => ?_)
  have wd : iWd D cyI cyO _ s _ _ [(h0, .inr (10, [.int (3 : Int32), .null, .null, .null, .null, .null, .null, .null, .null, .null, .null, .int 0, .null, .int 0, .null, .int 0, .int 0, .null, .null, .int 0, .int 0, .null, .int 0, .int 0, .int 0, .int 0]))] := wd
  refine lv_aload_n hx hb dX10_init_9 rfl (lv_at hl 0 rfl) ?_
  refine lv_iconst (v := (5 : Int32)) hx hb dX10_init_10 (by decide) ?_
  refine iNewA C wd (N := 5) (by decide) (by decide) (by decide) (Nat.le_of_ble_eq_true rfl) (Nat.le_of_ble_eq_true rfl) dX10_init_11 (fun q1 H wd => ?_)
  have wd : iWd D cyI cyO _ s _ _ [(h0, .inr (10, [.int (3 : Int32), .null, .null, .null, .null, .null, .null, .null, .null, .null, .null, .int 0, .null, .int 0, .null, .int 0, .int 0, .null, .null, .int 0, .int 0, .null, .int 0, .int 0, .int 0, .int 0])), (q1, .inl (cyI, 5, .inl (fun _ => 0)))] := wd
  refine iPutF C wd hin (a := h0) (k := 0) (ci := 10) (N := 26) (Cn := RX10) (T := TX10) (v := .ref q1) (ty := .array .int) rfl rfl tyX10_ok nmX10 1 (by decide) rfl rfl (by decide +kernel) rfl rfl (Nat.le_of_ble_eq_true rfl) inX10 tw4_27 dX10_init_13 (fun H locs wd => ?_)
  have wd : iWd D cyI cyO _ s _ _ [(h0, .inr (10, [.int (3 : Int32), .ref q1, .null, .null, .null, .null, .null, .null, .null, .null, .null, .int 0, .null, .int 0, .null, .int 0, .int 0, .null, .null, .int 0, .int 0, .null, .int 0, .int 0, .int 0, .int 0])), (q1, .inl (cyI, 5, .inl (fun _ => 0)))] := wd
  refine lv_aload_n hx hb dX10_init_16 rfl (lv_at hl 0 rfl) ?_
  refine lv_iconst (v := (5 : Int32)) hx hb dX10_init_17 (by decide) ?_
  refine iNewA C wd (N := 5) (by decide) (by decide) (by decide) (Nat.le_of_ble_eq_true rfl) (Nat.le_of_ble_eq_true rfl) dX10_init_18 (fun q2 H wd => ?_)
  have wd : iWd D cyI cyO _ s _ _ [(h0, .inr (10, [.int (3 : Int32), .ref q1, .null, .null, .null, .null, .null, .null, .null, .null, .null, .int 0, .null, .int 0, .null, .int 0, .int 0, .null, .null, .int 0, .int 0, .null, .int 0, .int 0, .int 0, .int 0])), (q1, .inl (cyI, 5, .inl (fun _ => 0))), (q2, .inl (cyI, 5, .inl (fun _ => 0)))] := wd
  refine iPutF C wd hin (a := h0) (k := 0) (ci := 10) (N := 26) (Cn := RX10) (T := TX10) (v := .ref q2) (ty := .array .int) rfl rfl tyX10_ok nmX10 2 (by decide) rfl rfl (by decide +kernel) rfl rfl (Nat.le_of_ble_eq_true rfl) inX10 tw4_28 dX10_init_20 (fun H locs wd => ?_)
  have wd : iWd D cyI cyO _ s _ _ [(h0, .inr (10, [.int (3 : Int32), .ref q1, .ref q2, .null, .null, .null, .null, .null, .null, .null, .null, .int 0, .null, .int 0, .null, .int 0, .int 0, .null, .null, .int 0, .int 0, .null, .int 0, .int 0, .int 0, .int 0])), (q1, .inl (cyI, 5, .inl (fun _ => 0))), (q2, .inl (cyI, 5, .inl (fun _ => 0)))] := wd
  refine lv_aload_n hx hb dX10_init_23 rfl (lv_at hl 0 rfl) ?_
  refine lv_iconst (v := (5 : Int32)) hx hb dX10_init_24 (by decide) ?_
  refine iNewA C wd (N := 5) (by decide) (by decide) (by decide) (Nat.le_of_ble_eq_true rfl) (Nat.le_of_ble_eq_true rfl) dX10_init_25 (fun q3 H wd => ?_)
  have wd : iWd D cyI cyO _ s _ _ [(h0, .inr (10, [.int (3 : Int32), .ref q1, .ref q2, .null, .null, .null, .null, .null, .null, .null, .null, .int 0, .null, .int 0, .null, .int 0, .int 0, .null, .null, .int 0, .int 0, .null, .int 0, .int 0, .int 0, .int 0])), (q1, .inl (cyI, 5, .inl (fun _ => 0))), (q2, .inl (cyI, 5, .inl (fun _ => 0))), (q3, .inl (cyI, 5, .inl (fun _ => 0)))] := wd
  refine iPutF C wd hin (a := h0) (k := 0) (ci := 10) (N := 26) (Cn := RX10) (T := TX10) (v := .ref q3) (ty := .array .int) rfl rfl tyX10_ok nmX10 3 (by decide) rfl rfl (by decide +kernel) rfl rfl (Nat.le_of_ble_eq_true rfl) inX10 tw4_29 dX10_init_27 (fun H locs wd => ?_)
  have wd : iWd D cyI cyO _ s _ _ [(h0, .inr (10, [.int (3 : Int32), .ref q1, .ref q2, .ref q3, .null, .null, .null, .null, .null, .null, .null, .int 0, .null, .int 0, .null, .int 0, .int 0, .null, .null, .int 0, .int 0, .null, .int 0, .int 0, .int 0, .int 0])), (q1, .inl (cyI, 5, .inl (fun _ => 0))), (q2, .inl (cyI, 5, .inl (fun _ => 0))), (q3, .inl (cyI, 5, .inl (fun _ => 0)))] := wd
  refine lv_aload_n hx hb dX10_init_30 rfl (lv_at hl 0 rfl) ?_
  refine lv_iconst (v := (5 : Int32)) hx hb dX10_init_31 (by decide) ?_
  refine iNewA C wd (N := 5) (by decide) (by decide) (by decide) (Nat.le_of_ble_eq_true rfl) (Nat.le_of_ble_eq_true rfl) dX10_init_32 (fun q4 H wd => ?_)
  have wd : iWd D cyI cyO _ s _ _ [(h0, .inr (10, [.int (3 : Int32), .ref q1, .ref q2, .ref q3, .null, .null, .null, .null, .null, .null, .null, .int 0, .null, .int 0, .null, .int 0, .int 0, .null, .null, .int 0, .int 0, .null, .int 0, .int 0, .int 0, .int 0])), (q1, .inl (cyI, 5, .inl (fun _ => 0))), (q2, .inl (cyI, 5, .inl (fun _ => 0))), (q3, .inl (cyI, 5, .inl (fun _ => 0))), (q4, .inl (cyI, 5, .inl (fun _ => 0)))] := wd
  refine iPutF C wd hin (a := h0) (k := 0) (ci := 10) (N := 26) (Cn := RX10) (T := TX10) (v := .ref q4) (ty := .array .int) rfl rfl tyX10_ok nmX10 4 (by decide) rfl rfl (by decide +kernel) rfl rfl (Nat.le_of_ble_eq_true rfl) inX10 tw4_30 dX10_init_34 (fun H locs wd => ?_)
  have wd : iWd D cyI cyO _ s _ _ [(h0, .inr (10, [.int (3 : Int32), .ref q1, .ref q2, .ref q3, .ref q4, .null, .null, .null, .null, .null, .null, .int 0, .null, .int 0, .null, .int 0, .int 0, .null, .null, .int 0, .int 0, .null, .int 0, .int 0, .int 0, .int 0])), (q1, .inl (cyI, 5, .inl (fun _ => 0))), (q2, .inl (cyI, 5, .inl (fun _ => 0))), (q3, .inl (cyI, 5, .inl (fun _ => 0))), (q4, .inl (cyI, 5, .inl (fun _ => 0)))] := wd
  refine lv_aload_n hx hb dX10_init_37 rfl (lv_at hl 0 rfl) ?_
  refine lv_sipush (v := (640 : Int32)) hx hb dX10_init_38 (by decide) ?_
  refine iNewA C wd (N := 640) (by decide) (by decide) (by decide) (Nat.le_of_ble_eq_true rfl) (Nat.le_of_ble_eq_true rfl) dX10_init_41 (fun q5 H wd => ?_)
  have wd : iWd D cyI cyO _ s _ _ [(h0, .inr (10, [.int (3 : Int32), .ref q1, .ref q2, .ref q3, .ref q4, .null, .null, .null, .null, .null, .null, .int 0, .null, .int 0, .null, .int 0, .int 0, .null, .null, .int 0, .int 0, .null, .int 0, .int 0, .int 0, .int 0])), (q1, .inl (cyI, 5, .inl (fun _ => 0))), (q2, .inl (cyI, 5, .inl (fun _ => 0))), (q3, .inl (cyI, 5, .inl (fun _ => 0))), (q4, .inl (cyI, 5, .inl (fun _ => 0))), (q5, .inl (cyI, 640, .inl (fun _ => 0)))] := wd
  refine iPutF C wd hin (a := h0) (k := 0) (ci := 10) (N := 26) (Cn := RX10) (T := TX10) (v := .ref q5) (ty := .array .int) rfl rfl tyX10_ok nmX10 5 (by decide) rfl rfl (by decide +kernel) rfl rfl (Nat.le_of_ble_eq_true rfl) inX10 tw4_31 dX10_init_43 (fun H locs wd => ?_)
  have wd : iWd D cyI cyO _ s _ _ [(h0, .inr (10, [.int (3 : Int32), .ref q1, .ref q2, .ref q3, .ref q4, .ref q5, .null, .null, .null, .null, .null, .int 0, .null, .int 0, .null, .int 0, .int 0, .null, .null, .int 0, .int 0, .null, .int 0, .int 0, .int 0, .int 0])), (q1, .inl (cyI, 5, .inl (fun _ => 0))), (q2, .inl (cyI, 5, .inl (fun _ => 0))), (q3, .inl (cyI, 5, .inl (fun _ => 0))), (q4, .inl (cyI, 5, .inl (fun _ => 0))), (q5, .inl (cyI, 640, .inl (fun _ => 0)))] := wd
  refine lv_aload_n hx hb dX10_init_46 rfl (lv_at hl 0 rfl) ?_
  refine lv_bipush (v := (120 : Int32)) hx hb dX10_init_47 (by decide) ?_
  refine iNewA C wd (N := 120) (by decide) (by decide) (by decide) (Nat.le_of_ble_eq_true rfl) (Nat.le_of_ble_eq_true rfl) dX10_init_49 (fun q6 H wd => ?_)
  have wd : iWd D cyI cyO _ s _ _ [(h0, .inr (10, [.int (3 : Int32), .ref q1, .ref q2, .ref q3, .ref q4, .ref q5, .null, .null, .null, .null, .null, .int 0, .null, .int 0, .null, .int 0, .int 0, .null, .null, .int 0, .int 0, .null, .int 0, .int 0, .int 0, .int 0])), (q1, .inl (cyI, 5, .inl (fun _ => 0))), (q2, .inl (cyI, 5, .inl (fun _ => 0))), (q3, .inl (cyI, 5, .inl (fun _ => 0))), (q4, .inl (cyI, 5, .inl (fun _ => 0))), (q5, .inl (cyI, 640, .inl (fun _ => 0))), (q6, .inl (cyI, 120, .inl (fun _ => 0)))] := wd
  refine iPutF C wd hin (a := h0) (k := 0) (ci := 10) (N := 26) (Cn := RX10) (T := TX10) (v := .ref q6) (ty := .array .int) rfl rfl tyX10_ok nmX10 6 (by decide) rfl rfl (by decide +kernel) rfl rfl (Nat.le_of_ble_eq_true rfl) inX10 tw4_32 dX10_init_51 (fun H locs wd => ?_)
  have wd : iWd D cyI cyO _ s _ _ [(h0, .inr (10, [.int (3 : Int32), .ref q1, .ref q2, .ref q3, .ref q4, .ref q5, .ref q6, .null, .null, .null, .null, .int 0, .null, .int 0, .null, .int 0, .int 0, .null, .null, .int 0, .int 0, .null, .int 0, .int 0, .int 0, .int 0])), (q1, .inl (cyI, 5, .inl (fun _ => 0))), (q2, .inl (cyI, 5, .inl (fun _ => 0))), (q3, .inl (cyI, 5, .inl (fun _ => 0))), (q4, .inl (cyI, 5, .inl (fun _ => 0))), (q5, .inl (cyI, 640, .inl (fun _ => 0))), (q6, .inl (cyI, 120, .inl (fun _ => 0)))] := wd
  refine lv_aload_n hx hb dX10_init_54 rfl (lv_at hl 0 rfl) ?_
  refine lv_bipush (v := (120 : Int32)) hx hb dX10_init_55 (by decide) ?_
  refine iNewA C wd (N := 120) (by decide) (by decide) (by decide) (Nat.le_of_ble_eq_true rfl) (Nat.le_of_ble_eq_true rfl) dX10_init_57 (fun q7 H wd => ?_)
  have wd : iWd D cyI cyO _ s _ _ [(h0, .inr (10, [.int (3 : Int32), .ref q1, .ref q2, .ref q3, .ref q4, .ref q5, .ref q6, .null, .null, .null, .null, .int 0, .null, .int 0, .null, .int 0, .int 0, .null, .null, .int 0, .int 0, .null, .int 0, .int 0, .int 0, .int 0])), (q1, .inl (cyI, 5, .inl (fun _ => 0))), (q2, .inl (cyI, 5, .inl (fun _ => 0))), (q3, .inl (cyI, 5, .inl (fun _ => 0))), (q4, .inl (cyI, 5, .inl (fun _ => 0))), (q5, .inl (cyI, 640, .inl (fun _ => 0))), (q6, .inl (cyI, 120, .inl (fun _ => 0))), (q7, .inl (cyI, 120, .inl (fun _ => 0)))] := wd
  refine iPutF C wd hin (a := h0) (k := 0) (ci := 10) (N := 26) (Cn := RX10) (T := TX10) (v := .ref q7) (ty := .array .int) rfl rfl tyX10_ok nmX10 7 (by decide) rfl rfl (by decide +kernel) rfl rfl (Nat.le_of_ble_eq_true rfl) inX10 tw4_33 dX10_init_59 (fun H locs wd => ?_)
  have wd : iWd D cyI cyO _ s _ _ [(h0, .inr (10, [.int (3 : Int32), .ref q1, .ref q2, .ref q3, .ref q4, .ref q5, .ref q6, .ref q7, .null, .null, .null, .int 0, .null, .int 0, .null, .int 0, .int 0, .null, .null, .int 0, .int 0, .null, .int 0, .int 0, .int 0, .int 0])), (q1, .inl (cyI, 5, .inl (fun _ => 0))), (q2, .inl (cyI, 5, .inl (fun _ => 0))), (q3, .inl (cyI, 5, .inl (fun _ => 0))), (q4, .inl (cyI, 5, .inl (fun _ => 0))), (q5, .inl (cyI, 640, .inl (fun _ => 0))), (q6, .inl (cyI, 120, .inl (fun _ => 0))), (q7, .inl (cyI, 120, .inl (fun _ => 0)))] := wd
  refine lv_aload_n hx hb dX10_init_62 rfl (lv_at hl 0 rfl) ?_
  refine lv_sipush (v := (600 : Int32)) hx hb dX10_init_63 (by decide) ?_
  refine iNewA C wd (N := 600) (by decide) (by decide) (by decide) (Nat.le_of_ble_eq_true rfl) (Nat.le_of_ble_eq_true rfl) dX10_init_66 (fun q8 H wd => ?_)
  have wd : iWd D cyI cyO _ s _ _ [(h0, .inr (10, [.int (3 : Int32), .ref q1, .ref q2, .ref q3, .ref q4, .ref q5, .ref q6, .ref q7, .null, .null, .null, .int 0, .null, .int 0, .null, .int 0, .int 0, .null, .null, .int 0, .int 0, .null, .int 0, .int 0, .int 0, .int 0])), (q1, .inl (cyI, 5, .inl (fun _ => 0))), (q2, .inl (cyI, 5, .inl (fun _ => 0))), (q3, .inl (cyI, 5, .inl (fun _ => 0))), (q4, .inl (cyI, 5, .inl (fun _ => 0))), (q5, .inl (cyI, 640, .inl (fun _ => 0))), (q6, .inl (cyI, 120, .inl (fun _ => 0))), (q7, .inl (cyI, 120, .inl (fun _ => 0))), (q8, .inl (cyI, 600, .inl (fun _ => 0)))] := wd
  refine iPutF C wd hin (a := h0) (k := 0) (ci := 10) (N := 26) (Cn := RX10) (T := TX10) (v := .ref q8) (ty := .array .int) rfl rfl tyX10_ok nmX10 8 (by decide) rfl rfl (by decide +kernel) rfl rfl (Nat.le_of_ble_eq_true rfl) inX10 tw4_34 dX10_init_68 (fun H locs wd => ?_)
  have wd : iWd D cyI cyO _ s _ _ [(h0, .inr (10, [.int (3 : Int32), .ref q1, .ref q2, .ref q3, .ref q4, .ref q5, .ref q6, .ref q7, .ref q8, .null, .null, .int 0, .null, .int 0, .null, .int 0, .int 0, .null, .null, .int 0, .int 0, .null, .int 0, .int 0, .int 0, .int 0])), (q1, .inl (cyI, 5, .inl (fun _ => 0))), (q2, .inl (cyI, 5, .inl (fun _ => 0))), (q3, .inl (cyI, 5, .inl (fun _ => 0))), (q4, .inl (cyI, 5, .inl (fun _ => 0))), (q5, .inl (cyI, 640, .inl (fun _ => 0))), (q6, .inl (cyI, 120, .inl (fun _ => 0))), (q7, .inl (cyI, 120, .inl (fun _ => 0))), (q8, .inl (cyI, 600, .inl (fun _ => 0)))] := wd
  refine lv_aload_n hx hb dX10_init_71 rfl (lv_at hl 0 rfl) ?_
  refine lv_sipush (v := (600 : Int32)) hx hb dX10_init_72 (by decide) ?_
  refine iNewA C wd (N := 600) (by decide) (by decide) (by decide) (Nat.le_of_ble_eq_true rfl) (Nat.le_of_ble_eq_true rfl) dX10_init_75 (fun q9 H wd => ?_)
  have wd : iWd D cyI cyO _ s _ _ [(h0, .inr (10, [.int (3 : Int32), .ref q1, .ref q2, .ref q3, .ref q4, .ref q5, .ref q6, .ref q7, .ref q8, .null, .null, .int 0, .null, .int 0, .null, .int 0, .int 0, .null, .null, .int 0, .int 0, .null, .int 0, .int 0, .int 0, .int 0])), (q1, .inl (cyI, 5, .inl (fun _ => 0))), (q2, .inl (cyI, 5, .inl (fun _ => 0))), (q3, .inl (cyI, 5, .inl (fun _ => 0))), (q4, .inl (cyI, 5, .inl (fun _ => 0))), (q5, .inl (cyI, 640, .inl (fun _ => 0))), (q6, .inl (cyI, 120, .inl (fun _ => 0))), (q7, .inl (cyI, 120, .inl (fun _ => 0))), (q8, .inl (cyI, 600, .inl (fun _ => 0))), (q9, .inl (cyI, 600, .inl (fun _ => 0)))] := wd
  refine iPutF C wd hin (a := h0) (k := 0) (ci := 10) (N := 26) (Cn := RX10) (T := TX10) (v := .ref q9) (ty := .array .int) rfl rfl tyX10_ok nmX10 9 (by decide) rfl rfl (by decide +kernel) rfl rfl (Nat.le_of_ble_eq_true rfl) inX10 tw4_35 dX10_init_77 (fun H locs wd => ?_)
  have wd : iWd D cyI cyO _ s _ _ [(h0, .inr (10, [.int (3 : Int32), .ref q1, .ref q2, .ref q3, .ref q4, .ref q5, .ref q6, .ref q7, .ref q8, .ref q9, .null, .int 0, .null, .int 0, .null, .int 0, .int 0, .null, .null, .int 0, .int 0, .null, .int 0, .int 0, .int 0, .int 0])), (q1, .inl (cyI, 5, .inl (fun _ => 0))), (q2, .inl (cyI, 5, .inl (fun _ => 0))), (q3, .inl (cyI, 5, .inl (fun _ => 0))), (q4, .inl (cyI, 5, .inl (fun _ => 0))), (q5, .inl (cyI, 640, .inl (fun _ => 0))), (q6, .inl (cyI, 120, .inl (fun _ => 0))), (q7, .inl (cyI, 120, .inl (fun _ => 0))), (q8, .inl (cyI, 600, .inl (fun _ => 0))), (q9, .inl (cyI, 600, .inl (fun _ => 0)))] := wd
  refine lv_aload_n hx hb dX10_init_80 rfl (lv_at hl 0 rfl) ?_
  refine lv_sipush (v := (520 : Int32)) hx hb dX10_init_81 (by decide) ?_
  refine iNewA C wd (N := 520) (by decide) (by decide) (by decide) (Nat.le_of_ble_eq_true rfl) (Nat.le_of_ble_eq_true rfl) dX10_init_84 (fun q10 H wd => ?_)
  have wd : iWd D cyI cyO _ s _ _ [(h0, .inr (10, [.int (3 : Int32), .ref q1, .ref q2, .ref q3, .ref q4, .ref q5, .ref q6, .ref q7, .ref q8, .ref q9, .null, .int 0, .null, .int 0, .null, .int 0, .int 0, .null, .null, .int 0, .int 0, .null, .int 0, .int 0, .int 0, .int 0])), (q1, .inl (cyI, 5, .inl (fun _ => 0))), (q2, .inl (cyI, 5, .inl (fun _ => 0))), (q3, .inl (cyI, 5, .inl (fun _ => 0))), (q4, .inl (cyI, 5, .inl (fun _ => 0))), (q5, .inl (cyI, 640, .inl (fun _ => 0))), (q6, .inl (cyI, 120, .inl (fun _ => 0))), (q7, .inl (cyI, 120, .inl (fun _ => 0))), (q8, .inl (cyI, 600, .inl (fun _ => 0))), (q9, .inl (cyI, 600, .inl (fun _ => 0))), (q10, .inl (cyI, 520, .inl (fun _ => 0)))] := wd
  refine iPutF C wd hin (a := h0) (k := 0) (ci := 10) (N := 26) (Cn := RX10) (T := TX10) (v := .ref q10) (ty := .array .int) rfl rfl tyX10_ok nmX10 10 (by decide) rfl rfl (by decide +kernel) rfl rfl (Nat.le_of_ble_eq_true rfl) inX10 tw4_36 dX10_init_86 (fun H locs wd => ?_)
  have wd : iWd D cyI cyO _ s _ _ [(h0, .inr (10, [.int (3 : Int32), .ref q1, .ref q2, .ref q3, .ref q4, .ref q5, .ref q6, .ref q7, .ref q8, .ref q9, .ref q10, .int 0, .null, .int 0, .null, .int 0, .int 0, .null, .null, .int 0, .int 0, .null, .int 0, .int 0, .int 0, .int 0])), (q1, .inl (cyI, 5, .inl (fun _ => 0))), (q2, .inl (cyI, 5, .inl (fun _ => 0))), (q3, .inl (cyI, 5, .inl (fun _ => 0))), (q4, .inl (cyI, 5, .inl (fun _ => 0))), (q5, .inl (cyI, 640, .inl (fun _ => 0))), (q6, .inl (cyI, 120, .inl (fun _ => 0))), (q7, .inl (cyI, 120, .inl (fun _ => 0))), (q8, .inl (cyI, 600, .inl (fun _ => 0))), (q9, .inl (cyI, 600, .inl (fun _ => 0))), (q10, .inl (cyI, 520, .inl (fun _ => 0)))] := wd
  refine lv_aload_n hx hb dX10_init_89 rfl (lv_at hl 0 rfl) ?_
  refine lv_bipush (v := (90 : Int32)) hx hb dX10_init_90 (by decide) ?_
  refine iNewA C wd (N := 90) (by decide) (by decide) (by decide) (Nat.le_of_ble_eq_true rfl) (Nat.le_of_ble_eq_true rfl) dX10_init_92 (fun q11 H wd => ?_)
  have wd : iWd D cyI cyO _ s _ _ [(h0, .inr (10, [.int (3 : Int32), .ref q1, .ref q2, .ref q3, .ref q4, .ref q5, .ref q6, .ref q7, .ref q8, .ref q9, .ref q10, .int 0, .null, .int 0, .null, .int 0, .int 0, .null, .null, .int 0, .int 0, .null, .int 0, .int 0, .int 0, .int 0])), (q1, .inl (cyI, 5, .inl (fun _ => 0))), (q2, .inl (cyI, 5, .inl (fun _ => 0))), (q3, .inl (cyI, 5, .inl (fun _ => 0))), (q4, .inl (cyI, 5, .inl (fun _ => 0))), (q5, .inl (cyI, 640, .inl (fun _ => 0))), (q6, .inl (cyI, 120, .inl (fun _ => 0))), (q7, .inl (cyI, 120, .inl (fun _ => 0))), (q8, .inl (cyI, 600, .inl (fun _ => 0))), (q9, .inl (cyI, 600, .inl (fun _ => 0))), (q10, .inl (cyI, 520, .inl (fun _ => 0))), (q11, .inl (cyI, 90, .inl (fun _ => 0)))] := wd
  refine iPutF C wd hin (a := h0) (k := 0) (ci := 10) (N := 26) (Cn := RX10) (T := TX10) (v := .ref q11) (ty := .array .int) rfl rfl tyX10_ok nmX10 12 (by decide) rfl rfl (by decide +kernel) rfl rfl (Nat.le_of_ble_eq_true rfl) inX10 tw4_38 dX10_init_94 (fun H locs wd => ?_)
  have wd : iWd D cyI cyO _ s _ _ [(h0, .inr (10, [.int (3 : Int32), .ref q1, .ref q2, .ref q3, .ref q4, .ref q5, .ref q6, .ref q7, .ref q8, .ref q9, .ref q10, .int 0, .ref q11, .int 0, .null, .int 0, .int 0, .null, .null, .int 0, .int 0, .null, .int 0, .int 0, .int 0, .int 0])), (q1, .inl (cyI, 5, .inl (fun _ => 0))), (q2, .inl (cyI, 5, .inl (fun _ => 0))), (q3, .inl (cyI, 5, .inl (fun _ => 0))), (q4, .inl (cyI, 5, .inl (fun _ => 0))), (q5, .inl (cyI, 640, .inl (fun _ => 0))), (q6, .inl (cyI, 120, .inl (fun _ => 0))), (q7, .inl (cyI, 120, .inl (fun _ => 0))), (q8, .inl (cyI, 600, .inl (fun _ => 0))), (q9, .inl (cyI, 600, .inl (fun _ => 0))), (q10, .inl (cyI, 520, .inl (fun _ => 0))), (q11, .inl (cyI, 90, .inl (fun _ => 0)))] := wd
  refine lv_aload_n hx hb dX10_init_97 rfl (lv_at hl 0 rfl) ?_
  refine lv_bipush (v := (30 : Int32)) hx hb dX10_init_98 (by decide) ?_
  refine iNewA C wd (N := 30) (by decide) (by decide) (by decide) (Nat.le_of_ble_eq_true rfl) (Nat.le_of_ble_eq_true rfl) dX10_init_100 (fun q12 H wd => ?_)
  have wd : iWd D cyI cyO _ s _ _ [(h0, .inr (10, [.int (3 : Int32), .ref q1, .ref q2, .ref q3, .ref q4, .ref q5, .ref q6, .ref q7, .ref q8, .ref q9, .ref q10, .int 0, .ref q11, .int 0, .null, .int 0, .int 0, .null, .null, .int 0, .int 0, .null, .int 0, .int 0, .int 0, .int 0])), (q1, .inl (cyI, 5, .inl (fun _ => 0))), (q2, .inl (cyI, 5, .inl (fun _ => 0))), (q3, .inl (cyI, 5, .inl (fun _ => 0))), (q4, .inl (cyI, 5, .inl (fun _ => 0))), (q5, .inl (cyI, 640, .inl (fun _ => 0))), (q6, .inl (cyI, 120, .inl (fun _ => 0))), (q7, .inl (cyI, 120, .inl (fun _ => 0))), (q8, .inl (cyI, 600, .inl (fun _ => 0))), (q9, .inl (cyI, 600, .inl (fun _ => 0))), (q10, .inl (cyI, 520, .inl (fun _ => 0))), (q11, .inl (cyI, 90, .inl (fun _ => 0))), (q12, .inl (cyI, 30, .inl (fun _ => 0)))] := wd
  refine iPutF C wd hin (a := h0) (k := 0) (ci := 10) (N := 26) (Cn := RX10) (T := TX10) (v := .ref q12) (ty := .array .int) rfl rfl tyX10_ok nmX10 14 (by decide) rfl rfl (by decide +kernel) rfl rfl (Nat.le_of_ble_eq_true rfl) inX10 tw4_40 dX10_init_102 (fun H locs wd => ?_)
  have wd : iWd D cyI cyO _ s _ _ [(h0, .inr (10, [.int (3 : Int32), .ref q1, .ref q2, .ref q3, .ref q4, .ref q5, .ref q6, .ref q7, .ref q8, .ref q9, .ref q10, .int 0, .ref q11, .int 0, .ref q12, .int 0, .int 0, .null, .null, .int 0, .int 0, .null, .int 0, .int 0, .int 0, .int 0])), (q1, .inl (cyI, 5, .inl (fun _ => 0))), (q2, .inl (cyI, 5, .inl (fun _ => 0))), (q3, .inl (cyI, 5, .inl (fun _ => 0))), (q4, .inl (cyI, 5, .inl (fun _ => 0))), (q5, .inl (cyI, 640, .inl (fun _ => 0))), (q6, .inl (cyI, 120, .inl (fun _ => 0))), (q7, .inl (cyI, 120, .inl (fun _ => 0))), (q8, .inl (cyI, 600, .inl (fun _ => 0))), (q9, .inl (cyI, 600, .inl (fun _ => 0))), (q10, .inl (cyI, 520, .inl (fun _ => 0))), (q11, .inl (cyI, 90, .inl (fun _ => 0))), (q12, .inl (cyI, 30, .inl (fun _ => 0)))] := wd
  refine lv_aload_n hx hb dX10_init_105 rfl (lv_at hl 0 rfl) ?_
  refine lv_iconst (v := (3 : Int32)) hx hb dX10_init_106 (by decide) ?_
  refine iNewA C wd (N := 3) (by decide) (by decide) (by decide) (Nat.le_of_ble_eq_true rfl) (Nat.le_of_ble_eq_true rfl) dX10_init_107 (fun q13 H wd => ?_)
  have wd : iWd D cyI cyO _ s _ _ [(h0, .inr (10, [.int (3 : Int32), .ref q1, .ref q2, .ref q3, .ref q4, .ref q5, .ref q6, .ref q7, .ref q8, .ref q9, .ref q10, .int 0, .ref q11, .int 0, .ref q12, .int 0, .int 0, .null, .null, .int 0, .int 0, .null, .int 0, .int 0, .int 0, .int 0])), (q1, .inl (cyI, 5, .inl (fun _ => 0))), (q2, .inl (cyI, 5, .inl (fun _ => 0))), (q3, .inl (cyI, 5, .inl (fun _ => 0))), (q4, .inl (cyI, 5, .inl (fun _ => 0))), (q5, .inl (cyI, 640, .inl (fun _ => 0))), (q6, .inl (cyI, 120, .inl (fun _ => 0))), (q7, .inl (cyI, 120, .inl (fun _ => 0))), (q8, .inl (cyI, 600, .inl (fun _ => 0))), (q9, .inl (cyI, 600, .inl (fun _ => 0))), (q10, .inl (cyI, 520, .inl (fun _ => 0))), (q11, .inl (cyI, 90, .inl (fun _ => 0))), (q12, .inl (cyI, 30, .inl (fun _ => 0))), (q13, .inl (cyI, 3, .inl (fun _ => 0)))] := wd
  refine iPutF C wd hin (a := h0) (k := 0) (ci := 10) (N := 26) (Cn := RX10) (T := TX10) (v := .ref q13) (ty := .array .int) rfl rfl tyX10_ok nmX10 17 (by decide) rfl rfl (by decide +kernel) rfl rfl (Nat.le_of_ble_eq_true rfl) inX10 tw4_43 dX10_init_109 (fun H locs wd => ?_)
  have wd : iWd D cyI cyO _ s _ _ [(h0, .inr (10, [.int (3 : Int32), .ref q1, .ref q2, .ref q3, .ref q4, .ref q5, .ref q6, .ref q7, .ref q8, .ref q9, .ref q10, .int 0, .ref q11, .int 0, .ref q12, .int 0, .int 0, .ref q13, .null, .int 0, .int 0, .null, .int 0, .int 0, .int 0, .int 0])), (q1, .inl (cyI, 5, .inl (fun _ => 0))), (q2, .inl (cyI, 5, .inl (fun _ => 0))), (q3, .inl (cyI, 5, .inl (fun _ => 0))), (q4, .inl (cyI, 5, .inl (fun _ => 0))), (q5, .inl (cyI, 640, .inl (fun _ => 0))), (q6, .inl (cyI, 120, .inl (fun _ => 0))), (q7, .inl (cyI, 120, .inl (fun _ => 0))), (q8, .inl (cyI, 600, .inl (fun _ => 0))), (q9, .inl (cyI, 600, .inl (fun _ => 0))), (q10, .inl (cyI, 520, .inl (fun _ => 0))), (q11, .inl (cyI, 90, .inl (fun _ => 0))), (q12, .inl (cyI, 30, .inl (fun _ => 0))), (q13, .inl (cyI, 3, .inl (fun _ => 0)))] := wd
  refine lv_aload_n hx hb dX10_init_112 rfl (lv_at hl 0 rfl) ?_
  refine lv_bipush (v := (15 : Int32)) hx hb dX10_init_113 (by decide) ?_
  refine iNewA C wd (N := 15) (by decide) (by decide) (by decide) (Nat.le_of_ble_eq_true rfl) (Nat.le_of_ble_eq_true rfl) dX10_init_115 (fun q14 H wd => ?_)
  have wd : iWd D cyI cyO _ s _ _ [(h0, .inr (10, [.int (3 : Int32), .ref q1, .ref q2, .ref q3, .ref q4, .ref q5, .ref q6, .ref q7, .ref q8, .ref q9, .ref q10, .int 0, .ref q11, .int 0, .ref q12, .int 0, .int 0, .ref q13, .null, .int 0, .int 0, .null, .int 0, .int 0, .int 0, .int 0])), (q1, .inl (cyI, 5, .inl (fun _ => 0))), (q2, .inl (cyI, 5, .inl (fun _ => 0))), (q3, .inl (cyI, 5, .inl (fun _ => 0))), (q4, .inl (cyI, 5, .inl (fun _ => 0))), (q5, .inl (cyI, 640, .inl (fun _ => 0))), (q6, .inl (cyI, 120, .inl (fun _ => 0))), (q7, .inl (cyI, 120, .inl (fun _ => 0))), (q8, .inl (cyI, 600, .inl (fun _ => 0))), (q9, .inl (cyI, 600, .inl (fun _ => 0))), (q10, .inl (cyI, 520, .inl (fun _ => 0))), (q11, .inl (cyI, 90, .inl (fun _ => 0))), (q12, .inl (cyI, 30, .inl (fun _ => 0))), (q13, .inl (cyI, 3, .inl (fun _ => 0))), (q14, .inl (cyI, 15, .inl (fun _ => 0)))] := wd
  refine iPutF C wd hin (a := h0) (k := 0) (ci := 10) (N := 26) (Cn := RX10) (T := TX10) (v := .ref q14) (ty := .array .int) rfl rfl tyX10_ok nmX10 18 (by decide) rfl rfl (by decide +kernel) rfl rfl (Nat.le_of_ble_eq_true rfl) inX10 tw4_44 dX10_init_117 (fun H locs wd => ?_)
  have wd : iWd D cyI cyO _ s _ _ [(h0, .inr (10, [.int (3 : Int32), .ref q1, .ref q2, .ref q3, .ref q4, .ref q5, .ref q6, .ref q7, .ref q8, .ref q9, .ref q10, .int 0, .ref q11, .int 0, .ref q12, .int 0, .int 0, .ref q13, .ref q14, .int 0, .int 0, .null, .int 0, .int 0, .int 0, .int 0])), (q1, .inl (cyI, 5, .inl (fun _ => 0))), (q2, .inl (cyI, 5, .inl (fun _ => 0))), (q3, .inl (cyI, 5, .inl (fun _ => 0))), (q4, .inl (cyI, 5, .inl (fun _ => 0))), (q5, .inl (cyI, 640, .inl (fun _ => 0))), (q6, .inl (cyI, 120, .inl (fun _ => 0))), (q7, .inl (cyI, 120, .inl (fun _ => 0))), (q8, .inl (cyI, 600, .inl (fun _ => 0))), (q9, .inl (cyI, 600, .inl (fun _ => 0))), (q10, .inl (cyI, 520, .inl (fun _ => 0))), (q11, .inl (cyI, 90, .inl (fun _ => 0))), (q12, .inl (cyI, 30, .inl (fun _ => 0))), (q13, .inl (cyI, 3, .inl (fun _ => 0))), (q14, .inl (cyI, 15, .inl (fun _ => 0)))] := wd
  refine lv_aload_n hx hb dX10_init_120 rfl (lv_at hl 0 rfl) ?_
  refine lv_bipush (v := (120 : Int32)) hx hb dX10_init_121 (by decide) ?_
  refine iNewA C wd (N := 120) (by decide) (by decide) (by decide) (Nat.le_of_ble_eq_true rfl) (Nat.le_of_ble_eq_true rfl) dX10_init_123 (fun q15 H wd => ?_)
  have wd : iWd D cyI cyO _ s _ _ [(h0, .inr (10, [.int (3 : Int32), .ref q1, .ref q2, .ref q3, .ref q4, .ref q5, .ref q6, .ref q7, .ref q8, .ref q9, .ref q10, .int 0, .ref q11, .int 0, .ref q12, .int 0, .int 0, .ref q13, .ref q14, .int 0, .int 0, .null, .int 0, .int 0, .int 0, .int 0])), (q1, .inl (cyI, 5, .inl (fun _ => 0))), (q2, .inl (cyI, 5, .inl (fun _ => 0))), (q3, .inl (cyI, 5, .inl (fun _ => 0))), (q4, .inl (cyI, 5, .inl (fun _ => 0))), (q5, .inl (cyI, 640, .inl (fun _ => 0))), (q6, .inl (cyI, 120, .inl (fun _ => 0))), (q7, .inl (cyI, 120, .inl (fun _ => 0))), (q8, .inl (cyI, 600, .inl (fun _ => 0))), (q9, .inl (cyI, 600, .inl (fun _ => 0))), (q10, .inl (cyI, 520, .inl (fun _ => 0))), (q11, .inl (cyI, 90, .inl (fun _ => 0))), (q12, .inl (cyI, 30, .inl (fun _ => 0))), (q13, .inl (cyI, 3, .inl (fun _ => 0))), (q14, .inl (cyI, 15, .inl (fun _ => 0))), (q15, .inl (cyI, 120, .inl (fun _ => 0)))] := wd
  refine iPutF C wd hin (a := h0) (k := 0) (ci := 10) (N := 26) (Cn := RX10) (T := TX10) (v := .ref q15) (ty := .array .int) rfl rfl tyX10_ok nmX10 21 (by decide) rfl rfl (by decide +kernel) rfl rfl (Nat.le_of_ble_eq_true rfl) inX10 tw4_47 dX10_init_125 (fun H locs wd => ?_)
  have wd : iWd D cyI cyO _ s _ _ [(h0, .inr (10, [.int (3 : Int32), .ref q1, .ref q2, .ref q3, .ref q4, .ref q5, .ref q6, .ref q7, .ref q8, .ref q9, .ref q10, .int 0, .ref q11, .int 0, .ref q12, .int 0, .int 0, .ref q13, .ref q14, .int 0, .int 0, .ref q15, .int 0, .int 0, .int 0, .int 0])), (q1, .inl (cyI, 5, .inl (fun _ => 0))), (q2, .inl (cyI, 5, .inl (fun _ => 0))), (q3, .inl (cyI, 5, .inl (fun _ => 0))), (q4, .inl (cyI, 5, .inl (fun _ => 0))), (q5, .inl (cyI, 640, .inl (fun _ => 0))), (q6, .inl (cyI, 120, .inl (fun _ => 0))), (q7, .inl (cyI, 120, .inl (fun _ => 0))), (q8, .inl (cyI, 600, .inl (fun _ => 0))), (q9, .inl (cyI, 600, .inl (fun _ => 0))), (q10, .inl (cyI, 520, .inl (fun _ => 0))), (q11, .inl (cyI, 90, .inl (fun _ => 0))), (q12, .inl (cyI, 30, .inl (fun _ => 0))), (q13, .inl (cyI, 3, .inl (fun _ => 0))), (q14, .inl (cyI, 15, .inl (fun _ => 0))), (q15, .inl (cyI, 120, .inl (fun _ => 0)))] := wd
  exact iRetV C wd (fun k => match k with | 0 => q1 | 1 => q2 | 2 => q3 | 3 => q4 | 4 => q5 | 5 => q6 | 6 => q7 | 7 => q8 | 8 => q9 | 9 => q10 | 10 => q11 | 11 => q12 | 12 => q13 | 13 => q14 | 14 => q15 | _ => 0) trivial rfl dX10_init_128
