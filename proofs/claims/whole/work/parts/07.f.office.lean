section Ini2
variable {D : va_G} {cyI cyO : ClassId}
variable {p : Program} {l : Launch} {e : Env} {R : Room} {s : State} {m : MethodId} {args : Array Value} {below : List Frame} {meth : Method} {c : Code} {H : Heap} {locs : List Loc} {Q : State → Prop} {cells slots : Nat}
variable {pc : Nat} {ls : Array Slot} {rest : List Value}
theorem iSwapQ {c0 : Nat × va_E} {R : va_W} {q1 : Nat} {f g : Nat → Option Nat} (hP : va_P D vwCl (c0 :: (q1, .inl (cyO, 5, .inr (.inr (.inr (.inr f))))) :: R) H) (h : ∀ j, j < 5 → f j = g j) : va_P D vwCl (c0 :: (q1, .inl (cyO, 5, .inr (.inr (.inr (.inr g))))) :: R) H := by
  intro k x hx
  match k, hx with
  | 0, hx => exact hP 0 x hx
  | 1, hx =>
    have h1 : H[q1]? = some (vp_cell cyO (5, .inr (.inr (.inr (.inr f))))) := hP 1 _ rfl
    have h2 : some (q1, (Sum.inl (cyO, 5, .inr (.inr (.inr (.inr g)))) : va_E)) = some x := hx
    cases h2
    show H[q1]? = some (vp_cell cyO (5, .inr (.inr (.inr (.inr g)))))
    rw [← vpq_congr h]
    exact h1
  | k + 2, hx => exact hP (k + 2) x hx
theorem iSwapD {A : Nat → Prop} {c0 : Nat × va_E} {R : va_W} {q1 : Nat} {e1 e2 : va_E} (hD : va_D A (c0 :: (q1, e1) :: R)) : va_D A (c0 :: (q1, e2) :: R) := by
  have := hD.set (p := 1) (a := q1) (e0 := e1) (e := e2) rfl
  exact this
theorem gCvq {tys : List (ClassId × FieldType)} {cell : St → Nat → va_E} {ad : Nat → Nat} {n : Nat} {σ : St} {Φ : St → Prop} {a : Array Value} {st : List Value} (wd : gWd D tys cell ad n s H locs σ) (hr : va_Run p l e R s m args below meth c H locs cells slots 0 0 (F0 m pc ls st) rest (gQv D cell ad n H.size Φ a) (gA ad n H.size))
    (kk : ∀ (τ : St) (H1 : Heap) (locs1 : List Loc), Φ τ → gWd D tys cell ad n s H1 locs1 τ → W p l e R s m args below meth c H1 locs1 cells slots Q (F0 m (pc + 3) ls rest)) : W p l e R s m args below meth c H locs cells slots Q (F0 m pc ls st) := by
  obtain ⟨hK, hN, hP, hD, hS⟩ := wd
  refine va_callv (A0 := gA ad n s.heap.size) hr hS (fun q _ h => gA_mono hS.1 h) (fun q h => gA_mono hS.1 h) (fun τ t H1 locs1 ht hvm hw hB hz hk hS1 => ?_)
  obtain ⟨hP1, hD1⟩ := hB
  rw [ht] at hP1
  exact kk τ H1 locs1 hw ⟨hK, hN, hP1, gW_D hD1, hS1⟩
end Ini2
def zSt : St := (fun _ => 0, fun _ _ => 0)
def adC (h0 q1 q2 q3 q4 k0 k1 k2 k3 k4 : Nat) (up us ul u0 u1 u2 u3 u4 : Nat → Nat) : Nat → Nat := fun k => match k with
  | 0 => h0
  | 1 => q1
  | 2 => q2
  | 3 => q3
  | 4 => q4
  | 5 => k0
  | 6 => k1
  | 7 => k2
  | 8 => k3
  | 9 => k4
  | 10 => u0 2
  | 11 => u1 2
  | 12 => u2 2
  | 13 => u3 2
  | 14 => u4 2
  | 15 => up 3
  | 16 => u0 3
  | 17 => u0 4
  | 18 => u1 3
  | 19 => u1 4
  | 20 => u2 3
  | 21 => u2 4
  | 22 => u3 3
  | 23 => u3 4
  | 24 => u4 3
  | 25 => u4 4
  | 26 => up 4
  | 27 => up 5
  | 28 => u0 0
  | 29 => u0 1
  | 30 => u0 5
  | 31 => u1 0
  | 32 => u1 1
  | 33 => u1 5
  | 34 => u2 0
  | 35 => u2 1
  | 36 => u2 5
  | 37 => u3 0
  | 38 => u3 1
  | 39 => u3 5
  | 40 => u4 0
  | 41 => u4 1
  | 42 => u4 5
  | 43 => up 0
  | 44 => up 1
  | 45 => up 2
  | 46 => us 0
  | 47 => us 1
  | 48 => us 2
  | 49 => us 3
  | 50 => ul 0
  | 51 => ul 1
  | _ => 0
def permC : Nat → Nat := fun k => ([0, 1, 2, 9, 14, 17, 24, 31, 38, 45, 20, 27, 34, 41, 48, 6, 21, 22, 28, 29, 35, 36, 42, 43, 49, 50, 7, 8, 18, 19, 23, 25, 26, 30, 32, 33, 37, 39, 40, 44, 46, 47, 51, 3, 4, 5, 10, 11, 12, 13, 15, 16] : List Nat).getD k 0
theorem permC_inj : ∀ i, i < 52 → ∀ j, j < 52 → permC i = permC j → i = j := by decide +kernel
theorem gd_b41 : GoodIn gT (wsV RX2 41 RX2 yX2_begin (wsOf yX2_begin cX2_begin 3 none)) := gdV tw1_175 tw1_176 tw1_177 tw1_2 tw1_178
abbrev rmciX2 : Room := { frames := 4, cells := 51, slots := 2467, locals := 89 }
abbrev blkX2 (cyI cyO : ClassId) (u : (Nat → Nat) × St) : va_W := gW (cCell u.1 cyI cyO) u.1 52 u.2
set_option maxHeartbeats 8000000 in
set_option maxRecDepth 100000 in
theorem ciX2 {D : va_G} {cyI cyO : ClassId} {l : Launch} {h0 sz : Nat} {Φ : St → Prop} (hbeg : wpX2_begin (3 : Int32) zSt Φ) : iMet D cyI cyO l yX2_init cX2_init 2 rmciX2 [.ref h0] [(h0, .inr (2, [.int 0, .int 0, .null, .null, .null, .null]))] sz (fun u : (Nat → Nat) × St => Φ u.2 ∧ u.1 0 = h0) (blkX2 cyI cyO) 51 2467 := by
  refine iMet.of (by decide) rfl (Nat.le_of_ble_eq_true rfl) ?_
  intro p e s m below meth c ls hsz hin C hl wd
  subst hsz
  have C : Cx p s m _ meth c cX2_init 2 none RX2 := C
  obtain ⟨hx, hb, hr, hml, hown, hts, hlk⟩ := id C
  have hl : lv_has ls 2 [(0, .ref h0)] := hl
  refine lv_aload_n hx hb dX2_init_0 rfl (lv_at hl 0 rfl) ?_
  refine iObj C hl.1 tw1_26 (Nat.le_of_ble_eq_true rfl) (Nat.le_of_ble_eq_true rfl) dX2_init_1 ?_
  refine lv_aload_n hx hb dX2_init_4 rfl (lv_at hl 0 rfl) ?_
  refine lv_iconst (v := (5 : Int32)) hx hb dX2_init_5 (by decide) ?_
  refine iNewQ C wd (N := 5) tw1_27 (by decide) (by decide) (by decide) (Nat.le_of_ble_eq_true rfl) (Nat.le_of_ble_eq_true rfl) dX2_init_6 (fun q1 H wd => ?_)
  have wd : iWd D cyI cyO _ s _ _ [(h0, .inr (2, [.int 0, .int 0, .null, .null, .null, .null])), (q1, .inl (cyO, 5, .inr (.inr (.inr (.inr (fun _ => none))))))] := wd
  refine iPutF C wd hin (a := h0) (k := 0) (ci := 2) (N := 6) (Cn := RX2) (T := TX2) (v := .ref q1) (ty := .array (.object "OrphanLogs$Clerk")) rfl rfl tyX2_ok nmX2 2 (by decide) rfl rfl (by decide +kernel) rfl rfl (Nat.le_of_ble_eq_true rfl) inX2 tw1_200 dX2_init_9 (fun H locs wd => ?_)
  have wd : iWd D cyI cyO _ s _ _ [(h0, .inr (2, [.int 0, .int 0, .ref q1, .null, .null, .null])), (q1, .inl (cyO, 5, .inr (.inr (.inr (.inr (fun _ => none))))))] := wd
  refine lv_aload_n hx hb dX2_init_12 rfl (lv_at hl 0 rfl) ?_
  refine iNew C wd (Cn := RX3) (T := TX3) (N := 5) (ci := 3) (ty := tyX3) (fs := [.int 0, .null, .null, .null, .null]) inX3 tyX3_ok tw1_29 tw1_30 tw1_3 rfl (fun j hj => by rcases (show j = 0 ∨ j = 1 ∨ j = 2 ∨ j = 3 ∨ j = 4 by omega) with rfl | rfl | rfl | rfl | rfl <;> rfl) (Nat.le_of_ble_eq_true rfl) (Nat.le_of_ble_eq_true rfl) dX2_init_13 (fun q2 H wd => ?_)
  refine lv_dup hx hb dX2_init_16 rfl ?_
  refine iCall (y := yX3_init) (As := []) (rest := [.ref q2, .ref h0]) C wd ciX3 ⟨rfl, rfl⟩ gi_X3_init rfl tw1_3 tw1_32 (Or.inr ⟨_, ns_0⟩) nki_X3_init ⟨(Nat.le_of_ble_eq_true rfl), (Nat.le_of_ble_eq_true rfl)⟩ hl.1 (Nat.le_of_ble_eq_true rfl) dX2_init_17 rfl ⟨(Nat.le_of_ble_eq_true rfl), (Nat.le_of_ble_eq_true rfl)⟩ (fun up H locs _ wd => ?_)
  have wd : iWd D cyI cyO _ s _ _ ((h0, .inr (2, [.int 0, .int 0, .ref q1, .null, .null, .null])) :: (q1, .inl (cyO, 5, .inr (.inr (.inr (.inr (fun _ => none)))))) :: blkX3 cyI q2 up) := wd
  refine iPutF C wd hin (a := h0) (k := 0) (ci := 2) (N := 6) (Cn := RX2) (T := TX2) (v := .ref q2) (ty := .object "OrphanLogs$Post") rfl rfl tyX2_ok nmX2 3 (by decide) rfl rfl (by decide +kernel) rfl rfl (Nat.le_of_ble_eq_true rfl) inX2 tw1_201 dX2_init_20 (fun H locs wd => ?_)
  have wd : iWd D cyI cyO _ s _ _ ((h0, .inr (2, [.int 0, .int 0, .ref q1, .ref q2, .null, .null])) :: (q1, .inl (cyO, 5, .inr (.inr (.inr (.inr (fun _ => none)))))) :: blkX3 cyI q2 up) := wd
  refine lv_aload_n hx hb dX2_init_23 rfl (lv_at hl 0 rfl) ?_
  refine iNew C wd (Cn := RX6) (T := TX6) (N := 6) (ci := 6) (ty := tyX6) (fs := [.int 0, .int 0, .null, .null, .null, .null]) inX6 tyX6_ok tw1_76 tw1_77 tw1_6 rfl (fun j hj => by rcases (show j = 0 ∨ j = 1 ∨ j = 2 ∨ j = 3 ∨ j = 4 ∨ j = 5 by omega) with rfl | rfl | rfl | rfl | rfl | rfl <;> rfl) (Nat.le_of_ble_eq_true rfl) (Nat.le_of_ble_eq_true rfl) dX2_init_24 (fun q3 H wd => ?_)
  refine lv_dup hx hb dX2_init_27 rfl ?_
  refine iCall (y := yX6_init) (As := []) (rest := [.ref q3, .ref h0]) C wd ciX6 ⟨rfl, rfl⟩ gi_X6_init rfl tw1_6 tw1_79 (Or.inr ⟨_, ns_6⟩) nki_X6_init ⟨(Nat.le_of_ble_eq_true rfl), (Nat.le_of_ble_eq_true rfl)⟩ hl.1 (Nat.le_of_ble_eq_true rfl) dX2_init_28 rfl ⟨(Nat.le_of_ble_eq_true rfl), (Nat.le_of_ble_eq_true rfl)⟩ (fun us H locs _ wd => ?_)
  have wd : iWd D cyI cyO _ s _ _ ((h0, .inr (2, [.int 0, .int 0, .ref q1, .ref q2, .null, .null])) :: (q1, .inl (cyO, 5, .inr (.inr (.inr (.inr (fun _ => none)))))) :: (blkX3 cyI q2 up ++ blkX6 cyI q3 us)) := wd
  refine iPutF C wd hin (a := h0) (k := 0) (ci := 2) (N := 6) (Cn := RX2) (T := TX2) (v := .ref q3) (ty := .object "OrphanLogs$Sayings") rfl rfl tyX2_ok nmX2 4 (by decide) rfl rfl (by decide +kernel) rfl rfl (Nat.le_of_ble_eq_true rfl) inX2 tw1_203 dX2_init_31 (fun H locs wd => ?_)
  have wd : iWd D cyI cyO _ s _ _ ((h0, .inr (2, [.int 0, .int 0, .ref q1, .ref q2, .ref q3, .null])) :: (q1, .inl (cyO, 5, .inr (.inr (.inr (.inr (fun _ => none)))))) :: (blkX3 cyI q2 up ++ blkX6 cyI q3 us)) := wd
  refine lv_aload_n hx hb dX2_init_34 rfl (lv_at hl 0 rfl) ?_
  refine iNew C wd (Cn := RX1) (T := TX1) (N := 4) (ci := 1) (ty := tyX1) (fs := [.int 0, .int 0, .null, .null]) inX1 tyX1_ok tw1_107 tw1_108 tw1_7 rfl (fun j hj => by rcases (show j = 0 ∨ j = 1 ∨ j = 2 ∨ j = 3 by omega) with rfl | rfl | rfl | rfl <;> rfl) (Nat.le_of_ble_eq_true rfl) (Nat.le_of_ble_eq_true rfl) dX2_init_35 (fun q4 H wd => ?_)
  refine lv_dup hx hb dX2_init_38 rfl ?_
  refine iCall (y := yX1_init) (As := []) (rest := [.ref q4, .ref h0]) C wd ciX1 ⟨rfl, rfl⟩ gi_X1_init rfl tw1_7 tw1_110 (Or.inr ⟨_, ns_13⟩) nki_X1_init ⟨(Nat.le_of_ble_eq_true rfl), (Nat.le_of_ble_eq_true rfl)⟩ hl.1 (Nat.le_of_ble_eq_true rfl) dX2_init_39 rfl ⟨(Nat.le_of_ble_eq_true rfl), (Nat.le_of_ble_eq_true rfl)⟩ (fun ul H locs _ wd => ?_)
  have wd : iWd D cyI cyO _ s _ _ ((h0, .inr (2, [.int 0, .int 0, .ref q1, .ref q2, .ref q3, .null])) :: (q1, .inl (cyO, 5, .inr (.inr (.inr (.inr (fun _ => none)))))) :: ((blkX3 cyI q2 up ++ blkX6 cyI q3 us) ++ blkX1 cyI q4 ul)) := wd
  refine iPutF C wd hin (a := h0) (k := 0) (ci := 2) (N := 6) (Cn := RX2) (T := TX2) (v := .ref q4) (ty := .object "OrphanLogs$Loss") rfl rfl tyX2_ok nmX2 5 (by decide) rfl rfl (by decide +kernel) rfl rfl (Nat.le_of_ble_eq_true rfl) inX2 tw1_205 dX2_init_42 (fun H locs wd => ?_)
  have wd : iWd D cyI cyO _ s _ _ ((h0, .inr (2, [.int 0, .int 0, .ref q1, .ref q2, .ref q3, .ref q4])) :: (q1, .inl (cyO, 5, .inr (.inr (.inr (.inr (fun _ => none)))))) :: ((blkX3 cyI q2 up ++ blkX6 cyI q3 us) ++ blkX1 cyI q4 ul)) := wd
  refine lv_iconst (v := (0 : Int32)) hx hb dX2_init_45 (by decide) ?_
  refine lv_istore_n (lv' := [(1, .int (0 : Int32)), (0, .ref h0)]) hx hb dX2_init_46 rfl hl (by decide) rfl (fun ls hl => ?_)
  refine lv_iload_n hx hb dX2_init_47 rfl (lv_at hl 0 rfl) ?_
  refine lv_aload_n hx hb dX2_init_48 rfl (lv_at hl 1 rfl) ?_
  refine va_get (ci := 2) (v := .ref q1) (C := RX2) (T := TX2) (N := 6) hx hb hts inX2 hown wd.1 wd.2.2.2.1 0 rfl rfl 2 (by decide) (hts _ tw1_200) (fun _ h => h) rfl dX2_init_49 ?_
  refine va_alen (v := (5 : Int32)) hx hb wd.1 wd.2.2.2.1 1 1 rfl rfl rfl dX2_init_52 ?_
  refine lv_icmp_ge (tgt := 76) hx hb dX2_init_53 (by decide) (fun c1 => absurd c1 (by decide)) (fun c1 => ?_)
  refine lv_aload_n hx hb dX2_init_56 rfl (lv_at hl 1 rfl) ?_
  refine va_get (ci := 2) (v := .ref q1) (C := RX2) (T := TX2) (N := 6) hx hb hts inX2 hown wd.1 wd.2.2.2.1 0 rfl rfl 2 (by decide) (hts _ tw1_200) (fun _ h => h) rfl dX2_init_57 ?_
  refine lv_iload_n hx hb dX2_init_60 rfl (lv_at hl 0 rfl) ?_
  refine iNew C wd (Cn := RX0) (T := TX0) (N := 9) (ci := 0) (ty := tyX0) (fs := [.int 0, .int 0, .int 0, .int 0, .int 0, .null, .null, .null, .null]) inX0 tyX0_ok tw1_27 tw1_126 tw1_8 rfl (fun j hj => by rcases (show j = 0 ∨ j = 1 ∨ j = 2 ∨ j = 3 ∨ j = 4 ∨ j = 5 ∨ j = 6 ∨ j = 7 ∨ j = 8 by omega) with rfl | rfl | rfl | rfl | rfl | rfl | rfl | rfl | rfl <;> rfl) (Nat.le_of_ble_eq_true rfl) (Nat.le_of_ble_eq_true rfl) dX2_init_61 (fun k0 H wd => ?_)
  refine lv_dup hx hb dX2_init_64 rfl ?_
  refine lv_iload_n hx hb dX2_init_65 rfl (lv_at hl 0 rfl) ?_
  refine iCall (y := yX0_init) (As := [.int (0 : Int32)]) (rest := [.ref k0, .int (0 : Int32), .ref q1]) C wd ciX0 ⟨rfl, rfl⟩ gi_X0_init rfl tw1_8 tw1_128 (Or.inl tw1_127) nki_X0_init ⟨(Nat.le_of_ble_eq_true rfl), (Nat.le_of_ble_eq_true rfl)⟩ hl.1 (Nat.le_of_ble_eq_true rfl) dX2_init_66 rfl ⟨(Nat.le_of_ble_eq_true rfl), (Nat.le_of_ble_eq_true rfl)⟩ (fun u0 H locs _ wd => ?_)
  have wd : iWd D cyI cyO _ s _ _ ((h0, .inr (2, [.int 0, .int 0, .ref q1, .ref q2, .ref q3, .ref q4])) :: (q1, .inl (cyO, 5, .inr (.inr (.inr (.inr (fun _ => none)))))) :: (((blkX3 cyI q2 up ++ blkX6 cyI q3 us) ++ blkX1 cyI q4 ul) ++ blkX0 cyI ((0 : Int32)) k0 u0)) := wd
  refine va_astq (r := (RX0, TX0, 9)) hx hb wd.1 wd.2.2.2.1 wd.2.2.2.2.1 wd.2.2.2.2.2 1 1 17 0 rfl rfl rfl rfl (by unfold vp_in; decide) dX2_init_69 (fun H locs hP hD hS => ?_)
  have wd : iWd D cyI cyO _ s H locs ((h0, .inr (2, [.int 0, .int 0, .ref q1, .ref q2, .ref q3, .ref q4])) :: (q1, .inl (cyO, 5, .inr (.inr (.inr (.inr (va_up (fun _ => none) (0 : Int32).toNatClampNeg (some k0))))))) :: (((blkX3 cyI q2 up ++ blkX6 cyI q3 us) ++ blkX1 cyI q4 ul) ++ blkX0 cyI ((0 : Int32)) k0 u0)) := ⟨wd.1, wd.2.1, wd.2.2.1, hP, hD, hS⟩
  refine lv_iinc (v := (1 : Int32)) (lv' := [(1, .int (1 : Int32)), (0, .ref h0)]) hx hb dX2_init_70 hl (k := 0) rfl (by decide) (by decide) rfl (fun ls hl => ?_)
  refine lv_goto (tgt := 47) hx hb dX2_init_73 (by decide) ?_
  refine lv_iload_n hx hb dX2_init_47 rfl (lv_at hl 0 rfl) ?_
  refine lv_aload_n hx hb dX2_init_48 rfl (lv_at hl 1 rfl) ?_
  refine va_get (ci := 2) (v := .ref q1) (C := RX2) (T := TX2) (N := 6) hx hb hts inX2 hown wd.1 wd.2.2.2.1 0 rfl rfl 2 (by decide) (hts _ tw1_200) (fun _ h => h) rfl dX2_init_49 ?_
  refine va_alen (v := (5 : Int32)) hx hb wd.1 wd.2.2.2.1 1 1 rfl rfl rfl dX2_init_52 ?_
  refine lv_icmp_ge (tgt := 76) hx hb dX2_init_53 (by decide) (fun c1 => absurd c1 (by decide)) (fun c1 => ?_)
  refine lv_aload_n hx hb dX2_init_56 rfl (lv_at hl 1 rfl) ?_
  refine va_get (ci := 2) (v := .ref q1) (C := RX2) (T := TX2) (N := 6) hx hb hts inX2 hown wd.1 wd.2.2.2.1 0 rfl rfl 2 (by decide) (hts _ tw1_200) (fun _ h => h) rfl dX2_init_57 ?_
  refine lv_iload_n hx hb dX2_init_60 rfl (lv_at hl 0 rfl) ?_
  refine iNew C wd (Cn := RX0) (T := TX0) (N := 9) (ci := 0) (ty := tyX0) (fs := [.int 0, .int 0, .int 0, .int 0, .int 0, .null, .null, .null, .null]) inX0 tyX0_ok tw1_27 tw1_126 tw1_8 rfl (fun j hj => by rcases (show j = 0 ∨ j = 1 ∨ j = 2 ∨ j = 3 ∨ j = 4 ∨ j = 5 ∨ j = 6 ∨ j = 7 ∨ j = 8 by omega) with rfl | rfl | rfl | rfl | rfl | rfl | rfl | rfl | rfl <;> rfl) (Nat.le_of_ble_eq_true rfl) (Nat.le_of_ble_eq_true rfl) dX2_init_61 (fun k1 H wd => ?_)
  refine lv_dup hx hb dX2_init_64 rfl ?_
  refine lv_iload_n hx hb dX2_init_65 rfl (lv_at hl 0 rfl) ?_
  refine iCall (y := yX0_init) (As := [.int (1 : Int32)]) (rest := [.ref k1, .int (1 : Int32), .ref q1]) C wd ciX0 ⟨rfl, rfl⟩ gi_X0_init rfl tw1_8 tw1_128 (Or.inl tw1_127) nki_X0_init ⟨(Nat.le_of_ble_eq_true rfl), (Nat.le_of_ble_eq_true rfl)⟩ hl.1 (Nat.le_of_ble_eq_true rfl) dX2_init_66 rfl ⟨(Nat.le_of_ble_eq_true rfl), (Nat.le_of_ble_eq_true rfl)⟩ (fun u1 H locs _ wd => ?_)
  have wd : iWd D cyI cyO _ s _ _ ((h0, .inr (2, [.int 0, .int 0, .ref q1, .ref q2, .ref q3, .ref q4])) :: (q1, .inl (cyO, 5, .inr (.inr (.inr (.inr (va_up (fun _ => none) (0 : Int32).toNatClampNeg (some k0))))))) :: ((((blkX3 cyI q2 up ++ blkX6 cyI q3 us) ++ blkX1 cyI q4 ul) ++ blkX0 cyI ((0 : Int32)) k0 u0) ++ blkX0 cyI ((1 : Int32)) k1 u1)) := wd
  refine va_astq (r := (RX0, TX0, 9)) hx hb wd.1 wd.2.2.2.1 wd.2.2.2.2.1 wd.2.2.2.2.2 1 1 24 0 rfl rfl rfl rfl (by unfold vp_in; decide) dX2_init_69 (fun H locs hP hD hS => ?_)
  have wd : iWd D cyI cyO _ s H locs ((h0, .inr (2, [.int 0, .int 0, .ref q1, .ref q2, .ref q3, .ref q4])) :: (q1, .inl (cyO, 5, .inr (.inr (.inr (.inr (va_up (va_up (fun _ => none) (0 : Int32).toNatClampNeg (some k0)) (1 : Int32).toNatClampNeg (some k1))))))) :: ((((blkX3 cyI q2 up ++ blkX6 cyI q3 us) ++ blkX1 cyI q4 ul) ++ blkX0 cyI ((0 : Int32)) k0 u0) ++ blkX0 cyI ((1 : Int32)) k1 u1)) := ⟨wd.1, wd.2.1, wd.2.2.1, hP, hD, hS⟩
  refine lv_iinc (v := (2 : Int32)) (lv' := [(1, .int (2 : Int32)), (0, .ref h0)]) hx hb dX2_init_70 hl (k := 0) rfl (by decide) (by decide) rfl (fun ls hl => ?_)
  refine lv_goto (tgt := 47) hx hb dX2_init_73 (by decide) ?_
  refine lv_iload_n hx hb dX2_init_47 rfl (lv_at hl 0 rfl) ?_
  refine lv_aload_n hx hb dX2_init_48 rfl (lv_at hl 1 rfl) ?_
  refine va_get (ci := 2) (v := .ref q1) (C := RX2) (T := TX2) (N := 6) hx hb hts inX2 hown wd.1 wd.2.2.2.1 0 rfl rfl 2 (by decide) (hts _ tw1_200) (fun _ h => h) rfl dX2_init_49 ?_
  refine va_alen (v := (5 : Int32)) hx hb wd.1 wd.2.2.2.1 1 1 rfl rfl rfl dX2_init_52 ?_
  refine lv_icmp_ge (tgt := 76) hx hb dX2_init_53 (by decide) (fun c1 => absurd c1 (by decide)) (fun c1 => ?_)
  refine lv_aload_n hx hb dX2_init_56 rfl (lv_at hl 1 rfl) ?_
  refine va_get (ci := 2) (v := .ref q1) (C := RX2) (T := TX2) (N := 6) hx hb hts inX2 hown wd.1 wd.2.2.2.1 0 rfl rfl 2 (by decide) (hts _ tw1_200) (fun _ h => h) rfl dX2_init_57 ?_
  refine lv_iload_n hx hb dX2_init_60 rfl (lv_at hl 0 rfl) ?_
  refine iNew C wd (Cn := RX0) (T := TX0) (N := 9) (ci := 0) (ty := tyX0) (fs := [.int 0, .int 0, .int 0, .int 0, .int 0, .null, .null, .null, .null]) inX0 tyX0_ok tw1_27 tw1_126 tw1_8 rfl (fun j hj => by rcases (show j = 0 ∨ j = 1 ∨ j = 2 ∨ j = 3 ∨ j = 4 ∨ j = 5 ∨ j = 6 ∨ j = 7 ∨ j = 8 by omega) with rfl | rfl | rfl | rfl | rfl | rfl | rfl | rfl | rfl <;> rfl) (Nat.le_of_ble_eq_true rfl) (Nat.le_of_ble_eq_true rfl) dX2_init_61 (fun k2 H wd => ?_)
  refine lv_dup hx hb dX2_init_64 rfl ?_
  refine lv_iload_n hx hb dX2_init_65 rfl (lv_at hl 0 rfl) ?_
  refine iCall (y := yX0_init) (As := [.int (2 : Int32)]) (rest := [.ref k2, .int (2 : Int32), .ref q1]) C wd ciX0 ⟨rfl, rfl⟩ gi_X0_init rfl tw1_8 tw1_128 (Or.inl tw1_127) nki_X0_init ⟨(Nat.le_of_ble_eq_true rfl), (Nat.le_of_ble_eq_true rfl)⟩ hl.1 (Nat.le_of_ble_eq_true rfl) dX2_init_66 rfl ⟨(Nat.le_of_ble_eq_true rfl), (Nat.le_of_ble_eq_true rfl)⟩ (fun u2 H locs _ wd => ?_)
  have wd : iWd D cyI cyO _ s _ _ ((h0, .inr (2, [.int 0, .int 0, .ref q1, .ref q2, .ref q3, .ref q4])) :: (q1, .inl (cyO, 5, .inr (.inr (.inr (.inr (va_up (va_up (fun _ => none) (0 : Int32).toNatClampNeg (some k0)) (1 : Int32).toNatClampNeg (some k1))))))) :: (((((blkX3 cyI q2 up ++ blkX6 cyI q3 us) ++ blkX1 cyI q4 ul) ++ blkX0 cyI ((0 : Int32)) k0 u0) ++ blkX0 cyI ((1 : Int32)) k1 u1) ++ blkX0 cyI ((2 : Int32)) k2 u2)) := wd
  refine va_astq (r := (RX0, TX0, 9)) hx hb wd.1 wd.2.2.2.1 wd.2.2.2.2.1 wd.2.2.2.2.2 1 1 31 0 rfl rfl rfl rfl (by unfold vp_in; decide) dX2_init_69 (fun H locs hP hD hS => ?_)
  have wd : iWd D cyI cyO _ s H locs ((h0, .inr (2, [.int 0, .int 0, .ref q1, .ref q2, .ref q3, .ref q4])) :: (q1, .inl (cyO, 5, .inr (.inr (.inr (.inr (va_up (va_up (va_up (fun _ => none) (0 : Int32).toNatClampNeg (some k0)) (1 : Int32).toNatClampNeg (some k1)) (2 : Int32).toNatClampNeg (some k2))))))) :: (((((blkX3 cyI q2 up ++ blkX6 cyI q3 us) ++ blkX1 cyI q4 ul) ++ blkX0 cyI ((0 : Int32)) k0 u0) ++ blkX0 cyI ((1 : Int32)) k1 u1) ++ blkX0 cyI ((2 : Int32)) k2 u2)) := ⟨wd.1, wd.2.1, wd.2.2.1, hP, hD, hS⟩
  refine lv_iinc (v := (3 : Int32)) (lv' := [(1, .int (3 : Int32)), (0, .ref h0)]) hx hb dX2_init_70 hl (k := 0) rfl (by decide) (by decide) rfl (fun ls hl => ?_)
  refine lv_goto (tgt := 47) hx hb dX2_init_73 (by decide) ?_
  refine lv_iload_n hx hb dX2_init_47 rfl (lv_at hl 0 rfl) ?_
  refine lv_aload_n hx hb dX2_init_48 rfl (lv_at hl 1 rfl) ?_
  refine va_get (ci := 2) (v := .ref q1) (C := RX2) (T := TX2) (N := 6) hx hb hts inX2 hown wd.1 wd.2.2.2.1 0 rfl rfl 2 (by decide) (hts _ tw1_200) (fun _ h => h) rfl dX2_init_49 ?_
  refine va_alen (v := (5 : Int32)) hx hb wd.1 wd.2.2.2.1 1 1 rfl rfl rfl dX2_init_52 ?_
  refine lv_icmp_ge (tgt := 76) hx hb dX2_init_53 (by decide) (fun c1 => absurd c1 (by decide)) (fun c1 => ?_)
  refine lv_aload_n hx hb dX2_init_56 rfl (lv_at hl 1 rfl) ?_
  refine va_get (ci := 2) (v := .ref q1) (C := RX2) (T := TX2) (N := 6) hx hb hts inX2 hown wd.1 wd.2.2.2.1 0 rfl rfl 2 (by decide) (hts _ tw1_200) (fun _ h => h) rfl dX2_init_57 ?_
  refine lv_iload_n hx hb dX2_init_60 rfl (lv_at hl 0 rfl) ?_
  refine iNew C wd (Cn := RX0) (T := TX0) (N := 9) (ci := 0) (ty := tyX0) (fs := [.int 0, .int 0, .int 0, .int 0, .int 0, .null, .null, .null, .null]) inX0 tyX0_ok tw1_27 tw1_126 tw1_8 rfl (fun j hj => by rcases (show j = 0 ∨ j = 1 ∨ j = 2 ∨ j = 3 ∨ j = 4 ∨ j = 5 ∨ j = 6 ∨ j = 7 ∨ j = 8 by omega) with rfl | rfl | rfl | rfl | rfl | rfl | rfl | rfl | rfl <;> rfl) (Nat.le_of_ble_eq_true rfl) (Nat.le_of_ble_eq_true rfl) dX2_init_61 (fun k3 H wd => ?_)
  refine lv_dup hx hb dX2_init_64 rfl ?_
  refine lv_iload_n hx hb dX2_init_65 rfl (lv_at hl 0 rfl) ?_
  refine iCall (y := yX0_init) (As := [.int (3 : Int32)]) (rest := [.ref k3, .int (3 : Int32), .ref q1]) C wd ciX0 ⟨rfl, rfl⟩ gi_X0_init rfl tw1_8 tw1_128 (Or.inl tw1_127) nki_X0_init ⟨(Nat.le_of_ble_eq_true rfl), (Nat.le_of_ble_eq_true rfl)⟩ hl.1 (Nat.le_of_ble_eq_true rfl) dX2_init_66 rfl ⟨(Nat.le_of_ble_eq_true rfl), (Nat.le_of_ble_eq_true rfl)⟩ (fun u3 H locs _ wd => ?_)
  have wd : iWd D cyI cyO _ s _ _ ((h0, .inr (2, [.int 0, .int 0, .ref q1, .ref q2, .ref q3, .ref q4])) :: (q1, .inl (cyO, 5, .inr (.inr (.inr (.inr (va_up (va_up (va_up (fun _ => none) (0 : Int32).toNatClampNeg (some k0)) (1 : Int32).toNatClampNeg (some k1)) (2 : Int32).toNatClampNeg (some k2))))))) :: ((((((blkX3 cyI q2 up ++ blkX6 cyI q3 us) ++ blkX1 cyI q4 ul) ++ blkX0 cyI ((0 : Int32)) k0 u0) ++ blkX0 cyI ((1 : Int32)) k1 u1) ++ blkX0 cyI ((2 : Int32)) k2 u2) ++ blkX0 cyI ((3 : Int32)) k3 u3)) := wd
  refine va_astq (r := (RX0, TX0, 9)) hx hb wd.1 wd.2.2.2.1 wd.2.2.2.2.1 wd.2.2.2.2.2 1 1 38 0 rfl rfl rfl rfl (by unfold vp_in; decide) dX2_init_69 (fun H locs hP hD hS => ?_)
  have wd : iWd D cyI cyO _ s H locs ((h0, .inr (2, [.int 0, .int 0, .ref q1, .ref q2, .ref q3, .ref q4])) :: (q1, .inl (cyO, 5, .inr (.inr (.inr (.inr (va_up (va_up (va_up (va_up (fun _ => none) (0 : Int32).toNatClampNeg (some k0)) (1 : Int32).toNatClampNeg (some k1)) (2 : Int32).toNatClampNeg (some k2)) (3 : Int32).toNatClampNeg (some k3))))))) :: ((((((blkX3 cyI q2 up ++ blkX6 cyI q3 us) ++ blkX1 cyI q4 ul) ++ blkX0 cyI ((0 : Int32)) k0 u0) ++ blkX0 cyI ((1 : Int32)) k1 u1) ++ blkX0 cyI ((2 : Int32)) k2 u2) ++ blkX0 cyI ((3 : Int32)) k3 u3)) := ⟨wd.1, wd.2.1, wd.2.2.1, hP, hD, hS⟩
  refine lv_iinc (v := (4 : Int32)) (lv' := [(1, .int (4 : Int32)), (0, .ref h0)]) hx hb dX2_init_70 hl (k := 0) rfl (by decide) (by decide) rfl (fun ls hl => ?_)
  refine lv_goto (tgt := 47) hx hb dX2_init_73 (by decide) ?_
  refine lv_iload_n hx hb dX2_init_47 rfl (lv_at hl 0 rfl) ?_
  refine lv_aload_n hx hb dX2_init_48 rfl (lv_at hl 1 rfl) ?_
  refine va_get (ci := 2) (v := .ref q1) (C := RX2) (T := TX2) (N := 6) hx hb hts inX2 hown wd.1 wd.2.2.2.1 0 rfl rfl 2 (by decide) (hts _ tw1_200) (fun _ h => h) rfl dX2_init_49 ?_
  refine va_alen (v := (5 : Int32)) hx hb wd.1 wd.2.2.2.1 1 1 rfl rfl rfl dX2_init_52 ?_
  refine lv_icmp_ge (tgt := 76) hx hb dX2_init_53 (by decide) (fun c1 => absurd c1 (by decide)) (fun c1 => ?_)
  refine lv_aload_n hx hb dX2_init_56 rfl (lv_at hl 1 rfl) ?_
  refine va_get (ci := 2) (v := .ref q1) (C := RX2) (T := TX2) (N := 6) hx hb hts inX2 hown wd.1 wd.2.2.2.1 0 rfl rfl 2 (by decide) (hts _ tw1_200) (fun _ h => h) rfl dX2_init_57 ?_
  refine lv_iload_n hx hb dX2_init_60 rfl (lv_at hl 0 rfl) ?_
  refine iNew C wd (Cn := RX0) (T := TX0) (N := 9) (ci := 0) (ty := tyX0) (fs := [.int 0, .int 0, .int 0, .int 0, .int 0, .null, .null, .null, .null]) inX0 tyX0_ok tw1_27 tw1_126 tw1_8 rfl (fun j hj => by rcases (show j = 0 ∨ j = 1 ∨ j = 2 ∨ j = 3 ∨ j = 4 ∨ j = 5 ∨ j = 6 ∨ j = 7 ∨ j = 8 by omega) with rfl | rfl | rfl | rfl | rfl | rfl | rfl | rfl | rfl <;> rfl) (Nat.le_of_ble_eq_true rfl) (Nat.le_of_ble_eq_true rfl) dX2_init_61 (fun k4 H wd => ?_)
  refine lv_dup hx hb dX2_init_64 rfl ?_
  refine lv_iload_n hx hb dX2_init_65 rfl (lv_at hl 0 rfl) ?_
  refine iCall (y := yX0_init) (As := [.int (4 : Int32)]) (rest := [.ref k4, .int (4 : Int32), .ref q1]) C wd ciX0 ⟨rfl, rfl⟩ gi_X0_init rfl tw1_8 tw1_128 (Or.inl tw1_127) nki_X0_init ⟨(Nat.le_of_ble_eq_true rfl), (Nat.le_of_ble_eq_true rfl)⟩ hl.1 (Nat.le_of_ble_eq_true rfl) dX2_init_66 rfl ⟨(Nat.le_of_ble_eq_true rfl), (Nat.le_of_ble_eq_true rfl)⟩ (fun u4 H locs _ wd => ?_)
  have wd : iWd D cyI cyO _ s _ _ ((h0, .inr (2, [.int 0, .int 0, .ref q1, .ref q2, .ref q3, .ref q4])) :: (q1, .inl (cyO, 5, .inr (.inr (.inr (.inr (va_up (va_up (va_up (va_up (fun _ => none) (0 : Int32).toNatClampNeg (some k0)) (1 : Int32).toNatClampNeg (some k1)) (2 : Int32).toNatClampNeg (some k2)) (3 : Int32).toNatClampNeg (some k3))))))) :: (((((((blkX3 cyI q2 up ++ blkX6 cyI q3 us) ++ blkX1 cyI q4 ul) ++ blkX0 cyI ((0 : Int32)) k0 u0) ++ blkX0 cyI ((1 : Int32)) k1 u1) ++ blkX0 cyI ((2 : Int32)) k2 u2) ++ blkX0 cyI ((3 : Int32)) k3 u3) ++ blkX0 cyI ((4 : Int32)) k4 u4)) := wd
  refine va_astq (r := (RX0, TX0, 9)) hx hb wd.1 wd.2.2.2.1 wd.2.2.2.2.1 wd.2.2.2.2.2 1 1 45 0 rfl rfl rfl rfl (by unfold vp_in; decide) dX2_init_69 (fun H locs hP hD hS => ?_)
  have wd : iWd D cyI cyO _ s H locs ((h0, .inr (2, [.int 0, .int 0, .ref q1, .ref q2, .ref q3, .ref q4])) :: (q1, .inl (cyO, 5, .inr (.inr (.inr (.inr (va_up (va_up (va_up (va_up (va_up (fun _ => none) (0 : Int32).toNatClampNeg (some k0)) (1 : Int32).toNatClampNeg (some k1)) (2 : Int32).toNatClampNeg (some k2)) (3 : Int32).toNatClampNeg (some k3)) (4 : Int32).toNatClampNeg (some k4))))))) :: (((((((blkX3 cyI q2 up ++ blkX6 cyI q3 us) ++ blkX1 cyI q4 ul) ++ blkX0 cyI ((0 : Int32)) k0 u0) ++ blkX0 cyI ((1 : Int32)) k1 u1) ++ blkX0 cyI ((2 : Int32)) k2 u2) ++ blkX0 cyI ((3 : Int32)) k3 u3) ++ blkX0 cyI ((4 : Int32)) k4 u4)) := ⟨wd.1, wd.2.1, wd.2.2.1, hP, hD, hS⟩
  refine lv_iinc (v := (5 : Int32)) (lv' := [(1, .int (5 : Int32)), (0, .ref h0)]) hx hb dX2_init_70 hl (k := 0) rfl (by decide) (by decide) rfl (fun ls hl => ?_)
  refine lv_goto (tgt := 47) hx hb dX2_init_73 (by decide) ?_
  refine lv_iload_n hx hb dX2_init_47 rfl (lv_at hl 0 rfl) ?_
  refine lv_aload_n hx hb dX2_init_48 rfl (lv_at hl 1 rfl) ?_
  refine va_get (ci := 2) (v := .ref q1) (C := RX2) (T := TX2) (N := 6) hx hb hts inX2 hown wd.1 wd.2.2.2.1 0 rfl rfl 2 (by decide) (hts _ tw1_200) (fun _ h => h) rfl dX2_init_49 ?_
  refine va_alen (v := (5 : Int32)) hx hb wd.1 wd.2.2.2.1 1 1 rfl rfl rfl dX2_init_52 ?_
  refine lv_icmp_ge (tgt := 76) hx hb dX2_init_53 (by decide) (fun c1 => ?_) (fun c1 => absurd (by decide) c1)
  obtain ⟨hK, hN, hO, hP, hD, hS⟩ := wd
  obtain ⟨ad, ead⟩ : ∃ z : Nat → Nat, z = (adC h0 q1 q2 q3 q4 k0 k1 k2 k3 k4 up us ul u0 u1 u2 u3 u4) := ⟨_, rfl⟩
  have hP := iSwapQ (g := fun i => some (ad (5 + i))) hP (fun j hj => by rw [ead]; rcases (show j = 0 ∨ j = 1 ∨ j = 2 ∨ j = 3 ∨ j = 4 by omega) with rfl | rfl | rfl | rfl | rfl <;> rfl)
  have hD := iSwapD (e2 := .inl (cyO, 5, .inr (.inr (.inr (.inr (fun i => some (ad (5 + i)))))))) hD
  have hg : ∀ (k : Nat) (q : Nat × va_E), (gW (cCell ad cyI cyO) ad 52 zSt)[k]? = some q → ((h0, .inr (2, [.int 0, .int 0, .ref q1, .ref q2, .ref q3, .ref q4])) :: (q1, .inl (cyO, 5, .inr (.inr (.inr (.inr (fun i => some (ad (5 + i)))))))) :: (((((((blkX3 cyI q2 up ++ blkX6 cyI q3 us) ++ blkX1 cyI q4 ul) ++ blkX0 cyI ((0 : Int32)) k0 u0) ++ blkX0 cyI ((1 : Int32)) k1 u1) ++ blkX0 cyI ((2 : Int32)) k2 u2) ++ blkX0 cyI ((3 : Int32)) k3 u3) ++ blkX0 cyI ((4 : Int32)) k4 u4))[permC k]? = some q := by
    intro k q hk
    have hlt := gW_lt hk
    rw [gW_get hlt] at hk
    rw [← hk]
    clear hk
    subst ead
    match k, hlt with
    | 0, _ => rfl
    | 1, _ => rfl
    | 2, _ => rfl
    | 3, _ => rfl
    | 4, _ => rfl
    | 5, _ => rfl
    | 6, _ => rfl
    | 7, _ => rfl
    | 8, _ => rfl
    | 9, _ => rfl
    | 10, _ => rfl
    | 11, _ => rfl
    | 12, _ => rfl
    | 13, _ => rfl
    | 14, _ => rfl
    | 15, _ => rfl
    | 16, _ => rfl
    | 17, _ => rfl
    | 18, _ => rfl
    | 19, _ => rfl
    | 20, _ => rfl
    | 21, _ => rfl
    | 22, _ => rfl
    | 23, _ => rfl
    | 24, _ => rfl
    | 25, _ => rfl
    | 26, _ => rfl
    | 27, _ => rfl
    | 28, _ => rfl
    | 29, _ => rfl
    | 30, _ => rfl
    | 31, _ => rfl
    | 32, _ => rfl
    | 33, _ => rfl
    | 34, _ => rfl
    | 35, _ => rfl
    | 36, _ => rfl
    | 37, _ => rfl
    | 38, _ => rfl
    | 39, _ => rfl
    | 40, _ => rfl
    | 41, _ => rfl
    | 42, _ => rfl
    | 43, _ => rfl
    | 44, _ => rfl
    | 45, _ => rfl
    | 46, _ => rfl
    | 47, _ => rfl
    | 48, _ => rfl
    | 49, _ => rfl
    | 50, _ => rfl
    | 51, _ => rfl
    | k + 52, h => exact absurd h (by omega)
  have hPg := hP.by permC hg
  have hDg := hD.by permC hg (fun i j hi hj h => permC_inj i (by rw [gW_len] at hi; exact hi) j (by rw [gW_len] at hj; exact hj) h)
  have e0 : ad 0 = h0 := by rw [ead]; rfl
  have hAg : ∀ q, gA ad 52 s.heap.size q → va_A [(h0, .inr (2, [.int 0, .int 0, .null, .null, .null, .null]))] s.heap.size q := by
    intro q h
    rcases h with ⟨k, hk, e⟩ | h
    · rw [e]
      exact hDg.2 k _ (gW_get hk)
    · exact Or.inr h
  have hgA : ∀ q, va_A [(h0, .inr (2, [.int 0, .int 0, .null, .null, .null, .null]))] s.heap.size q → gA ad 52 s.heap.size q := by
    intro q h
    rcases h with ⟨j, e1, hj⟩ | h
    · have hj0 : j = 0 := by
        have := (List.getElem?_eq_some_iff.mp hj).1
        simp at this
        omega
      subst hj0
      have h2 : some (h0, (Sum.inr (2, [.int 0, .int 0, .null, .null, .null, .null]) : va_E)) = some (q, e1) := hj
      cases h2
      exact Or.inl ⟨0, by decide, e0.symm⟩
    · exact Or.inr h
  have wg : gWd D (tyL cyI cyO) (cCell ad cyI cyO) ad 52 s H locs zSt := ⟨hK, hN, hPg, gW_D hDg, hS.1, fun q h1 h2 => hS.2.1 q h1 (fun h => h2 (hgA q h)), fun q hq => hgA _ (hS.2.2 q hq)⟩
  refine lv_aload_n hx hb dX2_init_76 rfl (lv_at hl 1 rfl) ?_
  refine lv_iconst (v := (3 : Int32)) hx hb dX2_init_77 (by decide) ?_
  refine gCvq wg (gRunVq (y := yX2_begin) (k := 0) (As := [.int (3 : Int32)]) (rest := []) C wg (cmX2_begin (Nat.le_refl 52) hbeg) ⟨rfl, rfl⟩ gd_b41 nk_X2_begin ⟨(Nat.le_of_ble_eq_true rfl), (Nat.le_of_ble_eq_true rfl)⟩ (by decide) cc_X2 rfl rfl hl.1 (Nat.le_of_ble_eq_true rfl) dX2_init_78 (by rw [e0]; rfl) ⟨(Nat.le_of_ble_eq_true rfl), (Nat.le_of_ble_eq_true rfl)⟩) (fun τ H locs h wd => ?_)
  obtain ⟨hK, hN, hP, hD, hS⟩ := wd
  exact W.vret hx hb hr (fun t ht hW => ⟨⟨(ad, τ), rfl, ⟨h, e0⟩, by rw [ht]; exact hP, ⟨hD.1, fun k q hk => hAg _ (hD.2 k q hk)⟩⟩, (by rw [ht]; exact hS.1), fun q h1 h2 => by rw [ht]; exact hS.2.1 q h1 (fun h => h2 (hAg q h))⟩) (fun q hq => hAg _ (hS.2.2 q hq)) dX2_init_81 hlk
