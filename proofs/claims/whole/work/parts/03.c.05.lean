section
variable {D : va_G} {cyI cyO : ClassId} {ad : Nat → Nat} {n : Nat}
abbrev rmX8_byteAt : Room := rmOf 1 21
def wpX8_byteAt (x1 : Int32) (σ : St) (Φ : Int32 → St → Prop) : Prop :=
  ((x1 < 0 → Φ (-1 : Int32) σ) ∧ (¬ x1 < 0 → (((σ.1 1824) ≤ x1 → Φ (-1 : Int32) σ) ∧ (¬ (σ.1 1824) ≤ x1 → wpX9_at 52 x1 σ (fun r4 t3 => Φ r4 t3)))))
set_option maxHeartbeats 4000000 in
set_option maxRecDepth 100000 in
theorem cmX8_byteAt {D : va_G} {cyI cyO : ClassId} {ad : Nat → Nat} {n : Nat} {l : Launch} (hn : 60 ≤ n) {x1 : Int32} {σ : St} {sz : Nat} {Φ : Int32 → St → Prop} (h : wpX8_byteAt x1 σ Φ) : gMet D (tyL cyI cyO) (cCell ad cyI cyO) ad n l yX8_byteAt cX8_byteAt 2 (some .int) rmX8_byteAt [.ref (ad 57), .int x1] σ sz (gQi D (cCell ad cyI cyO) ad n sz Φ) := by
  refine gMet.of (by decide) (Nat.le_of_ble_eq_true rfl) ?_
  intro p e s m below meth c ls hsz C hl wd
  subst hsz
  have C : Cx p s m _ meth c cX8_byteAt 2 (some .int) RX8 := C
  obtain ⟨hx, hb, hr, hml, hown, hts, hlk⟩ := id C
  have hl : lv_has ls 2 [(0, .ref (ad 57)), (1, .int x1)] := hl
  unfold wpX8_byteAt at h
  refine lv_iload_n hx hb dX8_byteAt_0 rfl (lv_at hl 1 rfl) ?_
  refine lv_if_lt (tgt := 23) hx hb dX8_byteAt_1 (by decide) (fun c1 => ?_) (fun c1 => ?_)
  · have h := h.1 c1
    refine lv_iconst (v := (-1 : Int32)) hx hb dX8_byteAt_23 (by decide) ?_
    exact retI C wd h dX8_byteAt_24
  · have h := h.2 c1
    refine lv_iload_n hx hb dX8_byteAt_4 rfl (lv_at hl 1 rfl) ?_
    refine lv_aload_n hx hb dX8_byteAt_5 rfl (lv_at hl 0 rfl) ?_
    refine getF C wd (k := 57) (Cn := RX8) (T := TX8) (N := 2) (v := .int (σ.1 1824)) (by omega) cc_X8 rfl 0 (by decide) rfl inX8 tw1_225 dX8_byteAt_6 ?_
    refine lv_icmp_ge (tgt := 23) hx hb dX8_byteAt_9 (by decide) (fun c2 => ?_) (fun c2 => ?_)
    · have h := h.1 c2
      refine lv_iconst (v := (-1 : Int32)) hx hb dX8_byteAt_23 (by decide) ?_
      exact retI C wd h dX8_byteAt_24
    · have h := h.2 c2
      refine lv_aload_n hx hb dX8_byteAt_12 rfl (lv_at hl 0 rfl) ?_
      refine getF C wd (k := 57) (Cn := RX8) (T := TX8) (N := 2) (v := .ref (ad 52)) (by omega) cc_X8 rfl 1 (by decide) rfl inX8 tw1_228 dX8_byteAt_13 ?_
      refine lv_iload_n hx hb dX8_byteAt_16 rfl (lv_at hl 1 rfl) ?_
      refine gCi wd (gRunSN (y := yX9_at) (As := [.ref (ad 52), .int x1]) (rest := []) C wd (cmX9_at (by omega) (by omega) (by omega) h) ⟨rfl, rfl⟩ gc_X9_at ns_59 tw1_1 tw2_92 nk_X9_at ⟨Nat.le_of_ble_eq_true rfl, Nat.le_of_ble_eq_true rfl⟩ hl.1 (Nat.le_of_ble_eq_true rfl) dX8_byteAt_17 rfl) (fun r4 t3 H locs h wd => ?_)
      try dsimp only at h
      refine lv_goto (tgt := 24) hx hb dX8_byteAt_20 (by decide) ?_
      exact retI C wd h dX8_byteAt_24
abbrev rmX4_skipBlanks : Room := rmOf 2 42
def wlX4_skipBlanks_5_body (Φ : St → Prop) (k_5 : Int32 → St → Prop) (x2 : Int32) (σ : St) : Prop :=
  (((σ.1 1824) ≤ x2 → Φ σ) ∧ (¬ (σ.1 1824) ≤ x2 → wpX8_byteAt x2 σ (fun r3 t2 => ((r3 = (32 : Int32) → (∀ t5 : St, t5 = setI t2 1857 (x2 + (1 : Int32)) → (∀ y6 : Int32, y6 = x2 + (1 : Int32) → k_5 y6 t5))) ∧ (¬ r3 = (32 : Int32) → Φ t2)))))
def wlX4_skipBlanks_5 (Φ : St → Prop) : Nat → Int32 → St → Prop
  | 0 => fun _ _ => False
  | N + 1 => fun x2 σ => wlX4_skipBlanks_5_body Φ (wlX4_skipBlanks_5 Φ N) x2 σ
set_option maxHeartbeats 4000000 in
set_option maxRecDepth 100000 in
theorem llX4_skipBlanks_5 {p : Program} {l : Launch} {e : Env} {s : State} {m : MethodId} {args : Array Value} {below : List Frame} {meth : Method} {c : Code} (hn : 60 ≤ n) (C : Cx p s m args meth c cX4_skipBlanks 3 none RX4) {Φ : St → Prop} : ∀ (N : Nat) (x2 : Int32) (σ : St) (H : Heap) (locs : List Loc) (ls : Array Slot), wlX4_skipBlanks_5 Φ N x2 σ → gWd D (tyL cyI cyO) (cCell ad cyI cyO) ad n s H locs σ → lv_has ls 3 [(0, .ref (ad 58)), (1, .ref (ad 57)), (2, .int x2)] → W p l e rmX4_skipBlanks s m args below meth c H locs 0 0 (MQ below (gQv D (cCell ad cyI cyO) ad n s.heap.size Φ) args s 0 0 (gA ad n s.heap.size)) (F0 m 5 ls []) := by
  obtain ⟨hx, hb, hr, hml, hown, hts, hlk⟩ := id C
  intro N
  induction N with
  | zero =>
    intro x2 σ H locs ls h
    exact False.elim h
  | succ N ih =>
    intro x2 σ H locs ls h wd hl
    have h : wlX4_skipBlanks_5_body Φ (wlX4_skipBlanks_5 Φ N) x2 σ := h
    have hk_5 := ih
    unfold wlX4_skipBlanks_5_body at h
    refine lv_iload_n hx hb dX4_skipBlanks_5 rfl (lv_at hl 2 rfl) ?_
    refine lv_aload_n hx hb dX4_skipBlanks_6 rfl (lv_at hl 1 rfl) ?_
    refine getN C wd (k := 57) (Cn := RX8) (T := TX8) (N := 2) (v := .int (σ.1 1824)) (by omega) cc_X8 rfl 0 (by decide) rfl inX8 ns_36 dX4_skipBlanks_7 ?_
    refine lv_icmp_ge (tgt := 36) hx hb dX4_skipBlanks_10 (by decide) (fun c1 => ?_) (fun c1 => ?_)
    · have h := h.1 c1
      exact retV C wd h dX4_skipBlanks_36
    · have h := h.2 c1
      refine lv_aload_n hx hb dX4_skipBlanks_13 rfl (lv_at hl 1 rfl) ?_
      refine lv_iload_n hx hb dX4_skipBlanks_14 rfl (lv_at hl 2 rfl) ?_
      refine gCi wd (gRunV (y := yX8_byteAt) (k := 57) (As := [.int x2]) (rest := []) C wd (cmX8_byteAt (by omega) h) ⟨rfl, rfl⟩ gd_X4_44 nk_X8_byteAt ⟨Nat.le_of_ble_eq_true rfl, Nat.le_of_ble_eq_true rfl⟩ (by omega) cc_X8 rfl rfl hl.1 (Nat.le_of_ble_eq_true rfl) dX4_skipBlanks_15 rfl) (fun r3 t2 H locs h wd => ?_)
      try dsimp only at h
      refine lv_bipush (v := (32 : Int32)) hx hb dX4_skipBlanks_18 (by decide) ?_
      refine lv_icmp_ne (tgt := 36) hx hb dX4_skipBlanks_20 (by decide) (fun c4 => ?_) (fun c4 => ?_)
      · have h := h.2 c4
        exact retV C wd h dX4_skipBlanks_36
      · have h := h.1 c4
        refine lv_aload_n hx hb dX4_skipBlanks_23 rfl (lv_at hl 0 rfl) ?_
        refine lv_iload_n hx hb dX4_skipBlanks_24 rfl (lv_at hl 2 rfl) ?_
        refine lv_iconst (v := (1 : Int32)) hx hb dX4_skipBlanks_25 (by decide) ?_
        refine lv_iadd hx hb dX4_skipBlanks_26 ?_
        refine putF C wd (k := 58) (Cn := RX4) (T := TX4) (N := 6) (σ' := setI t2 1857 (x2 + (1 : Int32))) (by omega) cc_X4 rfl tyX4_ok nmX4 1 (by decide) rfl (by decide +kernel) (Nat.le_of_ble_eq_true rfl) inX4 tw2_2 cs_X4_place dX4_skipBlanks_27 (fun H locs wd => ?_)
        obtain ⟨t5, et5⟩ : ∃ z : St, z = setI t2 1857 (x2 + (1 : Int32)) := ⟨_, rfl⟩
        rw [← et5] at wd
        have h := h t5 et5
        obtain ⟨y6, ey6⟩ : ∃ y : Int32, y = x2 + (1 : Int32) := ⟨_, rfl⟩
        refine lv_iinc (v := y6) (lv' := [(2, .int y6), (0, .ref (ad 58)), (1, .ref (ad 57))]) hx hb dX4_skipBlanks_30 hl (k := 2) rfl (by rw [ey6]; rfl) (by decide) rfl (fun ls hl => ?_)
        have h := h y6 ey6
        refine lv_goto (tgt := 5) hx hb dX4_skipBlanks_33 (by decide) ?_
        exact hk_5 _ _ _ _ _ h wd (lv_sub hl [1, 2, 0] rfl)
def wpX4_skipBlanks (σ : St) (Φ : St → Prop) : Prop :=
  (∀ y1 : Int32, y1 = σ.1 1857 → (∃ N, wlX4_skipBlanks_5 Φ N y1 σ))
set_option maxHeartbeats 4000000 in
set_option maxRecDepth 100000 in
theorem cmX4_skipBlanks {D : va_G} {cyI cyO : ClassId} {ad : Nat → Nat} {n : Nat} {l : Launch} (hn : 60 ≤ n) {σ : St} {sz : Nat} {Φ : St → Prop} (h : wpX4_skipBlanks σ Φ) : gMet D (tyL cyI cyO) (cCell ad cyI cyO) ad n l yX4_skipBlanks cX4_skipBlanks 3 none rmX4_skipBlanks [.ref (ad 58), .ref (ad 57)] σ sz (gQv D (cCell ad cyI cyO) ad n sz Φ) := by
  refine gMet.of (by decide) (Nat.le_of_ble_eq_true rfl) ?_
  intro p e s m below meth c ls hsz C hl wd
  subst hsz
  have C : Cx p s m _ meth c cX4_skipBlanks 3 none RX4 := C
  obtain ⟨hx, hb, hr, hml, hown, hts, hlk⟩ := id C
  have hl : lv_has ls 3 [(0, .ref (ad 58)), (1, .ref (ad 57))] := hl
  unfold wpX4_skipBlanks at h
  refine lv_aload_n hx hb dX4_skipBlanks_0 rfl (lv_at hl 0 rfl) ?_
  refine getF C wd (k := 58) (Cn := RX4) (T := TX4) (N := 6) (v := .int (σ.1 1857)) (by omega) cc_X4 rfl 1 (by decide) rfl inX4 tw2_2 dX4_skipBlanks_1 ?_
  refine lv_topi (fun y1 ey1 => ?_)
  have h := h y1 ey1
  refine lv_istore_n (lv' := [(2, .int y1), (0, .ref (ad 58)), (1, .ref (ad 57))]) hx hb dX4_skipBlanks_4 rfl hl (by decide) rfl (fun ls hl => ?_)
  obtain ⟨N, h⟩ := h
  exact llX4_skipBlanks_5 hn C N _ _ _ _ _ h wd (lv_sub hl [1, 2, 0] rfl)
abbrev rmX4_numbersOf : Room := rmOf 0 0
def wpX4_numbersOf (x0 : Int32) (σ : St) (Φ : Int32 → St → Prop) : Prop :=
  ((x0 = (103 : Int32) → Φ (2 : Int32) σ) ∧ (x0 = (108 : Int32) → Φ (1 : Int32) σ) ∧ (x0 = (111 : Int32) → Φ (1 : Int32) σ) ∧ (x0 = (114 : Int32) → Φ (0 : Int32) σ) ∧ (x0 = (115 : Int32) → Φ (2 : Int32) σ) ∧ (x0 = (117 : Int32) → Φ (0 : Int32) σ) ∧ (x0 = (119 : Int32) → Φ (2 : Int32) σ) ∧ (x0 = (120 : Int32) → Φ (1 : Int32) σ) ∧ (¬ x0 = (103 : Int32) → ¬ x0 = (108 : Int32) → ¬ x0 = (111 : Int32) → ¬ x0 = (114 : Int32) → ¬ x0 = (115 : Int32) → ¬ x0 = (117 : Int32) → ¬ x0 = (119 : Int32) → ¬ x0 = (120 : Int32) → Φ (-1 : Int32) σ))
set_option maxHeartbeats 4000000 in
set_option maxRecDepth 100000 in
theorem cmX4_numbersOf {D : va_G} {cyI cyO : ClassId} {ad : Nat → Nat} {n : Nat} {l : Launch} {x0 : Int32} {σ : St} {sz : Nat} {Φ : Int32 → St → Prop} (h : wpX4_numbersOf x0 σ Φ) : gMet D (tyL cyI cyO) (cCell ad cyI cyO) ad n l yX4_numbersOf cX4_numbersOf 1 (some .int) rmX4_numbersOf [.int x0] σ sz (gQi D (cCell ad cyI cyO) ad n sz Φ) := by
  refine gMet.of (by decide) (Nat.le_of_ble_eq_true rfl) ?_
  intro p e s m below meth c ls hsz C hl wd
  subst hsz
  have C : Cx p s m _ meth c cX4_numbersOf 1 (some .int) RX4 := C
  obtain ⟨hx, hb, hr, hml, hown, hts, hlk⟩ := id C
  have hl : lv_has ls 1 [(0, .int x0)] := hl
  unfold wpX4_numbersOf at h
  refine lv_iload_n hx hb dX4_numbersOf_0 rfl (lv_at hl 0 rfl) ?_
  by_cases c1 : x0 = (103 : Int32)
  · have h := h.1 c1
    refine lv_tableIn (off := 87) (tgt := 88) hx hb dX4_numbersOf_1 (by rw [c1]; decide) (by rw [c1]; decide) (by rw [c1]; rfl) (by decide) ?_
    refine lv_iconst (v := (2 : Int32)) hx hb dX4_numbersOf_88 (by decide) ?_
    exact retI C wd h dX4_numbersOf_89
  · skip
    by_cases c2 : x0 = (108 : Int32)
    · have h := h.2.1 c2
      refine lv_tableIn (off := 89) (tgt := 90) hx hb dX4_numbersOf_1 (by rw [c2]; decide) (by rw [c2]; decide) (by rw [c2]; rfl) (by decide) ?_
      refine lv_iconst (v := (1 : Int32)) hx hb dX4_numbersOf_90 (by decide) ?_
      exact retI C wd h dX4_numbersOf_91
    · skip
      by_cases c3 : x0 = (111 : Int32)
      · have h := h.2.2.1 c3
        refine lv_tableIn (off := 89) (tgt := 90) hx hb dX4_numbersOf_1 (by rw [c3]; decide) (by rw [c3]; decide) (by rw [c3]; rfl) (by decide) ?_
        refine lv_iconst (v := (1 : Int32)) hx hb dX4_numbersOf_90 (by decide) ?_
        exact retI C wd h dX4_numbersOf_91
      · skip
        by_cases c4 : x0 = (114 : Int32)
        · have h := h.2.2.2.1 c4
          refine lv_tableIn (off := 91) (tgt := 92) hx hb dX4_numbersOf_1 (by rw [c4]; decide) (by rw [c4]; decide) (by rw [c4]; rfl) (by decide) ?_
          refine lv_iconst (v := (0 : Int32)) hx hb dX4_numbersOf_92 (by decide) ?_
          exact retI C wd h dX4_numbersOf_93
        · skip
          by_cases c5 : x0 = (115 : Int32)
          · have h := h.2.2.2.2.1 c5
            refine lv_tableIn (off := 87) (tgt := 88) hx hb dX4_numbersOf_1 (by rw [c5]; decide) (by rw [c5]; decide) (by rw [c5]; rfl) (by decide) ?_
            refine lv_iconst (v := (2 : Int32)) hx hb dX4_numbersOf_88 (by decide) ?_
            exact retI C wd h dX4_numbersOf_89
          · skip
            by_cases c6 : x0 = (117 : Int32)
            · have h := h.2.2.2.2.2.1 c6
              refine lv_tableIn (off := 91) (tgt := 92) hx hb dX4_numbersOf_1 (by rw [c6]; decide) (by rw [c6]; decide) (by rw [c6]; rfl) (by decide) ?_
              refine lv_iconst (v := (0 : Int32)) hx hb dX4_numbersOf_92 (by decide) ?_
              exact retI C wd h dX4_numbersOf_93
            · skip
              by_cases c7 : x0 = (119 : Int32)
              · have h := h.2.2.2.2.2.2.1 c7
                refine lv_tableIn (off := 87) (tgt := 88) hx hb dX4_numbersOf_1 (by rw [c7]; decide) (by rw [c7]; decide) (by rw [c7]; rfl) (by decide) ?_
                refine lv_iconst (v := (2 : Int32)) hx hb dX4_numbersOf_88 (by decide) ?_
                exact retI C wd h dX4_numbersOf_89
              · skip
                by_cases c8 : x0 = (120 : Int32)
                · have h := h.2.2.2.2.2.2.2.1 c8
                  refine lv_tableIn (off := 89) (tgt := 90) hx hb dX4_numbersOf_1 (by rw [c8]; decide) (by rw [c8]; decide) (by rw [c8]; rfl) (by decide) ?_
                  refine lv_iconst (v := (1 : Int32)) hx hb dX4_numbersOf_90 (by decide) ?_
                  exact retI C wd h dX4_numbersOf_91
                · skip
                  have h := h.2.2.2.2.2.2.2.2 c1 c2 c3 c4 c5 c6 c7 c8
                  refine lv_tableD (tgt := 94) C dX4_numbersOf_1 ?_ (by decide) ?_
                  · by_cases a1 : x0.toInt < 103
                    · exact Or.inl a1
                    by_cases a2 : 120 < x0.toInt
                    · exact Or.inr (Or.inl a2)
                    have b0 : x0.toInt ≠ 103 := fun q => c1 (Int32.toInt_inj.mp q)
                    have b1 : x0.toInt ≠ 108 := fun q => c2 (Int32.toInt_inj.mp q)
                    have b2 : x0.toInt ≠ 111 := fun q => c3 (Int32.toInt_inj.mp q)
                    have b3 : x0.toInt ≠ 114 := fun q => c4 (Int32.toInt_inj.mp q)
                    have b4 : x0.toInt ≠ 115 := fun q => c5 (Int32.toInt_inj.mp q)
                    have b5 : x0.toInt ≠ 117 := fun q => c6 (Int32.toInt_inj.mp q)
                    have b6 : x0.toInt ≠ 119 := fun q => c7 (Int32.toInt_inj.mp q)
                    have b7 : x0.toInt ≠ 120 := fun q => c8 (Int32.toInt_inj.mp q)
                    have b : x0.toInt = 104 ∨ x0.toInt = 105 ∨ x0.toInt = 106 ∨ x0.toInt = 107 ∨ x0.toInt = 109 ∨ x0.toInt = 110 ∨ x0.toInt = 112 ∨ x0.toInt = 113 ∨ x0.toInt = 116 ∨ x0.toInt = 118 := by omega
                    rcases b with b | b | b | b | b | b | b | b | b | b <;> rw [b] <;> exact Or.inr (Or.inr rfl)
                  · refine lv_iconst (v := (-1 : Int32)) hx hb dX4_numbersOf_94 (by decide) ?_
                    exact retI C wd h dX4_numbersOf_95
abbrev rmX4_isFigure : Room := rmOf 0 0
def wpX4_isFigure (x0 : Int32) (σ : St) (Φ : Int32 → St → Prop) : Prop :=
  ((x0 < (48 : Int32) → Φ (0 : Int32) σ) ∧ (¬ x0 < (48 : Int32) → (((57 : Int32) < x0 → Φ (0 : Int32) σ) ∧ (¬ (57 : Int32) < x0 → Φ (1 : Int32) σ))))
set_option maxHeartbeats 4000000 in
set_option maxRecDepth 100000 in
theorem cmX4_isFigure {D : va_G} {cyI cyO : ClassId} {ad : Nat → Nat} {n : Nat} {l : Launch} {x0 : Int32} {σ : St} {sz : Nat} {Φ : Int32 → St → Prop} (h : wpX4_isFigure x0 σ Φ) : gMet D (tyL cyI cyO) (cCell ad cyI cyO) ad n l yX4_isFigure cX4_isFigure 1 (some .boolean) rmX4_isFigure [.int x0] σ sz (gQi D (cCell ad cyI cyO) ad n sz Φ) := by
  refine gMet.of (by decide) (Nat.le_of_ble_eq_true rfl) ?_
  intro p e s m below meth c ls hsz C hl wd
  subst hsz
  have C : Cx p s m _ meth c cX4_isFigure 1 (some .boolean) RX4 := C
  obtain ⟨hx, hb, hr, hml, hown, hts, hlk⟩ := id C
  have hl : lv_has ls 1 [(0, .int x0)] := hl
  unfold wpX4_isFigure at h
  refine lv_iload_n hx hb dX4_isFigure_0 rfl (lv_at hl 0 rfl) ?_
  refine lv_bipush (v := (48 : Int32)) hx hb dX4_isFigure_1 (by decide) ?_
  refine lv_icmp_lt (tgt := 16) hx hb dX4_isFigure_3 (by decide) (fun c1 => ?_) (fun c1 => ?_)
  · have h := h.1 c1
    refine lv_iconst (v := (0 : Int32)) hx hb dX4_isFigure_16 (by decide) ?_
    exact retZ C wd rfl h dX4_isFigure_17
  · have h := h.2 c1
    refine lv_iload_n hx hb dX4_isFigure_6 rfl (lv_at hl 0 rfl) ?_
    refine lv_bipush (v := (57 : Int32)) hx hb dX4_isFigure_7 (by decide) ?_
    refine lv_icmp_gt (tgt := 16) hx hb dX4_isFigure_9 (by decide) (fun c2 => ?_) (fun c2 => ?_)
    · have h := h.1 c2
      refine lv_iconst (v := (0 : Int32)) hx hb dX4_isFigure_16 (by decide) ?_
      exact retZ C wd rfl h dX4_isFigure_17
    · have h := h.2 c2
      refine lv_iconst (v := (1 : Int32)) hx hb dX4_isFigure_12 (by decide) ?_
      refine lv_goto (tgt := 17) hx hb dX4_isFigure_13 (by decide) ?_
      exact retZ C wd rfl h dX4_isFigure_17
abbrev rmX9_within : Room := rmOf 0 0
def wpX9_within (x0 : Int32) (x1 : Int32) (x2 : Int32) (σ : St) (Φ : Int32 → St → Prop) : Prop :=
  ((x0 < x1 → Φ (0 : Int32) σ) ∧ (¬ x0 < x1 → ((x2 < x0 → Φ (0 : Int32) σ) ∧ (¬ x2 < x0 → Φ (1 : Int32) σ))))
set_option maxHeartbeats 4000000 in
set_option maxRecDepth 100000 in
theorem cmX9_within {D : va_G} {cyI cyO : ClassId} {ad : Nat → Nat} {n : Nat} {l : Launch} {x0 : Int32} {x1 : Int32} {x2 : Int32} {σ : St} {sz : Nat} {Φ : Int32 → St → Prop} (h : wpX9_within x0 x1 x2 σ Φ) : gMet D (tyL cyI cyO) (cCell ad cyI cyO) ad n l yX9_within cX9_within 3 (some .boolean) rmX9_within [.int x0, .int x1, .int x2] σ sz (gQi D (cCell ad cyI cyO) ad n sz Φ) := by
  refine gMet.of (by decide) (Nat.le_of_ble_eq_true rfl) ?_
  intro p e s m below meth c ls hsz C hl wd
  subst hsz
  have C : Cx p s m _ meth c cX9_within 3 (some .boolean) RX9 := C
  obtain ⟨hx, hb, hr, hml, hown, hts, hlk⟩ := id C
  have hl : lv_has ls 3 [(0, .int x0), (1, .int x1), (2, .int x2)] := hl
  unfold wpX9_within at h
  refine lv_iload_n hx hb dX9_within_0 rfl (lv_at hl 0 rfl) ?_
  refine lv_iload_n hx hb dX9_within_1 rfl (lv_at hl 1 rfl) ?_
  refine lv_icmp_lt (tgt := 14) hx hb dX9_within_2 (by decide) (fun c1 => ?_) (fun c1 => ?_)
  · have h := h.1 c1
    refine lv_iconst (v := (0 : Int32)) hx hb dX9_within_14 (by decide) ?_
    exact retZ C wd rfl h dX9_within_15
  · have h := h.2 c1
    refine lv_iload_n hx hb dX9_within_5 rfl (lv_at hl 0 rfl) ?_
    refine lv_iload_n hx hb dX9_within_6 rfl (lv_at hl 2 rfl) ?_
    refine lv_icmp_gt (tgt := 14) hx hb dX9_within_7 (by decide) (fun c2 => ?_) (fun c2 => ?_)
    · have h := h.1 c2
      refine lv_iconst (v := (0 : Int32)) hx hb dX9_within_14 (by decide) ?_
      exact retZ C wd rfl h dX9_within_15
    · have h := h.2 c2
      refine lv_iconst (v := (1 : Int32)) hx hb dX9_within_10 (by decide) ?_
      refine lv_goto (tgt := 15) hx hb dX9_within_11 (by decide) ?_
      exact retZ C wd rfl h dX9_within_15
abbrev rmX4_readNumber : Room := rmOf 3 64
def wbX4_readNumber_125 (Φ : Int32 → St → Prop) (x4 : Int32) (x5 : Int32) (z0 : Int32) (σ : St) : Prop :=
  ((z0 = 0 → (∀ t2 : St, t2 = setI σ 1858 x4 → Φ x5 t2)) ∧ (¬ z0 = 0 → Φ x5 σ))
set_option maxHeartbeats 4000000 in
set_option maxRecDepth 100000 in
theorem blX4_readNumber_125 {p : Program} {l : Launch} {e : Env} {s : State} {m : MethodId} {args : Array Value} {below : List Frame} {meth : Method} {c : Code} (hn : 60 ≤ n) (C : Cx p s m args meth c cX4_readNumber 8 (some .int) RX4) {Φ : Int32 → St → Prop} {x4 : Int32} {x5 : Int32} {z0 : Int32} {σ : St} {H : Heap} {locs : List Loc} {ls : Array Slot} (h : wbX4_readNumber_125 Φ x4 x5 z0 σ) (wd : gWd D (tyL cyI cyO) (cCell ad cyI cyO) ad n s H locs σ) (hl : lv_has ls 8 [(0, .ref (ad 58)), (4, .int x4), (5, .int x5)]) : W p l e rmX4_readNumber s m args below meth c H locs 0 0 (MQ below (gQi D (cCell ad cyI cyO) ad n s.heap.size Φ) args s 0 0 (gA ad n s.heap.size)) (F0 m 125 ls [.int z0]) := by
  obtain ⟨hx, hb, hr, hml, hown, hts, hlk⟩ := id C
  unfold wbX4_readNumber_125 at h
  refine lv_istore (lv' := [(7, .int z0), (0, .ref (ad 58)), (4, .int x4), (5, .int x5)]) hx hb dX4_readNumber_125 hl (by decide) rfl (fun ls hl => ?_)
  refine lv_iload hx hb dX4_readNumber_127 (lv_at hl 0 rfl) ?_
  refine lv_if_ne (tgt := 138) hx hb dX4_readNumber_129 (by decide) (fun c1 => ?_) (fun c1 => ?_)
  · have h := h.2 c1
    refine lv_iload hx hb dX4_readNumber_138 (lv_at hl 3 rfl) ?_
    exact retI C wd h dX4_readNumber_140
  · have h := h.1 c1
    refine lv_aload_n hx hb dX4_readNumber_132 rfl (lv_at hl 1 rfl) ?_
    refine lv_iload hx hb dX4_readNumber_133 (lv_at hl 2 rfl) ?_
    refine putF C wd (k := 58) (Cn := RX4) (T := TX4) (N := 6) (σ' := setI σ 1858 x4) (by omega) cc_X4 rfl tyX4_ok nmX4 2 (by decide) rfl (by decide +kernel) (Nat.le_of_ble_eq_true rfl) inX4 tw2_3 cs_X4_fault dX4_readNumber_135 (fun H locs wd => ?_)
    obtain ⟨t2, et2⟩ : ∃ z : St, z = setI σ 1858 x4 := ⟨_, rfl⟩
    rw [← et2] at wd
    have h := h t2 et2
    refine lv_iload hx hb dX4_readNumber_138 (lv_at hl 3 rfl) ?_
    exact retI C wd h dX4_readNumber_140
def wbX4_readNumber_124 (Φ : Int32 → St → Prop) (x4 : Int32) (x5 : Int32) (σ : St) : Prop :=
  wbX4_readNumber_125 Φ x4 x5 (0 : Int32) σ
set_option maxHeartbeats 4000000 in
set_option maxRecDepth 100000 in
theorem blX4_readNumber_124 {p : Program} {l : Launch} {e : Env} {s : State} {m : MethodId} {args : Array Value} {below : List Frame} {meth : Method} {c : Code} (hn : 60 ≤ n) (C : Cx p s m args meth c cX4_readNumber 8 (some .int) RX4) {Φ : Int32 → St → Prop} {x4 : Int32} {x5 : Int32} {σ : St} {H : Heap} {locs : List Loc} {ls : Array Slot} (h : wbX4_readNumber_124 Φ x4 x5 σ) (wd : gWd D (tyL cyI cyO) (cCell ad cyI cyO) ad n s H locs σ) (hl : lv_has ls 8 [(0, .ref (ad 58)), (4, .int x4), (5, .int x5)]) : W p l e rmX4_readNumber s m args below meth c H locs 0 0 (MQ below (gQi D (cCell ad cyI cyO) ad n s.heap.size Φ) args s 0 0 (gA ad n s.heap.size)) (F0 m 124 ls []) := by
  obtain ⟨hx, hb, hr, hml, hown, hts, hlk⟩ := id C
  unfold wbX4_readNumber_124 at h
  refine lv_iconst (v := (0 : Int32)) hx hb dX4_readNumber_124 (by decide) ?_
  exact blX4_readNumber_125 hn C h wd (lv_sub hl [0, 1, 2] rfl)
def wbX4_readNumber_89 (Φ : Int32 → St → Prop) (x2 : Int32) (x3 : Int32) (x4 : Int32) (x5 : Int32) (σ : St) : Prop :=
  (∀ y1 : Int32, y1 = (σ.1 1857) - x4 → wpX9_within y1 (1 : Int32) (3 : Int32) σ (fun r3 t2 => ((r3 = 0 → wbX4_readNumber_124 Φ x4 x5 t2) ∧ (¬ r3 = 0 → ((x2 < x5 → wbX4_readNumber_124 Φ x4 x5 t2) ∧ (¬ x2 < x5 → ((x5 = x3 → wbX4_readNumber_124 Φ x4 x5 t2) ∧ (¬ x5 = x3 → wbX4_readNumber_125 Φ x4 x5 (1 : Int32) t2))))))))
set_option maxHeartbeats 4000000 in
set_option maxRecDepth 100000 in
theorem blX4_readNumber_89 {p : Program} {l : Launch} {e : Env} {s : State} {m : MethodId} {args : Array Value} {below : List Frame} {meth : Method} {c : Code} (hn : 60 ≤ n) (C : Cx p s m args meth c cX4_readNumber 8 (some .int) RX4) {Φ : Int32 → St → Prop} {x2 : Int32} {x3 : Int32} {x4 : Int32} {x5 : Int32} {σ : St} {H : Heap} {locs : List Loc} {ls : Array Slot} (h : wbX4_readNumber_89 Φ x2 x3 x4 x5 σ) (wd : gWd D (tyL cyI cyO) (cCell ad cyI cyO) ad n s H locs σ) (hl : lv_has ls 8 [(0, .ref (ad 58)), (2, .int x2), (3, .int x3), (4, .int x4), (5, .int x5)]) : W p l e rmX4_readNumber s m args below meth c H locs 0 0 (MQ below (gQi D (cCell ad cyI cyO) ad n s.heap.size Φ) args s 0 0 (gA ad n s.heap.size)) (F0 m 89 ls []) := by
  obtain ⟨hx, hb, hr, hml, hown, hts, hlk⟩ := id C
  unfold wbX4_readNumber_89 at h
  refine lv_aload_n hx hb dX4_readNumber_89 rfl (lv_at hl 0 rfl) ?_
  refine getF C wd (k := 58) (Cn := RX4) (T := TX4) (N := 6) (v := .int (σ.1 1857)) (by omega) cc_X4 rfl 1 (by decide) rfl inX4 tw2_2 dX4_readNumber_90 ?_
  refine lv_iload hx hb dX4_readNumber_93 (lv_at hl 3 rfl) ?_
  refine lv_isub hx hb dX4_readNumber_95 ?_
  refine lv_topi (fun y1 ey1 => ?_)
  have h := h y1 ey1
  refine lv_istore (lv' := [(6, .int y1), (0, .ref (ad 58)), (2, .int x2), (3, .int x3), (4, .int x4), (5, .int x5)]) hx hb dX4_readNumber_96 hl (by decide) rfl (fun ls hl => ?_)
  refine lv_iload hx hb dX4_readNumber_98 (lv_at hl 0 rfl) ?_
  refine lv_iconst (v := (1 : Int32)) hx hb dX4_readNumber_100 (by decide) ?_
  refine lv_iconst (v := (3 : Int32)) hx hb dX4_readNumber_101 (by decide) ?_
  refine gCi wd (gRunSN (y := yX9_within) (As := [.int y1, .int (1 : Int32), .int (3 : Int32)]) (rest := []) C wd (cmX9_within h) ⟨rfl, rfl⟩ gc_X9_within ns_60 tw1_1 tw2_60 nk_X9_within ⟨Nat.le_of_ble_eq_true rfl, Nat.le_of_ble_eq_true rfl⟩ hl.1 (Nat.le_of_ble_eq_true rfl) dX4_readNumber_102 rfl) (fun r3 t2 H locs h wd => ?_)
  try dsimp only at h
  refine lv_if_eq (tgt := 124) hx hb dX4_readNumber_105 (by decide) (fun c4 => ?_) (fun c4 => ?_)
  · have h := h.1 c4
    exact blX4_readNumber_124 hn C h wd (lv_sub hl [1, 4, 5] rfl)
  · have h := h.2 c4
    refine lv_iload hx hb dX4_readNumber_108 (lv_at hl 5 rfl) ?_
    refine lv_iload_n hx hb dX4_readNumber_110 rfl (lv_at hl 2 rfl) ?_
    refine lv_icmp_gt (tgt := 124) hx hb dX4_readNumber_111 (by decide) (fun c5 => ?_) (fun c5 => ?_)
    · have h := h.1 c5
      exact blX4_readNumber_124 hn C h wd (lv_sub hl [1, 4, 5] rfl)
    · have h := h.2 c5
      refine lv_iload hx hb dX4_readNumber_114 (lv_at hl 5 rfl) ?_
      refine lv_iload_n hx hb dX4_readNumber_116 rfl (lv_at hl 3 rfl) ?_
      refine lv_icmp_eq (tgt := 124) hx hb dX4_readNumber_117 (by decide) (fun c6 => ?_) (fun c6 => ?_)
      · have h := h.1 c6
        exact blX4_readNumber_124 hn C h wd (lv_sub hl [1, 4, 5] rfl)
      · have h := h.2 c6
        refine lv_iconst (v := (1 : Int32)) hx hb dX4_readNumber_120 (by decide) ?_
        refine lv_goto (tgt := 125) hx hb dX4_readNumber_121 (by decide) ?_
        exact blX4_readNumber_125 hn C h wd (lv_sub hl [1, 4, 5] rfl)
def wbX4_readNumber_75 (Φ : Int32 → St → Prop) (k_28 : Int32 → Int32 → Int32 → Int32 → Int32 → St → Prop) (x2 : Int32) (x3 : Int32) (x4 : Int32) (x5 : Int32) (x6 : Int32) (σ : St) : Prop :=
  (∀ t1 : St, t1 = setI σ 1857 (x6 + (1 : Int32)) → (∀ y2 : Int32, y2 = x6 + (1 : Int32) → k_28 x2 x3 x4 x5 y2 t1))
set_option maxHeartbeats 4000000 in
set_option maxRecDepth 100000 in
theorem blX4_readNumber_75 {p : Program} {l : Launch} {e : Env} {s : State} {m : MethodId} {args : Array Value} {below : List Frame} {meth : Method} {c : Code} (hn : 60 ≤ n) (C : Cx p s m args meth c cX4_readNumber 8 (some .int) RX4) {Φ : Int32 → St → Prop} {k_28 : Int32 → Int32 → Int32 → Int32 → Int32 → St → Prop} (hk_28 : ∀ (x2 : Int32) (x3 : Int32) (x4 : Int32) (x5 : Int32) (x6 : Int32) (σ : St) (H : Heap) (locs : List Loc) (ls : Array Slot), k_28 x2 x3 x4 x5 x6 σ → gWd D (tyL cyI cyO) (cCell ad cyI cyO) ad n s H locs σ → lv_has ls 8 [(0, .ref (ad 58)), (1, .ref (ad 57)), (2, .int x2), (3, .int x3), (4, .int x4), (5, .int x5), (6, .int x6)] → W p l e rmX4_readNumber s m args below meth c H locs 0 0 (MQ below (gQi D (cCell ad cyI cyO) ad n s.heap.size Φ) args s 0 0 (gA ad n s.heap.size)) (F0 m 28 ls [])) {x2 : Int32} {x3 : Int32} {x4 : Int32} {x5 : Int32} {x6 : Int32} {σ : St} {H : Heap} {locs : List Loc} {ls : Array Slot} (h : wbX4_readNumber_75 Φ k_28 x2 x3 x4 x5 x6 σ) (wd : gWd D (tyL cyI cyO) (cCell ad cyI cyO) ad n s H locs σ) (hl : lv_has ls 8 [(0, .ref (ad 58)), (1, .ref (ad 57)), (2, .int x2), (3, .int x3), (4, .int x4), (5, .int x5), (6, .int x6)]) : W p l e rmX4_readNumber s m args below meth c H locs 0 0 (MQ below (gQi D (cCell ad cyI cyO) ad n s.heap.size Φ) args s 0 0 (gA ad n s.heap.size)) (F0 m 75 ls []) := by
  obtain ⟨hx, hb, hr, hml, hown, hts, hlk⟩ := id C
  unfold wbX4_readNumber_75 at h
  refine lv_aload_n hx hb dX4_readNumber_75 rfl (lv_at hl 0 rfl) ?_
  refine lv_iload hx hb dX4_readNumber_76 (lv_at hl 6 rfl) ?_
  refine lv_iconst (v := (1 : Int32)) hx hb dX4_readNumber_78 (by decide) ?_
  refine lv_iadd hx hb dX4_readNumber_79 ?_
  refine putF C wd (k := 58) (Cn := RX4) (T := TX4) (N := 6) (σ' := setI σ 1857 (x6 + (1 : Int32))) (by omega) cc_X4 rfl tyX4_ok nmX4 1 (by decide) rfl (by decide +kernel) (Nat.le_of_ble_eq_true rfl) inX4 tw2_2 cs_X4_place dX4_readNumber_80 (fun H locs wd => ?_)
  obtain ⟨t1, et1⟩ : ∃ z : St, z = setI σ 1857 (x6 + (1 : Int32)) := ⟨_, rfl⟩
  rw [← et1] at wd
  have h := h t1 et1
  obtain ⟨y2, ey2⟩ : ∃ y : Int32, y = x6 + (1 : Int32) := ⟨_, rfl⟩
  refine lv_iinc (v := y2) (lv' := [(6, .int y2), (0, .ref (ad 58)), (1, .ref (ad 57)), (2, .int x2), (3, .int x3), (4, .int x4), (5, .int x5)]) hx hb dX4_readNumber_83 hl (k := 6) rfl (by rw [ey2]; rfl) (by decide) rfl (fun ls hl => ?_)
  have h := h y2 ey2
  refine lv_goto (tgt := 28) hx hb dX4_readNumber_86 (by decide) ?_
  exact hk_28 _ _ _ _ _ _ _ _ _ h wd (lv_sub hl [1, 2, 3, 4, 5, 6, 0] rfl)
def wlX4_readNumber_28_body (Φ : Int32 → St → Prop) (k_28 : Int32 → Int32 → Int32 → Int32 → Int32 → St → Prop) (x2 : Int32) (x3 : Int32) (x4 : Int32) (x5 : Int32) (x6 : Int32) (σ : St) : Prop :=
  (((σ.1 1824) ≤ x6 → wbX4_readNumber_89 Φ x2 x3 x4 x5 σ) ∧ (¬ (σ.1 1824) ≤ x6 → wpX8_byteAt x6 σ (fun r3 t2 => wpX4_isFigure r3 t2 (fun r5 t4 => ((r5 = 0 → wbX4_readNumber_89 Φ x2 x3 x4 x5 t4) ∧ (¬ r5 = 0 → (((3 : Int32) ≤ (x6 - x4) → wbX4_readNumber_75 Φ k_28 x2 x3 x4 x5 x6 t4) ∧ (¬ (3 : Int32) ≤ (x6 - x4) → wpX8_byteAt x6 t4 (fun r9 t8 => (∀ y10 : Int32, y10 = ((x5 * (10 : Int32)) + r9) - (48 : Int32) → wbX4_readNumber_75 Φ k_28 x2 x3 x4 y10 x6 t8))))))))))
def wlX4_readNumber_28 (Φ : Int32 → St → Prop) : Nat → Int32 → Int32 → Int32 → Int32 → Int32 → St → Prop
  | 0 => fun _ _ _ _ _ _ => False
  | N + 1 => fun x2 x3 x4 x5 x6 σ => wlX4_readNumber_28_body Φ (wlX4_readNumber_28 Φ N) x2 x3 x4 x5 x6 σ
set_option maxHeartbeats 4000000 in
set_option maxRecDepth 100000 in
theorem llX4_readNumber_28 {p : Program} {l : Launch} {e : Env} {s : State} {m : MethodId} {args : Array Value} {below : List Frame} {meth : Method} {c : Code} (hn : 60 ≤ n) (C : Cx p s m args meth c cX4_readNumber 8 (some .int) RX4) {Φ : Int32 → St → Prop} : ∀ (N : Nat) (x2 : Int32) (x3 : Int32) (x4 : Int32) (x5 : Int32) (x6 : Int32) (σ : St) (H : Heap) (locs : List Loc) (ls : Array Slot), wlX4_readNumber_28 Φ N x2 x3 x4 x5 x6 σ → gWd D (tyL cyI cyO) (cCell ad cyI cyO) ad n s H locs σ → lv_has ls 8 [(0, .ref (ad 58)), (1, .ref (ad 57)), (2, .int x2), (3, .int x3), (4, .int x4), (5, .int x5), (6, .int x6)] → W p l e rmX4_readNumber s m args below meth c H locs 0 0 (MQ below (gQi D (cCell ad cyI cyO) ad n s.heap.size Φ) args s 0 0 (gA ad n s.heap.size)) (F0 m 28 ls []) := by
  obtain ⟨hx, hb, hr, hml, hown, hts, hlk⟩ := id C
  intro N
  induction N with
  | zero =>
    intro x2 x3 x4 x5 x6 σ H locs ls h
    exact False.elim h
  | succ N ih =>
    intro x2 x3 x4 x5 x6 σ H locs ls h wd hl
    have h : wlX4_readNumber_28_body Φ (wlX4_readNumber_28 Φ N) x2 x3 x4 x5 x6 σ := h
    have hk_28 := ih
    unfold wlX4_readNumber_28_body at h
    refine lv_iload hx hb dX4_readNumber_28 (lv_at hl 6 rfl) ?_
    refine lv_aload_n hx hb dX4_readNumber_30 rfl (lv_at hl 1 rfl) ?_
    refine getN C wd (k := 57) (Cn := RX8) (T := TX8) (N := 2) (v := .int (σ.1 1824)) (by omega) cc_X8 rfl 0 (by decide) rfl inX8 ns_36 dX4_readNumber_31 ?_
    refine lv_icmp_ge (tgt := 89) hx hb dX4_readNumber_34 (by decide) (fun c1 => ?_) (fun c1 => ?_)
    · have h := h.1 c1
      exact blX4_readNumber_89 hn C h wd (lv_sub hl [0, 2, 3, 4, 5] rfl)
    · have h := h.2 c1
      refine lv_aload_n hx hb dX4_readNumber_37 rfl (lv_at hl 1 rfl) ?_
      refine lv_iload hx hb dX4_readNumber_38 (lv_at hl 6 rfl) ?_
      refine gCi wd (gRunV (y := yX8_byteAt) (k := 57) (As := [.int x6]) (rest := []) C wd (cmX8_byteAt (by omega) h) ⟨rfl, rfl⟩ gd_X4_44 nk_X8_byteAt ⟨Nat.le_of_ble_eq_true rfl, Nat.le_of_ble_eq_true rfl⟩ (by omega) cc_X8 rfl rfl hl.1 (Nat.le_of_ble_eq_true rfl) dX4_readNumber_40 rfl) (fun r3 t2 H locs h wd => ?_)
      try dsimp only at h
      refine gCi wd (gRunS (y := yX4_isFigure) (As := [.int r3]) (rest := []) C wd (cmX4_isFigure h) ⟨rfl, rfl⟩ gd_X4_66 nk_X4_isFigure ⟨Nat.le_of_ble_eq_true rfl, Nat.le_of_ble_eq_true rfl⟩ hl.1 (Nat.le_of_ble_eq_true rfl) dX4_readNumber_43 rfl) (fun r5 t4 H locs h wd => ?_)
      try dsimp only at h
      refine lv_if_eq (tgt := 89) hx hb dX4_readNumber_46 (by decide) (fun c6 => ?_) (fun c6 => ?_)
      · have h := h.1 c6
        exact blX4_readNumber_89 hn C h wd (lv_sub hl [0, 2, 3, 4, 5] rfl)
      · have h := h.2 c6
        refine lv_iload hx hb dX4_readNumber_49 (lv_at hl 6 rfl) ?_
        refine lv_iload hx hb dX4_readNumber_51 (lv_at hl 4 rfl) ?_
        refine lv_isub hx hb dX4_readNumber_53 ?_
        refine lv_iconst (v := (3 : Int32)) hx hb dX4_readNumber_54 (by decide) ?_
        refine lv_icmp_ge (tgt := 75) hx hb dX4_readNumber_55 (by decide) (fun c7 => ?_) (fun c7 => ?_)
        · have h := h.1 c7
          exact blX4_readNumber_75 hn C hk_28 h wd (lv_sub hl [0, 1, 2, 3, 4, 5, 6] rfl)
        · have h := h.2 c7
          refine lv_iload hx hb dX4_readNumber_58 (lv_at hl 5 rfl) ?_
          refine lv_bipush (v := (10 : Int32)) hx hb dX4_readNumber_60 (by decide) ?_
          refine lv_imul hx hb dX4_readNumber_62 ?_
          refine lv_aload_n hx hb dX4_readNumber_63 rfl (lv_at hl 1 rfl) ?_
          refine lv_iload hx hb dX4_readNumber_64 (lv_at hl 6 rfl) ?_
          refine gCi wd (gRunV (y := yX8_byteAt) (k := 57) (As := [.int x6]) (rest := [.int (x5 * (10 : Int32))]) C wd (cmX8_byteAt (by omega) h) ⟨rfl, rfl⟩ gd_X4_44 nk_X8_byteAt ⟨Nat.le_of_ble_eq_true rfl, Nat.le_of_ble_eq_true rfl⟩ (by omega) cc_X8 rfl rfl hl.1 (Nat.le_of_ble_eq_true rfl) dX4_readNumber_66 rfl) (fun r9 t8 H locs h wd => ?_)
          try dsimp only at h
          refine lv_iadd hx hb dX4_readNumber_69 ?_
          refine lv_bipush (v := (48 : Int32)) hx hb dX4_readNumber_70 (by decide) ?_
          refine lv_isub hx hb dX4_readNumber_72 ?_
          refine lv_topi (fun y10 ey10 => ?_)
          have h := h y10 ey10
          refine lv_istore (lv' := [(5, .int y10), (0, .ref (ad 58)), (1, .ref (ad 57)), (2, .int x2), (3, .int x3), (4, .int x4), (6, .int x6)]) hx hb dX4_readNumber_73 hl (by decide) rfl (fun ls hl => ?_)
          exact blX4_readNumber_75 hn C hk_28 h wd (lv_sub hl [1, 2, 3, 4, 5, 0, 6] rfl)
def wpX4_readNumber (x2 : Int32) (x3 : Int32) (σ : St) (Φ : Int32 → St → Prop) : Prop :=
  (((σ.1 1858) = (-1 : Int32) → wpX4_skipBlanks σ (fun t2 => (∀ y3 : Int32, y3 = t2.1 1857 → (∃ N, wlX4_readNumber_28 Φ N x2 x3 y3 (0 : Int32) y3 t2)))) ∧ (¬ (σ.1 1858) = (-1 : Int32) → Φ (0 : Int32) σ))
set_option maxHeartbeats 4000000 in
set_option maxRecDepth 100000 in
theorem cmX4_readNumber {D : va_G} {cyI cyO : ClassId} {ad : Nat → Nat} {n : Nat} {l : Launch} (hn : 60 ≤ n) {x2 : Int32} {x3 : Int32} {σ : St} {sz : Nat} {Φ : Int32 → St → Prop} (h : wpX4_readNumber x2 x3 σ Φ) : gMet D (tyL cyI cyO) (cCell ad cyI cyO) ad n l yX4_readNumber cX4_readNumber 8 (some .int) rmX4_readNumber [.ref (ad 58), .ref (ad 57), .int x2, .int x3] σ sz (gQi D (cCell ad cyI cyO) ad n sz Φ) := by
  refine gMet.of (by decide) (Nat.le_of_ble_eq_true rfl) ?_
  intro p e s m below meth c ls hsz C hl wd
  subst hsz
  have C : Cx p s m _ meth c cX4_readNumber 8 (some .int) RX4 := C
  obtain ⟨hx, hb, hr, hml, hown, hts, hlk⟩ := id C
  have hl : lv_has ls 8 [(0, .ref (ad 58)), (1, .ref (ad 57)), (2, .int x2), (3, .int x3)] := hl
  unfold wpX4_readNumber at h
  refine lv_aload_n hx hb dX4_readNumber_0 rfl (lv_at hl 0 rfl) ?_
  refine getF C wd (k := 58) (Cn := RX4) (T := TX4) (N := 6) (v := .int (σ.1 1858)) (by omega) cc_X4 rfl 2 (by decide) rfl inX4 tw2_3 dX4_readNumber_1 ?_
  refine lv_iconst (v := (-1 : Int32)) hx hb dX4_readNumber_4 (by decide) ?_
  refine lv_icmp_eq (tgt := 10) hx hb dX4_readNumber_5 (by decide) (fun c1 => ?_) (fun c1 => ?_)
  · have h := h.1 c1
    refine lv_aload_n hx hb dX4_readNumber_10 rfl (lv_at hl 0 rfl) ?_
    refine lv_aload_n hx hb dX4_readNumber_11 rfl (lv_at hl 1 rfl) ?_
    refine gCv wd (gRunV (y := yX4_skipBlanks) (k := 58) (As := [.ref (ad 57)]) (rest := []) C wd (cmX4_skipBlanks (by omega) h) ⟨rfl, rfl⟩ gd_X4_35 nk_X4_skipBlanks ⟨Nat.le_of_ble_eq_true rfl, Nat.le_of_ble_eq_true rfl⟩ (by omega) cc_X4 rfl rfl hl.1 (Nat.le_of_ble_eq_true rfl) dX4_readNumber_12 rfl) (fun t2 H locs h wd => ?_)
    try dsimp only at h
    refine lv_aload_n hx hb dX4_readNumber_15 rfl (lv_at hl 0 rfl) ?_
    refine getF C wd (k := 58) (Cn := RX4) (T := TX4) (N := 6) (v := .int (t2.1 1857)) (by omega) cc_X4 rfl 1 (by decide) rfl inX4 tw2_2 dX4_readNumber_16 ?_
    refine lv_topi (fun y3 ey3 => ?_)
    have h := h y3 ey3
    refine lv_istore (lv' := [(4, .int y3), (0, .ref (ad 58)), (1, .ref (ad 57)), (2, .int x2), (3, .int x3)]) hx hb dX4_readNumber_19 hl (by decide) rfl (fun ls hl => ?_)
    refine lv_iconst (v := (0 : Int32)) hx hb dX4_readNumber_21 (by decide) ?_
    refine lv_istore (lv' := [(5, .int (0 : Int32)), (4, .int y3), (0, .ref (ad 58)), (1, .ref (ad 57)), (2, .int x2), (3, .int x3)]) hx hb dX4_readNumber_22 hl (by decide) rfl (fun ls hl => ?_)
    refine lv_iload hx hb dX4_readNumber_24 (lv_at hl 1 rfl) ?_
    refine lv_istore (lv' := [(6, .int y3), (5, .int (0 : Int32)), (4, .int y3), (0, .ref (ad 58)), (1, .ref (ad 57)), (2, .int x2), (3, .int x3)]) hx hb dX4_readNumber_26 hl (by decide) rfl (fun ls hl => ?_)
    obtain ⟨N, h⟩ := h
    exact llX4_readNumber_28 hn C N _ _ _ _ _ _ _ _ _ h wd (lv_sub hl [3, 4, 5, 6, 2, 1, 0] rfl)
  · have h := h.2 c1
    refine lv_iconst (v := (0 : Int32)) hx hb dX4_readNumber_8 (by decide) ?_
    exact retI C wd h dX4_readNumber_9
abbrev rmX4_mostSecond : Room := rmOf 0 0
def wpX4_mostSecond (x0 : Int32) (x1 : Int32) (σ : St) (Φ : Int32 → St → Prop) : Prop :=
  ((x0 = (119 : Int32) → Φ (999 : Int32) σ) ∧ (¬ x0 = (119 : Int32) → ((x0 = (103 : Int32) → Φ (99 : Int32) σ) ∧ (¬ x0 = (103 : Int32) → Φ (x1 - (1 : Int32)) σ))))
set_option maxHeartbeats 4000000 in
set_option maxRecDepth 100000 in
theorem cmX4_mostSecond {D : va_G} {cyI cyO : ClassId} {ad : Nat → Nat} {n : Nat} {l : Launch} {x0 : Int32} {x1 : Int32} {σ : St} {sz : Nat} {Φ : Int32 → St → Prop} (h : wpX4_mostSecond x0 x1 σ Φ) : gMet D (tyL cyI cyO) (cCell ad cyI cyO) ad n l yX4_mostSecond cX4_mostSecond 2 (some .int) rmX4_mostSecond [.int x0, .int x1] σ sz (gQi D (cCell ad cyI cyO) ad n sz Φ) := by
  refine gMet.of (by decide) (Nat.le_of_ble_eq_true rfl) ?_
  intro p e s m below meth c ls hsz C hl wd
  subst hsz
  have C : Cx p s m _ meth c cX4_mostSecond 2 (some .int) RX4 := C
  obtain ⟨hx, hb, hr, hml, hown, hts, hlk⟩ := id C
  have hl : lv_has ls 2 [(0, .int x0), (1, .int x1)] := hl
  unfold wpX4_mostSecond at h
  refine lv_iload_n hx hb dX4_mostSecond_0 rfl (lv_at hl 0 rfl) ?_
  refine lv_bipush (v := (119 : Int32)) hx hb dX4_mostSecond_1 (by decide) ?_
  refine lv_icmp_ne (tgt := 10) hx hb dX4_mostSecond_3 (by decide) (fun c1 => ?_) (fun c1 => ?_)
  · have h := h.2 c1
    refine lv_iload_n hx hb dX4_mostSecond_10 rfl (lv_at hl 0 rfl) ?_
    refine lv_bipush (v := (103 : Int32)) hx hb dX4_mostSecond_11 (by decide) ?_
    refine lv_icmp_ne (tgt := 21) hx hb dX4_mostSecond_13 (by decide) (fun c2 => ?_) (fun c2 => ?_)
    · have h := h.2 c2
      refine lv_iload_n hx hb dX4_mostSecond_21 rfl (lv_at hl 1 rfl) ?_
      refine lv_iconst (v := (1 : Int32)) hx hb dX4_mostSecond_22 (by decide) ?_
      refine lv_isub hx hb dX4_mostSecond_23 ?_
      exact retI C wd h dX4_mostSecond_24
    · have h := h.1 c2
      refine lv_bipush (v := (99 : Int32)) hx hb dX4_mostSecond_16 (by decide) ?_
      refine lv_goto (tgt := 24) hx hb dX4_mostSecond_18 (by decide) ?_
      exact retI C wd h dX4_mostSecond_24
  · have h := h.1 c1
    refine lv_sipush (v := (999 : Int32)) hx hb dX4_mostSecond_6 (by decide) ?_
    exact retI C wd h dX4_mostSecond_9
abbrev rmX4_readSemicolon : Room := rmOf 3 64
def wpX4_readSemicolon (σ : St) (Φ : St → Prop) : Prop :=
  (((σ.1 1858) = (-1 : Int32) → wpX4_skipBlanks σ (fun t2 => wpX8_byteAt (t2.1 1857) t2 (fun r4 t3 => ((r4 = (59 : Int32) → (∀ t7 : St, t7 = setI t3 1857 ((t3.1 1857) + (1 : Int32)) → Φ t7)) ∧ (¬ r4 = (59 : Int32) → (∀ t6 : St, t6 = setI t3 1858 (t3.1 1857) → Φ t6)))))) ∧ (¬ (σ.1 1858) = (-1 : Int32) → Φ σ))
set_option maxHeartbeats 4000000 in
set_option maxRecDepth 100000 in
theorem cmX4_readSemicolon {D : va_G} {cyI cyO : ClassId} {ad : Nat → Nat} {n : Nat} {l : Launch} (hn : 60 ≤ n) {σ : St} {sz : Nat} {Φ : St → Prop} (h : wpX4_readSemicolon σ Φ) : gMet D (tyL cyI cyO) (cCell ad cyI cyO) ad n l yX4_readSemicolon cX4_readSemicolon 2 none rmX4_readSemicolon [.ref (ad 58), .ref (ad 57)] σ sz (gQv D (cCell ad cyI cyO) ad n sz Φ) := by
  refine gMet.of (by decide) (Nat.le_of_ble_eq_true rfl) ?_
  intro p e s m below meth c ls hsz C hl wd
  subst hsz
  have C : Cx p s m _ meth c cX4_readSemicolon 2 none RX4 := C
  obtain ⟨hx, hb, hr, hml, hown, hts, hlk⟩ := id C
  have hl : lv_has ls 2 [(0, .ref (ad 58)), (1, .ref (ad 57))] := hl
  unfold wpX4_readSemicolon at h
  refine lv_aload_n hx hb dX4_readSemicolon_0 rfl (lv_at hl 0 rfl) ?_
  refine getF C wd (k := 58) (Cn := RX4) (T := TX4) (N := 6) (v := .int (σ.1 1858)) (by omega) cc_X4 rfl 2 (by decide) rfl inX4 tw2_3 dX4_readSemicolon_1 ?_
  refine lv_iconst (v := (-1 : Int32)) hx hb dX4_readSemicolon_4 (by decide) ?_
  refine lv_icmp_eq (tgt := 9) hx hb dX4_readSemicolon_5 (by decide) (fun c1 => ?_) (fun c1 => ?_)
  · have h := h.1 c1
    refine lv_aload_n hx hb dX4_readSemicolon_9 rfl (lv_at hl 0 rfl) ?_
    refine lv_aload_n hx hb dX4_readSemicolon_10 rfl (lv_at hl 1 rfl) ?_
    refine gCv wd (gRunV (y := yX4_skipBlanks) (k := 58) (As := [.ref (ad 57)]) (rest := []) C wd (cmX4_skipBlanks (by omega) h) ⟨rfl, rfl⟩ gd_X4_35 nk_X4_skipBlanks ⟨Nat.le_of_ble_eq_true rfl, Nat.le_of_ble_eq_true rfl⟩ (by omega) cc_X4 rfl rfl hl.1 (Nat.le_of_ble_eq_true rfl) dX4_readSemicolon_11 rfl) (fun t2 H locs h wd => ?_)
    try dsimp only at h
    refine lv_aload_n hx hb dX4_readSemicolon_14 rfl (lv_at hl 1 rfl) ?_
    refine lv_aload_n hx hb dX4_readSemicolon_15 rfl (lv_at hl 0 rfl) ?_
    refine getF C wd (k := 58) (Cn := RX4) (T := TX4) (N := 6) (v := .int (t2.1 1857)) (by omega) cc_X4 rfl 1 (by decide) rfl inX4 tw2_2 dX4_readSemicolon_16 ?_
    refine gCi wd (gRunV (y := yX8_byteAt) (k := 57) (As := [.int (t2.1 1857)]) (rest := []) C wd (cmX8_byteAt (by omega) h) ⟨rfl, rfl⟩ gd_X4_44 nk_X8_byteAt ⟨Nat.le_of_ble_eq_true rfl, Nat.le_of_ble_eq_true rfl⟩ (by omega) cc_X8 rfl rfl hl.1 (Nat.le_of_ble_eq_true rfl) dX4_readSemicolon_19 rfl) (fun r4 t3 H locs h wd => ?_)
    try dsimp only at h
    refine lv_bipush (v := (59 : Int32)) hx hb dX4_readSemicolon_22 (by decide) ?_
    refine lv_icmp_ne (tgt := 40) hx hb dX4_readSemicolon_24 (by decide) (fun c5 => ?_) (fun c5 => ?_)
    · have h := h.2 c5
      refine lv_aload_n hx hb dX4_readSemicolon_40 rfl (lv_at hl 0 rfl) ?_
      refine lv_aload_n hx hb dX4_readSemicolon_41 rfl (lv_at hl 0 rfl) ?_
      refine getF C wd (k := 58) (Cn := RX4) (T := TX4) (N := 6) (v := .int (t3.1 1857)) (by omega) cc_X4 rfl 1 (by decide) rfl inX4 tw2_2 dX4_readSemicolon_42 ?_
      refine putF C wd (k := 58) (Cn := RX4) (T := TX4) (N := 6) (σ' := setI t3 1858 (t3.1 1857)) (by omega) cc_X4 rfl tyX4_ok nmX4 2 (by decide) rfl (by decide +kernel) (Nat.le_of_ble_eq_true rfl) inX4 tw2_3 cs_X4_fault dX4_readSemicolon_45 (fun H locs wd => ?_)
      obtain ⟨t6, et6⟩ : ∃ z : St, z = setI t3 1858 (t3.1 1857) := ⟨_, rfl⟩
      rw [← et6] at wd
      have h := h t6 et6
      exact retV C wd h dX4_readSemicolon_48
    · have h := h.1 c5
      refine lv_aload_n hx hb dX4_readSemicolon_27 rfl (lv_at hl 0 rfl) ?_
      refine lv_dup hx hb dX4_readSemicolon_28 rfl ?_
      refine getF C wd (k := 58) (Cn := RX4) (T := TX4) (N := 6) (v := .int (t3.1 1857)) (by omega) cc_X4 rfl 1 (by decide) rfl inX4 tw2_2 dX4_readSemicolon_29 ?_
      refine lv_iconst (v := (1 : Int32)) hx hb dX4_readSemicolon_32 (by decide) ?_
      refine lv_iadd hx hb dX4_readSemicolon_33 ?_
      refine putF C wd (k := 58) (Cn := RX4) (T := TX4) (N := 6) (σ' := setI t3 1857 ((t3.1 1857) + (1 : Int32))) (by omega) cc_X4 rfl tyX4_ok nmX4 1 (by decide) rfl (by decide +kernel) (Nat.le_of_ble_eq_true rfl) inX4 tw2_2 cs_X4_place dX4_readSemicolon_34 (fun H locs wd => ?_)
      obtain ⟨t7, et7⟩ : ∃ z : St, z = setI t3 1857 ((t3.1 1857) + (1 : Int32)) := ⟨_, rfl⟩
      rw [← et7] at wd
      have h := h t7 et7
      refine lv_goto (tgt := 48) hx hb dX4_readSemicolon_37 (by decide) ?_
      exact retV C wd h dX4_readSemicolon_48
  · have h := h.2 c1
    exact retV C wd h dX4_readSemicolon_8
abbrev rmX4_readOrder : Room := rmOf 4 91
def wbX4_readOrder_97 (Φ : St → Prop) (x3 : Int32) (x5 : Int32) (z0 : Int32) (σ : St) : Prop :=
  wpX4_readSemicolon σ (fun t1 => wpX9_put 53 (t1.1 1856) x3 t1 (fun t2 => wpX9_put 54 (t2.1 1856) x5 t2 (fun t3 => wpX9_put 55 (t3.1 1856) z0 t3 (fun t4 => (∀ t5 : St, t5 = setI t4 1856 ((t4.1 1856) + (1 : Int32)) → Φ t5)))))
set_option maxHeartbeats 4000000 in
set_option maxRecDepth 100000 in
theorem blX4_readOrder_97 {p : Program} {l : Launch} {e : Env} {s : State} {m : MethodId} {args : Array Value} {below : List Frame} {meth : Method} {c : Code} (hn : 60 ≤ n) (C : Cx p s m args meth c cX4_readOrder 7 none RX4) {Φ : St → Prop} {x3 : Int32} {x5 : Int32} {z0 : Int32} {σ : St} {H : Heap} {locs : List Loc} {ls : Array Slot} (h : wbX4_readOrder_97 Φ x3 x5 z0 σ) (wd : gWd D (tyL cyI cyO) (cCell ad cyI cyO) ad n s H locs σ) (hl : lv_has ls 7 [(0, .ref (ad 58)), (1, .ref (ad 57)), (3, .int x3), (5, .int x5)]) : W p l e rmX4_readOrder s m args below meth c H locs 0 0 (MQ below (gQv D (cCell ad cyI cyO) ad n s.heap.size Φ) args s 0 0 (gA ad n s.heap.size)) (F0 m 97 ls [.int z0]) := by
  obtain ⟨hx, hb, hr, hml, hown, hts, hlk⟩ := id C
  unfold wbX4_readOrder_97 at h
  refine lv_istore (lv' := [(6, .int z0), (0, .ref (ad 58)), (1, .ref (ad 57)), (3, .int x3), (5, .int x5)]) hx hb dX4_readOrder_97 hl (by decide) rfl (fun ls hl => ?_)
  refine lv_aload_n hx hb dX4_readOrder_99 rfl (lv_at hl 1 rfl) ?_
  refine lv_aload_n hx hb dX4_readOrder_100 rfl (lv_at hl 2 rfl) ?_
  refine gCv wd (gRunV (y := yX4_readSemicolon) (k := 58) (As := [.ref (ad 57)]) (rest := []) C wd (cmX4_readSemicolon (by omega) h) ⟨rfl, rfl⟩ gd_X4_59 nk_X4_readSemicolon ⟨Nat.le_of_ble_eq_true rfl, Nat.le_of_ble_eq_true rfl⟩ (by omega) cc_X4 rfl rfl hl.1 (Nat.le_of_ble_eq_true rfl) dX4_readOrder_101 rfl) (fun t1 H locs h wd => ?_)
  try dsimp only at h
  refine lv_aload_n hx hb dX4_readOrder_104 rfl (lv_at hl 1 rfl) ?_
  refine getF C wd (k := 58) (Cn := RX4) (T := TX4) (N := 6) (v := .ref (ad 53)) (by omega) cc_X4 rfl 3 (by decide) rfl inX4 tw2_4 dX4_readOrder_105 ?_
  refine lv_aload_n hx hb dX4_readOrder_108 rfl (lv_at hl 1 rfl) ?_
  refine getF C wd (k := 58) (Cn := RX4) (T := TX4) (N := 6) (v := .int (t1.1 1856)) (by omega) cc_X4 rfl 0 (by decide) rfl inX4 tw2_0 dX4_readOrder_109 ?_
  refine lv_iload_n hx hb dX4_readOrder_112 rfl (lv_at hl 3 rfl) ?_
  refine gCv wd (gRunSN (y := yX9_put) (As := [.ref (ad 53), .int (t1.1 1856), .int x3]) (rest := []) C wd (cmX9_put (by omega) (by omega) (by omega) h) ⟨rfl, rfl⟩ gc_X9_put ns_61 tw1_1 tw1_188 nk_X9_put ⟨Nat.le_of_ble_eq_true rfl, Nat.le_of_ble_eq_true rfl⟩ hl.1 (Nat.le_of_ble_eq_true rfl) dX4_readOrder_113 rfl) (fun t2 H locs h wd => ?_)
  try dsimp only at h
  refine lv_aload_n hx hb dX4_readOrder_116 rfl (lv_at hl 1 rfl) ?_
  refine getF C wd (k := 58) (Cn := RX4) (T := TX4) (N := 6) (v := .ref (ad 54)) (by omega) cc_X4 rfl 4 (by decide) rfl inX4 tw2_6 dX4_readOrder_117 ?_
  refine lv_aload_n hx hb dX4_readOrder_120 rfl (lv_at hl 1 rfl) ?_
  refine getF C wd (k := 58) (Cn := RX4) (T := TX4) (N := 6) (v := .int (t2.1 1856)) (by omega) cc_X4 rfl 0 (by decide) rfl inX4 tw2_0 dX4_readOrder_121 ?_
  refine lv_iload hx hb dX4_readOrder_124 (lv_at hl 4 rfl) ?_
  refine gCv wd (gRunSN (y := yX9_put) (As := [.ref (ad 54), .int (t2.1 1856), .int x5]) (rest := []) C wd (cmX9_put (by omega) (by omega) (by omega) h) ⟨rfl, rfl⟩ gc_X9_put ns_61 tw1_1 tw1_188 nk_X9_put ⟨Nat.le_of_ble_eq_true rfl, Nat.le_of_ble_eq_true rfl⟩ hl.1 (Nat.le_of_ble_eq_true rfl) dX4_readOrder_126 rfl) (fun t3 H locs h wd => ?_)
  try dsimp only at h
  refine lv_aload_n hx hb dX4_readOrder_129 rfl (lv_at hl 1 rfl) ?_
  refine getF C wd (k := 58) (Cn := RX4) (T := TX4) (N := 6) (v := .ref (ad 55)) (by omega) cc_X4 rfl 5 (by decide) rfl inX4 tw2_8 dX4_readOrder_130 ?_
  refine lv_aload_n hx hb dX4_readOrder_133 rfl (lv_at hl 1 rfl) ?_
  refine getF C wd (k := 58) (Cn := RX4) (T := TX4) (N := 6) (v := .int (t3.1 1856)) (by omega) cc_X4 rfl 0 (by decide) rfl inX4 tw2_0 dX4_readOrder_134 ?_
  refine lv_iload hx hb dX4_readOrder_137 (lv_at hl 0 rfl) ?_
  refine gCv wd (gRunSN (y := yX9_put) (As := [.ref (ad 55), .int (t3.1 1856), .int z0]) (rest := []) C wd (cmX9_put (by omega) (by omega) (by omega) h) ⟨rfl, rfl⟩ gc_X9_put ns_61 tw1_1 tw1_188 nk_X9_put ⟨Nat.le_of_ble_eq_true rfl, Nat.le_of_ble_eq_true rfl⟩ hl.1 (Nat.le_of_ble_eq_true rfl) dX4_readOrder_139 rfl) (fun t4 H locs h wd => ?_)
  try dsimp only at h
  refine lv_aload_n hx hb dX4_readOrder_142 rfl (lv_at hl 1 rfl) ?_
  refine lv_dup hx hb dX4_readOrder_143 rfl ?_
  refine getF C wd (k := 58) (Cn := RX4) (T := TX4) (N := 6) (v := .int (t4.1 1856)) (by omega) cc_X4 rfl 0 (by decide) rfl inX4 tw2_0 dX4_readOrder_144 ?_
  refine lv_iconst (v := (1 : Int32)) hx hb dX4_readOrder_147 (by decide) ?_
  refine lv_iadd hx hb dX4_readOrder_148 ?_
  refine putF C wd (k := 58) (Cn := RX4) (T := TX4) (N := 6) (σ' := setI t4 1856 ((t4.1 1856) + (1 : Int32))) (by omega) cc_X4 rfl tyX4_ok nmX4 0 (by decide) rfl (by decide +kernel) (Nat.le_of_ble_eq_true rfl) inX4 tw2_0 cs_X4_count dX4_readOrder_149 (fun H locs wd => ?_)
  obtain ⟨t5, et5⟩ : ∃ z : St, z = setI t4 1856 ((t4.1 1856) + (1 : Int32)) := ⟨_, rfl⟩
  rw [← et5] at wd
  have h := h t5 et5
  exact retV C wd h dX4_readOrder_152
def wbX4_readOrder_90 (Φ : St → Prop) (x3 : Int32) (x5 : Int32) (z2 : Int32) (z3 : Int32) (σ : St) : Prop :=
  wpX4_readNumber z2 z3 σ (fun r2 t1 => wbX4_readOrder_97 Φ x3 x5 r2 t1)
set_option maxHeartbeats 4000000 in
set_option maxRecDepth 100000 in
theorem blX4_readOrder_90 {p : Program} {l : Launch} {e : Env} {s : State} {m : MethodId} {args : Array Value} {below : List Frame} {meth : Method} {c : Code} (hn : 60 ≤ n) (C : Cx p s m args meth c cX4_readOrder 7 none RX4) {Φ : St → Prop} {x3 : Int32} {x5 : Int32} {z2 : Int32} {z3 : Int32} {σ : St} {H : Heap} {locs : List Loc} {ls : Array Slot} (h : wbX4_readOrder_90 Φ x3 x5 z2 z3 σ) (wd : gWd D (tyL cyI cyO) (cCell ad cyI cyO) ad n s H locs σ) (hl : lv_has ls 7 [(0, .ref (ad 58)), (1, .ref (ad 57)), (3, .int x3), (5, .int x5)]) : W p l e rmX4_readOrder s m args below meth c H locs 0 0 (MQ below (gQv D (cCell ad cyI cyO) ad n s.heap.size Φ) args s 0 0 (gA ad n s.heap.size)) (F0 m 90 ls [.int z3, .int z2, .ref (ad 57), .ref (ad 58)]) := by
  obtain ⟨hx, hb, hr, hml, hown, hts, hlk⟩ := id C
  unfold wbX4_readOrder_90 at h
  refine gCi wd (gRunV (y := yX4_readNumber) (k := 58) (As := [.ref (ad 57), .int z2, .int z3]) (rest := []) C wd (cmX4_readNumber (by omega) h) ⟨rfl, rfl⟩ gd_X4_51 nk_X4_readNumber ⟨Nat.le_of_ble_eq_true rfl, Nat.le_of_ble_eq_true rfl⟩ (by omega) cc_X4 rfl rfl hl.1 (Nat.le_of_ble_eq_true rfl) dX4_readOrder_90 rfl) (fun r2 t1 H locs h wd => ?_)
  try dsimp only at h
  refine lv_goto (tgt := 97) hx hb dX4_readOrder_93 (by decide) ?_
  exact blX4_readOrder_97 hn C h wd (lv_sub hl [0, 1, 2, 3] rfl)
def wbX4_readOrder_63 (Φ : St → Prop) (x2 : Int32) (x3 : Int32) (x4 : Int32) (z0 : Int32) (σ : St) : Prop :=
  ((x4 ≤ (1 : Int32) → wbX4_readOrder_97 Φ x3 z0 (0 : Int32) σ) ∧ (¬ x4 ≤ (1 : Int32) → wpX4_mostSecond x3 x2 σ (fun r3 t2 => ((x3 = (115 : Int32) → wbX4_readOrder_90 Φ x3 z0 r3 z0 t2) ∧ (¬ x3 = (115 : Int32) → wbX4_readOrder_90 Φ x3 z0 r3 (-1 : Int32) t2)))))
set_option maxHeartbeats 4000000 in
set_option maxRecDepth 100000 in
theorem blX4_readOrder_63 {p : Program} {l : Launch} {e : Env} {s : State} {m : MethodId} {args : Array Value} {below : List Frame} {meth : Method} {c : Code} (hn : 60 ≤ n) (C : Cx p s m args meth c cX4_readOrder 7 none RX4) {Φ : St → Prop} {x2 : Int32} {x3 : Int32} {x4 : Int32} {z0 : Int32} {σ : St} {H : Heap} {locs : List Loc} {ls : Array Slot} (h : wbX4_readOrder_63 Φ x2 x3 x4 z0 σ) (wd : gWd D (tyL cyI cyO) (cCell ad cyI cyO) ad n s H locs σ) (hl : lv_has ls 7 [(0, .ref (ad 58)), (1, .ref (ad 57)), (2, .int x2), (3, .int x3), (4, .int x4)]) : W p l e rmX4_readOrder s m args below meth c H locs 0 0 (MQ below (gQv D (cCell ad cyI cyO) ad n s.heap.size Φ) args s 0 0 (gA ad n s.heap.size)) (F0 m 63 ls [.int z0]) := by
  obtain ⟨hx, hb, hr, hml, hown, hts, hlk⟩ := id C
  unfold wbX4_readOrder_63 at h
  refine lv_istore (lv' := [(5, .int z0), (0, .ref (ad 58)), (1, .ref (ad 57)), (2, .int x2), (3, .int x3), (4, .int x4)]) hx hb dX4_readOrder_63 hl (by decide) rfl (fun ls hl => ?_)
  refine lv_iload hx hb dX4_readOrder_65 (lv_at hl 5 rfl) ?_
  refine lv_iconst (v := (1 : Int32)) hx hb dX4_readOrder_67 (by decide) ?_
  refine lv_icmp_le (tgt := 96) hx hb dX4_readOrder_68 (by decide) (fun c1 => ?_) (fun c1 => ?_)
  · have h := h.1 c1
    refine lv_iconst (v := (0 : Int32)) hx hb dX4_readOrder_96 (by decide) ?_
    exact blX4_readOrder_97 hn C h wd (lv_sub hl [1, 2, 4, 0] rfl)
  · have h := h.2 c1
    refine lv_aload_n hx hb dX4_readOrder_71 rfl (lv_at hl 1 rfl) ?_
    refine lv_aload_n hx hb dX4_readOrder_72 rfl (lv_at hl 2 rfl) ?_
    refine lv_iload_n hx hb dX4_readOrder_73 rfl (lv_at hl 4 rfl) ?_
    refine lv_iload_n hx hb dX4_readOrder_74 rfl (lv_at hl 3 rfl) ?_
    refine gCi wd (gRunS (y := yX4_mostSecond) (As := [.int x3, .int x2]) (rest := [.ref (ad 57), .ref (ad 58)]) C wd (cmX4_mostSecond h) ⟨rfl, rfl⟩ gd_X4_55 nk_X4_mostSecond ⟨Nat.le_of_ble_eq_true rfl, Nat.le_of_ble_eq_true rfl⟩ hl.1 (Nat.le_of_ble_eq_true rfl) dX4_readOrder_75 rfl) (fun r3 t2 H locs h wd => ?_)
    try dsimp only at h
    refine lv_iload_n hx hb dX4_readOrder_78 rfl (lv_at hl 4 rfl) ?_
    refine lv_bipush (v := (115 : Int32)) hx hb dX4_readOrder_79 (by decide) ?_
    refine lv_icmp_ne (tgt := 89) hx hb dX4_readOrder_81 (by decide) (fun c4 => ?_) (fun c4 => ?_)
    · have h := h.2 c4
      refine lv_iconst (v := (-1 : Int32)) hx hb dX4_readOrder_89 (by decide) ?_
      exact blX4_readOrder_90 hn C h wd (lv_sub hl [1, 2, 4, 0] rfl)
    · have h := h.1 c4
      refine lv_iload hx hb dX4_readOrder_84 (lv_at hl 0 rfl) ?_
      refine lv_goto (tgt := 90) hx hb dX4_readOrder_86 (by decide) ?_
      exact blX4_readOrder_90 hn C h wd (lv_sub hl [1, 2, 4, 0] rfl)
def wpX4_readOrder (x2 : Int32) (σ : St) (Φ : St → Prop) : Prop :=
  wpX4_skipBlanks σ (fun t1 => wpX8_byteAt (t1.1 1857) t1 (fun r3 t2 => wpX4_numbersOf r3 t2 (fun r5 t4 => ((r5 = (-1 : Int32) → (∀ t11 : St, t11 = setI t4 1858 (t4.1 1857) → Φ t11)) ∧ (¬ r5 = (-1 : Int32) → (∀ t7 : St, t7 = setI t4 1857 ((t4.1 1857) + (1 : Int32)) → ((r5 ≤ 0 → wbX4_readOrder_63 Φ x2 r3 r5 (0 : Int32) t7) ∧ (¬ r5 ≤ 0 → wpX4_readNumber (x2 - (1 : Int32)) (-1 : Int32) t7 (fun r10 t9 => wbX4_readOrder_63 Φ x2 r3 r5 r10 t9)))))))))
set_option maxHeartbeats 4000000 in
set_option maxRecDepth 100000 in
theorem cmX4_readOrder {D : va_G} {cyI cyO : ClassId} {ad : Nat → Nat} {n : Nat} {l : Launch} (hn : 60 ≤ n) {x2 : Int32} {σ : St} {sz : Nat} {Φ : St → Prop} (h : wpX4_readOrder x2 σ Φ) : gMet D (tyL cyI cyO) (cCell ad cyI cyO) ad n l yX4_readOrder cX4_readOrder 7 none rmX4_readOrder [.ref (ad 58), .ref (ad 57), .int x2] σ sz (gQv D (cCell ad cyI cyO) ad n sz Φ) := by
  refine gMet.of (by decide) (Nat.le_of_ble_eq_true rfl) ?_
  intro p e s m below meth c ls hsz C hl wd
  subst hsz
  have C : Cx p s m _ meth c cX4_readOrder 7 none RX4 := C
  obtain ⟨hx, hb, hr, hml, hown, hts, hlk⟩ := id C
  have hl : lv_has ls 7 [(0, .ref (ad 58)), (1, .ref (ad 57)), (2, .int x2)] := hl
  unfold wpX4_readOrder at h
  refine lv_aload_n hx hb dX4_readOrder_0 rfl (lv_at hl 0 rfl) ?_
  refine lv_aload_n hx hb dX4_readOrder_1 rfl (lv_at hl 1 rfl) ?_
  refine gCv wd (gRunV (y := yX4_skipBlanks) (k := 58) (As := [.ref (ad 57)]) (rest := []) C wd (cmX4_skipBlanks (by omega) h) ⟨rfl, rfl⟩ gd_X4_35 nk_X4_skipBlanks ⟨Nat.le_of_ble_eq_true rfl, Nat.le_of_ble_eq_true rfl⟩ (by omega) cc_X4 rfl rfl hl.1 (Nat.le_of_ble_eq_true rfl) dX4_readOrder_2 rfl) (fun t1 H locs h wd => ?_)
  try dsimp only at h
  refine lv_aload_n hx hb dX4_readOrder_5 rfl (lv_at hl 1 rfl) ?_
  refine lv_aload_n hx hb dX4_readOrder_6 rfl (lv_at hl 0 rfl) ?_
  refine getF C wd (k := 58) (Cn := RX4) (T := TX4) (N := 6) (v := .int (t1.1 1857)) (by omega) cc_X4 rfl 1 (by decide) rfl inX4 tw2_2 dX4_readOrder_7 ?_
  refine gCi wd (gRunV (y := yX8_byteAt) (k := 57) (As := [.int (t1.1 1857)]) (rest := []) C wd (cmX8_byteAt (by omega) h) ⟨rfl, rfl⟩ gd_X4_44 nk_X8_byteAt ⟨Nat.le_of_ble_eq_true rfl, Nat.le_of_ble_eq_true rfl⟩ (by omega) cc_X8 rfl rfl hl.1 (Nat.le_of_ble_eq_true rfl) dX4_readOrder_10 rfl) (fun r3 t2 H locs h wd => ?_)
  try dsimp only at h
  refine lv_istore_n (lv' := [(3, .int r3), (0, .ref (ad 58)), (1, .ref (ad 57)), (2, .int x2)]) hx hb dX4_readOrder_13 rfl hl (by decide) rfl (fun ls hl => ?_)
  refine lv_iload_n hx hb dX4_readOrder_14 rfl (lv_at hl 0 rfl) ?_
  refine gCi wd (gRunS (y := yX4_numbersOf) (As := [.int r3]) (rest := []) C wd (cmX4_numbersOf h) ⟨rfl, rfl⟩ gd_X4_48 nk_X4_numbersOf ⟨Nat.le_of_ble_eq_true rfl, Nat.le_of_ble_eq_true rfl⟩ hl.1 (Nat.le_of_ble_eq_true rfl) dX4_readOrder_15 rfl) (fun r5 t4 H locs h wd => ?_)
  try dsimp only at h
  refine lv_istore (lv' := [(4, .int r5), (3, .int r3), (0, .ref (ad 58)), (1, .ref (ad 57)), (2, .int x2)]) hx hb dX4_readOrder_18 hl (by decide) rfl (fun ls hl => ?_)
  refine lv_iload hx hb dX4_readOrder_20 (lv_at hl 0 rfl) ?_
  refine lv_iconst (v := (-1 : Int32)) hx hb dX4_readOrder_22 (by decide) ?_
  refine lv_icmp_ne (tgt := 35) hx hb dX4_readOrder_23 (by decide) (fun c6 => ?_) (fun c6 => ?_)
  · have h := h.2 c6
    refine lv_aload_n hx hb dX4_readOrder_35 rfl (lv_at hl 2 rfl) ?_
    refine lv_dup hx hb dX4_readOrder_36 rfl ?_
    refine getF C wd (k := 58) (Cn := RX4) (T := TX4) (N := 6) (v := .int (t4.1 1857)) (by omega) cc_X4 rfl 1 (by decide) rfl inX4 tw2_2 dX4_readOrder_37 ?_
    refine lv_iconst (v := (1 : Int32)) hx hb dX4_readOrder_40 (by decide) ?_
    refine lv_iadd hx hb dX4_readOrder_41 ?_
    refine putF C wd (k := 58) (Cn := RX4) (T := TX4) (N := 6) (σ' := setI t4 1857 ((t4.1 1857) + (1 : Int32))) (by omega) cc_X4 rfl tyX4_ok nmX4 1 (by decide) rfl (by decide +kernel) (Nat.le_of_ble_eq_true rfl) inX4 tw2_2 cs_X4_place dX4_readOrder_42 (fun H locs wd => ?_)
    obtain ⟨t7, et7⟩ : ∃ z : St, z = setI t4 1857 ((t4.1 1857) + (1 : Int32)) := ⟨_, rfl⟩
    rw [← et7] at wd
    have h := h t7 et7
    refine lv_iload hx hb dX4_readOrder_45 (lv_at hl 0 rfl) ?_
    refine lv_if_le (tgt := 62) hx hb dX4_readOrder_47 (by decide) (fun c8 => ?_) (fun c8 => ?_)
    · have h := h.1 c8
      refine lv_iconst (v := (0 : Int32)) hx hb dX4_readOrder_62 (by decide) ?_
      exact blX4_readOrder_63 hn C h wd (lv_sub hl [2, 3, 4, 1, 0] rfl)
    · have h := h.2 c8
      refine lv_aload_n hx hb dX4_readOrder_50 rfl (lv_at hl 2 rfl) ?_
      refine lv_aload_n hx hb dX4_readOrder_51 rfl (lv_at hl 3 rfl) ?_
      refine lv_iload_n hx hb dX4_readOrder_52 rfl (lv_at hl 4 rfl) ?_
      refine lv_iconst (v := (1 : Int32)) hx hb dX4_readOrder_53 (by decide) ?_
      refine lv_isub hx hb dX4_readOrder_54 ?_
      refine lv_iconst (v := (-1 : Int32)) hx hb dX4_readOrder_55 (by decide) ?_
      refine gCi wd (gRunV (y := yX4_readNumber) (k := 58) (As := [.ref (ad 57), .int (x2 - (1 : Int32)), .int (-1 : Int32)]) (rest := []) C wd (cmX4_readNumber (by omega) h) ⟨rfl, rfl⟩ gd_X4_51 nk_X4_readNumber ⟨Nat.le_of_ble_eq_true rfl, Nat.le_of_ble_eq_true rfl⟩ (by omega) cc_X4 rfl rfl hl.1 (Nat.le_of_ble_eq_true rfl) dX4_readOrder_56 rfl) (fun r10 t9 H locs h wd => ?_)
      try dsimp only at h
      refine lv_goto (tgt := 63) hx hb dX4_readOrder_59 (by decide) ?_
      exact blX4_readOrder_63 hn C h wd (lv_sub hl [2, 3, 4, 1, 0] rfl)
  · have h := h.1 c6
    refine lv_aload_n hx hb dX4_readOrder_26 rfl (lv_at hl 2 rfl) ?_
    refine lv_aload_n hx hb dX4_readOrder_27 rfl (lv_at hl 2 rfl) ?_
    refine getF C wd (k := 58) (Cn := RX4) (T := TX4) (N := 6) (v := .int (t4.1 1857)) (by omega) cc_X4 rfl 1 (by decide) rfl inX4 tw2_2 dX4_readOrder_28 ?_
    refine putF C wd (k := 58) (Cn := RX4) (T := TX4) (N := 6) (σ' := setI t4 1858 (t4.1 1857)) (by omega) cc_X4 rfl tyX4_ok nmX4 2 (by decide) rfl (by decide +kernel) (Nat.le_of_ble_eq_true rfl) inX4 tw2_3 cs_X4_fault dX4_readOrder_31 (fun H locs wd => ?_)
    obtain ⟨t11, et11⟩ : ∃ z : St, z = setI t4 1858 (t4.1 1857) := ⟨_, rfl⟩
    rw [← et11] at wd
    have h := h t11 et11
    exact retV C wd h dX4_readOrder_34
abbrev rmX4_readAll : Room := rmOf 5 117
def wbX4_readAll_62 (Φ : Int32 → St → Prop) (σ : St) : Prop :=
  Φ (σ.1 1858) σ
set_option maxHeartbeats 4000000 in
set_option maxRecDepth 100000 in
theorem blX4_readAll_62 {p : Program} {l : Launch} {e : Env} {s : State} {m : MethodId} {args : Array Value} {below : List Frame} {meth : Method} {c : Code} (hn : 60 ≤ n) (C : Cx p s m args meth c cX4_readAll 4 (some .int) RX4) {Φ : Int32 → St → Prop} {σ : St} {H : Heap} {locs : List Loc} {ls : Array Slot} (h : wbX4_readAll_62 Φ σ) (wd : gWd D (tyL cyI cyO) (cCell ad cyI cyO) ad n s H locs σ) (hl : lv_has ls 4 [(0, .ref (ad 58))]) : W p l e rmX4_readAll s m args below meth c H locs 0 0 (MQ below (gQi D (cCell ad cyI cyO) ad n s.heap.size Φ) args s 0 0 (gA ad n s.heap.size)) (F0 m 62 ls []) := by
  obtain ⟨hx, hb, hr, hml, hown, hts, hlk⟩ := id C
  unfold wbX4_readAll_62 at h
  refine lv_aload_n hx hb dX4_readAll_62 rfl (lv_at hl 0 rfl) ?_
  refine getF C wd (k := 58) (Cn := RX4) (T := TX4) (N := 6) (v := .int (σ.1 1858)) (by omega) cc_X4 rfl 2 (by decide) rfl inX4 tw2_3 dX4_readAll_63 ?_
  exact retI C wd h dX4_readAll_66
def wlX4_readAll_17_body (Φ : Int32 → St → Prop) (k_17 : Int32 → Int32 → St → Prop) (x2 : Int32) (x3 : Int32) (σ : St) : Prop :=
  (((60 : Int32) ≤ x3 → wbX4_readAll_62 Φ σ) ∧ (¬ (60 : Int32) ≤ x3 → wpX4_readOrder x2 σ (fun t2 => wpX4_skipBlanks t2 (fun t3 => (((t3.1 1858) = (-1 : Int32) → (((t3.1 1857) < (t3.1 1824) → (∀ y6 : Int32, y6 = x3 + (1 : Int32) → k_17 x2 y6 t3)) ∧ (¬ (t3.1 1857) < (t3.1 1824) → wbX4_readAll_62 Φ t3))) ∧ (¬ (t3.1 1858) = (-1 : Int32) → wbX4_readAll_62 Φ t3))))))
def wlX4_readAll_17 (Φ : Int32 → St → Prop) : Nat → Int32 → Int32 → St → Prop
  | 0 => fun _ _ _ => False
  | N + 1 => fun x2 x3 σ => wlX4_readAll_17_body Φ (wlX4_readAll_17 Φ N) x2 x3 σ
set_option maxHeartbeats 4000000 in
set_option maxRecDepth 100000 in
theorem llX4_readAll_17 {p : Program} {l : Launch} {e : Env} {s : State} {m : MethodId} {args : Array Value} {below : List Frame} {meth : Method} {c : Code} (hn : 60 ≤ n) (C : Cx p s m args meth c cX4_readAll 4 (some .int) RX4) {Φ : Int32 → St → Prop} : ∀ (N : Nat) (x2 : Int32) (x3 : Int32) (σ : St) (H : Heap) (locs : List Loc) (ls : Array Slot), wlX4_readAll_17 Φ N x2 x3 σ → gWd D (tyL cyI cyO) (cCell ad cyI cyO) ad n s H locs σ → lv_has ls 4 [(0, .ref (ad 58)), (1, .ref (ad 57)), (2, .int x2), (3, .int x3)] → W p l e rmX4_readAll s m args below meth c H locs 0 0 (MQ below (gQi D (cCell ad cyI cyO) ad n s.heap.size Φ) args s 0 0 (gA ad n s.heap.size)) (F0 m 17 ls []) := by
  obtain ⟨hx, hb, hr, hml, hown, hts, hlk⟩ := id C
  intro N
  induction N with
  | zero =>
    intro x2 x3 σ H locs ls h
    exact False.elim h
  | succ N ih =>
    intro x2 x3 σ H locs ls h wd hl
    have h : wlX4_readAll_17_body Φ (wlX4_readAll_17 Φ N) x2 x3 σ := h
    have hk_17 := ih
    unfold wlX4_readAll_17_body at h
    refine lv_iload_n hx hb dX4_readAll_17 rfl (lv_at hl 3 rfl) ?_
    refine lv_bipush (v := (60 : Int32)) hx hb dX4_readAll_18 (by decide) ?_
    refine lv_icmp_ge (tgt := 62) hx hb dX4_readAll_20 (by decide) (fun c1 => ?_) (fun c1 => ?_)
    · have h := h.1 c1
      exact blX4_readAll_62 hn C h wd (lv_sub hl [0] rfl)
    · have h := h.2 c1
      refine lv_aload_n hx hb dX4_readAll_23 rfl (lv_at hl 0 rfl) ?_
      refine lv_aload_n hx hb dX4_readAll_24 rfl (lv_at hl 1 rfl) ?_
      refine lv_iload_n hx hb dX4_readAll_25 rfl (lv_at hl 2 rfl) ?_
      refine gCv wd (gRunV (y := yX4_readOrder) (k := 58) (As := [.ref (ad 57), .int x2]) (rest := []) C wd (cmX4_readOrder (by omega) h) ⟨rfl, rfl⟩ gd_X4_31 nk_X4_readOrder ⟨Nat.le_of_ble_eq_true rfl, Nat.le_of_ble_eq_true rfl⟩ (by omega) cc_X4 rfl rfl hl.1 (Nat.le_of_ble_eq_true rfl) dX4_readAll_26 rfl) (fun t2 H locs h wd => ?_)
      try dsimp only at h
      refine lv_aload_n hx hb dX4_readAll_29 rfl (lv_at hl 0 rfl) ?_
      refine lv_aload_n hx hb dX4_readAll_30 rfl (lv_at hl 1 rfl) ?_
      refine gCv wd (gRunV (y := yX4_skipBlanks) (k := 58) (As := [.ref (ad 57)]) (rest := []) C wd (cmX4_skipBlanks (by omega) h) ⟨rfl, rfl⟩ gd_X4_35 nk_X4_skipBlanks ⟨Nat.le_of_ble_eq_true rfl, Nat.le_of_ble_eq_true rfl⟩ (by omega) cc_X4 rfl rfl hl.1 (Nat.le_of_ble_eq_true rfl) dX4_readAll_31 rfl) (fun t3 H locs h wd => ?_)
      try dsimp only at h
      refine lv_aload_n hx hb dX4_readAll_34 rfl (lv_at hl 0 rfl) ?_
      refine getF C wd (k := 58) (Cn := RX4) (T := TX4) (N := 6) (v := .int (t3.1 1858)) (by omega) cc_X4 rfl 2 (by decide) rfl inX4 tw2_3 dX4_readAll_35 ?_
      refine lv_iconst (v := (-1 : Int32)) hx hb dX4_readAll_38 (by decide) ?_
      refine lv_icmp_ne (tgt := 62) hx hb dX4_readAll_39 (by decide) (fun c4 => ?_) (fun c4 => ?_)
      · have h := h.2 c4
        exact blX4_readAll_62 hn C h wd (lv_sub hl [0] rfl)
      · have h := h.1 c4
        refine lv_aload_n hx hb dX4_readAll_42 rfl (lv_at hl 0 rfl) ?_
        refine getF C wd (k := 58) (Cn := RX4) (T := TX4) (N := 6) (v := .int (t3.1 1857)) (by omega) cc_X4 rfl 1 (by decide) rfl inX4 tw2_2 dX4_readAll_43 ?_
        refine lv_aload_n hx hb dX4_readAll_46 rfl (lv_at hl 1 rfl) ?_
        refine getN C wd (k := 57) (Cn := RX8) (T := TX8) (N := 2) (v := .int (t3.1 1824)) (by omega) cc_X8 rfl 0 (by decide) rfl inX8 ns_36 dX4_readAll_47 ?_
        refine lv_icmp_lt (tgt := 56) hx hb dX4_readAll_50 (by decide) (fun c5 => ?_) (fun c5 => ?_)
        · have h := h.1 c5
          obtain ⟨y6, ey6⟩ : ∃ y : Int32, y = x3 + (1 : Int32) := ⟨_, rfl⟩
          refine lv_iinc (v := y6) (lv' := [(3, .int y6), (0, .ref (ad 58)), (1, .ref (ad 57)), (2, .int x2)]) hx hb dX4_readAll_56 hl (k := 3) rfl (by rw [ey6]; rfl) (by decide) rfl (fun ls hl => ?_)
          have h := h y6 ey6
          refine lv_goto (tgt := 17) hx hb dX4_readAll_59 (by decide) ?_
          exact hk_17 _ _ _ _ _ _ h wd (lv_sub hl [1, 2, 3, 0] rfl)
        · have h := h.2 c5
          refine lv_goto (tgt := 62) hx hb dX4_readAll_53 (by decide) ?_
          exact blX4_readAll_62 hn C h wd (lv_sub hl [0] rfl)
def wpX4_readAll (x2 : Int32) (σ : St) (Φ : Int32 → St → Prop) : Prop :=
  (∀ t1 : St, t1 = setI σ 1856 (0 : Int32) → (∀ t2 : St, t2 = setI t1 1857 (0 : Int32) → (∀ t3 : St, t3 = setI t2 1858 (-1 : Int32) → (∃ N, wlX4_readAll_17 Φ N x2 (0 : Int32) t3))))
set_option maxHeartbeats 4000000 in
set_option maxRecDepth 100000 in
theorem cmX4_readAll {D : va_G} {cyI cyO : ClassId} {ad : Nat → Nat} {n : Nat} {l : Launch} (hn : 60 ≤ n) {x2 : Int32} {σ : St} {sz : Nat} {Φ : Int32 → St → Prop} (h : wpX4_readAll x2 σ Φ) : gMet D (tyL cyI cyO) (cCell ad cyI cyO) ad n l yX4_readAll cX4_readAll 4 (some .int) rmX4_readAll [.ref (ad 58), .ref (ad 57), .int x2] σ sz (gQi D (cCell ad cyI cyO) ad n sz Φ) := by
  refine gMet.of (by decide) (Nat.le_of_ble_eq_true rfl) ?_
  intro p e s m below meth c ls hsz C hl wd
  subst hsz
  have C : Cx p s m _ meth c cX4_readAll 4 (some .int) RX4 := C
  obtain ⟨hx, hb, hr, hml, hown, hts, hlk⟩ := id C
  have hl : lv_has ls 4 [(0, .ref (ad 58)), (1, .ref (ad 57)), (2, .int x2)] := hl
  unfold wpX4_readAll at h
  refine lv_aload_n hx hb dX4_readAll_0 rfl (lv_at hl 0 rfl) ?_
  refine lv_iconst (v := (0 : Int32)) hx hb dX4_readAll_1 (by decide) ?_
  refine putF C wd (k := 58) (Cn := RX4) (T := TX4) (N := 6) (σ' := setI σ 1856 (0 : Int32)) (by omega) cc_X4 rfl tyX4_ok nmX4 0 (by decide) rfl (by decide +kernel) (Nat.le_of_ble_eq_true rfl) inX4 tw2_0 cs_X4_count dX4_readAll_2 (fun H locs wd => ?_)
  obtain ⟨t1, et1⟩ : ∃ z : St, z = setI σ 1856 (0 : Int32) := ⟨_, rfl⟩
  rw [← et1] at wd
  have h := h t1 et1
  refine lv_aload_n hx hb dX4_readAll_5 rfl (lv_at hl 0 rfl) ?_
  refine lv_iconst (v := (0 : Int32)) hx hb dX4_readAll_6 (by decide) ?_
  refine putF C wd (k := 58) (Cn := RX4) (T := TX4) (N := 6) (σ' := setI t1 1857 (0 : Int32)) (by omega) cc_X4 rfl tyX4_ok nmX4 1 (by decide) rfl (by decide +kernel) (Nat.le_of_ble_eq_true rfl) inX4 tw2_2 cs_X4_place dX4_readAll_7 (fun H locs wd => ?_)
  obtain ⟨t2, et2⟩ : ∃ z : St, z = setI t1 1857 (0 : Int32) := ⟨_, rfl⟩
  rw [← et2] at wd
  have h := h t2 et2
  refine lv_aload_n hx hb dX4_readAll_10 rfl (lv_at hl 0 rfl) ?_
  refine lv_iconst (v := (-1 : Int32)) hx hb dX4_readAll_11 (by decide) ?_
  refine putF C wd (k := 58) (Cn := RX4) (T := TX4) (N := 6) (σ' := setI t2 1858 (-1 : Int32)) (by omega) cc_X4 rfl tyX4_ok nmX4 2 (by decide) rfl (by decide +kernel) (Nat.le_of_ble_eq_true rfl) inX4 tw2_3 cs_X4_fault dX4_readAll_12 (fun H locs wd => ?_)
  obtain ⟨t3, et3⟩ : ∃ z : St, z = setI t2 1858 (-1 : Int32) := ⟨_, rfl⟩
  rw [← et3] at wd
  have h := h t3 et3
  refine lv_iconst (v := (0 : Int32)) hx hb dX4_readAll_15 (by decide) ?_
  refine lv_istore_n (lv' := [(3, .int (0 : Int32)), (0, .ref (ad 58)), (1, .ref (ad 57)), (2, .int x2)]) hx hb dX4_readAll_16 rfl hl (by decide) rfl (fun ls hl => ?_)
  obtain ⟨N, h⟩ := h
  exact llX4_readAll_17 hn C N _ _ _ _ _ _ h wd (lv_sub hl [1, 2, 3, 0] rfl)
abbrev rmX6_releasedAt : Room := rmOf 1 21
def wpX6_releasedAt (x1 : Int32) (σ : St) (Φ : Int32 → St → Prop) : Prop :=
  ((x1 < 0 → Φ (-1 : Int32) σ) ∧ (¬ x1 < 0 → (((σ.1 97) ≤ x1 → Φ (-1 : Int32) σ) ∧ (¬ (σ.1 97) ≤ x1 → wpX9_at 49 x1 σ (fun r4 t3 => Φ r4 t3)))))
set_option maxHeartbeats 4000000 in
set_option maxRecDepth 100000 in
theorem cmX6_releasedAt {D : va_G} {cyI cyO : ClassId} {ad : Nat → Nat} {n : Nat} {l : Launch} (hn : 52 ≤ n) {x1 : Int32} {σ : St} {sz : Nat} {Φ : Int32 → St → Prop} (h : wpX6_releasedAt x1 σ Φ) : gMet D (tyL cyI cyO) (cCell ad cyI cyO) ad n l yX6_releasedAt cX6_releasedAt 2 (some .int) rmX6_releasedAt [.ref (ad 3), .int x1] σ sz (gQi D (cCell ad cyI cyO) ad n sz Φ) := by
  refine gMet.of (by decide) (Nat.le_of_ble_eq_true rfl) ?_
  intro p e s m below meth c ls hsz C hl wd
  subst hsz
  have C : Cx p s m _ meth c cX6_releasedAt 2 (some .int) RX6 := C
  obtain ⟨hx, hb, hr, hml, hown, hts, hlk⟩ := id C
  have hl : lv_has ls 2 [(0, .ref (ad 3)), (1, .int x1)] := hl
  unfold wpX6_releasedAt at h
  refine lv_iload_n hx hb dX6_releasedAt_0 rfl (lv_at hl 1 rfl) ?_
  refine lv_if_lt (tgt := 23) hx hb dX6_releasedAt_1 (by decide) (fun c1 => ?_) (fun c1 => ?_)
  · have h := h.1 c1
    refine lv_iconst (v := (-1 : Int32)) hx hb dX6_releasedAt_23 (by decide) ?_
    exact retI C wd h dX6_releasedAt_24
  · have h := h.2 c1
    refine lv_iload_n hx hb dX6_releasedAt_4 rfl (lv_at hl 1 rfl) ?_
    refine lv_aload_n hx hb dX6_releasedAt_5 rfl (lv_at hl 0 rfl) ?_
    refine getF C wd (k := 3) (Cn := RX6) (T := TX6) (N := 6) (v := .int (σ.1 97)) (by omega) cc_X6 rfl 1 (by decide) rfl inX6 tw1_85 dX6_releasedAt_6 ?_
    refine lv_icmp_ge (tgt := 23) hx hb dX6_releasedAt_9 (by decide) (fun c2 => ?_) (fun c2 => ?_)
    · have h := h.1 c2
      refine lv_iconst (v := (-1 : Int32)) hx hb dX6_releasedAt_23 (by decide) ?_
      exact retI C wd h dX6_releasedAt_24
    · have h := h.2 c2
      refine lv_aload_n hx hb dX6_releasedAt_12 rfl (lv_at hl 0 rfl) ?_
      refine getF C wd (k := 3) (Cn := RX6) (T := TX6) (N := 6) (v := .ref (ad 49)) (by omega) cc_X6 rfl 5 (by decide) rfl inX6 tw1_93 dX6_releasedAt_13 ?_
      refine lv_iload_n hx hb dX6_releasedAt_16 rfl (lv_at hl 1 rfl) ?_
      refine gCi wd (gRunSN (y := yX9_at) (As := [.ref (ad 49), .int x1]) (rest := []) C wd (cmX9_at (by omega) (by omega) (by omega) h) ⟨rfl, rfl⟩ gc_X9_at ns_55 tw1_1 tw2_92 nk_X9_at ⟨Nat.le_of_ble_eq_true rfl, Nat.le_of_ble_eq_true rfl⟩ hl.1 (Nat.le_of_ble_eq_true rfl) dX6_releasedAt_17 rfl) (fun r4 t3 H locs h wd => ?_)
      try dsimp only at h
      refine lv_goto (tgt := 24) hx hb dX6_releasedAt_20 (by decide) ?_
      exact retI C wd h dX6_releasedAt_24
end
