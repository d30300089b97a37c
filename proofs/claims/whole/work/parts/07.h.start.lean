set_option maxHeartbeats 8000000 in
set_option maxRecDepth 100000 in
theorem whole_open {p : Program} {e : Env} {s : State} {m : MethodId} {below : List Frame} {meth : Method} {c : Code} (l : Launch) {b L : Nat} {xs : Nat → Int32} (hL : L ≤ 2560) (C0 : lw_At p s m meth c b L xs) {Rel : Nat → St → St → Prop} (hsim : ∀ i, i ≤ 2560 → SimAll (Rel i) (Rel (i + 5))) (hmo : ∀ i σ μ, Rel i σ μ → Rel (i + 5) σ μ) {Φ : St → Prop} (hbeg : wpX2_begin (3 : Int32) zSt Φ) (hz : ∀ σ, Φ σ → (∀ j, 1792 ≤ j → σ.1 j = 0) ∧ ∀ k, 52 ≤ k → σ.2 k = fun _ => 0) (hrel : ∀ σ, Φ σ → Rel 0 σ mSt0) : W p l e room_1 s m #[Value.ref b] below meth c s.heap [] 0 0 (lw_Z below #[Value.ref b] s) (entryFrame m ([Value.ref b] : List Value).toArray 4) := by
  obtain ⟨hx, hb, hr, hml, hown, hts0, hX, hbl, hlk, hgv⟩ := id C0
  have hts : ∀ w ∈ gT, w.before #[Value.ref b] s = true := fun w hw => hts0 w (gT_tbl hw)
  have C : Cx p s m #[Value.ref b] meth c code 4 ret RL := ⟨hx, hb, hr, hml, hown, hts, hlk⟩
  obtain ⟨c0, i0, hk0⟩ := u_known (C := RX0) (T := TX0) (N := 9) (n := 9) hts inX0 (hts _ tw1_126)
  obtain ⟨c1, i1, hk1⟩ := u_known (C := RX1) (T := TX1) (N := 4) (n := 4) hts inX1 (hts _ tw1_108)
  obtain ⟨c2, i2, hk2⟩ := u_known (C := RX2) (T := TX2) (N := 6) (n := 6) hts inX2 (hts _ tw1_22)
  obtain ⟨c3, i3, hk3⟩ := u_known (C := RX3) (T := TX3) (N := 5) (n := 5) hts inX3 (hts _ tw1_30)
  obtain ⟨c4, i4, hk4⟩ := u_known (C := RX4) (T := TX4) (N := 6) (n := 6) hts inX4 (hts _ tw1_235)
  obtain ⟨c5, i5, hk5⟩ := u_known (C := RX5) (T := TX5) (N := 2) (n := 2) hts inX5 (hts _ tw1_36)
  obtain ⟨c6, i6, hk6⟩ := u_known (C := RX6) (T := TX6) (N := 6) (n := 6) hts inX6 (hts _ tw1_77)
  obtain ⟨c7, i7, hk7⟩ := u_known (C := RX7) (T := TX7) (N := 3) (n := 3) hts inX7 (hts _ tw2_24)
  obtain ⟨c8, i8, hk8⟩ := u_known (C := RX8) (T := TX8) (N := 2) (n := 2) hts inX8 (hts _ tw1_220)
  obtain ⟨c9, i9, hk9⟩ := u_known (C := RX9) (T := TX9) (N := 4) (n := 4) hts inX9 (hts _ tw1_14)
  obtain ⟨c10, i10, hk10⟩ := u_known (C := RX10) (T := TX10) (N := 26) (n := 26) hts inX10 (hts _ tw4_21)
  obtain ⟨dC, dI, hKc⟩ : ∃ (dC : Nat → ClassId) (dI : Nat → Nat → Nat), ∀ (k : Nat) (q : vw_C), vwCl[k]? = some q → u_Kn s q.1 q.2.1 q.2.2 (dC k) (dI k) := by
    refine ⟨fun k => if k = 0 then c0 else if k = 1 then c1 else if k = 2 then c2 else if k = 3 then c3 else if k = 4 then c4 else if k = 5 then c5 else if k = 6 then c6 else if k = 7 then c7 else if k = 8 then c8 else if k = 9 then c9 else c10, fun k => if k = 0 then i0 else if k = 1 then i1 else if k = 2 then i2 else if k = 3 then i3 else if k = 4 then i4 else if k = 5 then i5 else if k = 6 then i6 else if k = 7 then i7 else if k = 8 then i8 else if k = 9 then i9 else i10, ?_⟩
    intro k q hq
    match k, hq with
    | 0, hq => cases hq; exact hk0
    | 1, hq => cases hq; exact hk1
    | 2, hq => cases hq; exact hk2
    | 3, hq => cases hq; exact hk3
    | 4, hq => cases hq; exact hk4
    | 5, hq => cases hq; exact hk5
    | 6, hq => cases hq; exact hk6
    | 7, hq => cases hq; exact hk7
    | 8, hq => cases hq; exact hk8
    | 9, hq => cases hq; exact hk9
    | 10, hq => cases hq; exact hk10
    | k + 11, hq => simp [vwCl] at hq
  obtain ⟨cyI, kI, cI, fI, kI1, kI2⟩ := Cond.arrayClass_spec (hts _ tw1_54)
  have hAO : va_AO "OrphanLogs$Clerk" s := va_AO.of (hts0 _ (tnn1 28 rfl))
  obtain ⟨cO, cyO, kO, fO1, -, kO1, kO2, fO2⟩ := Cond.arrayOver_spec hAO
  have hK : va_K (dC, dI) vwCl (tyL cyI cyO) s := by
    refine ⟨hKc, fun k q hq => ?_⟩
    match k, hq with
    | 0, hq => cases hq; exact ⟨fun n z => ⟨fun k h => (by cases h), kI, kI1, cI, kI2⟩, fI⟩
    | 1, hq => cases hq; exact ⟨fun n z => ⟨fun k h => (by cases h), kO, kO1, cO, kO2⟩, kO, cO, kO1, kO2, fO1, fO2⟩
    | k + 2, hq => simp [tyL] at hq
  have hN : ns s := fun w hw => va_Nw.of (nsT_tab w hw) (hts0 w (nsT_in w hw))
  have w0 : iWd (dC, dI) cyI cyO [] s s.heap [] [] := ⟨hK, hN, hAO, fun k q h => by simp at h, ⟨fun i j p q h => by simp at h, fun k q h => by simp at h⟩, va_S.rf⟩
  have hl := lv_entry ([.ref b]) (n := 4) (Nat.le_of_ble_eq_true rfl)
  rw [lg_entry_eq]
  generalize (lg_sl ([.ref b]) ++ List.replicate (4 - (lg_sl ([.ref b])).length) Slot.unset).toArray = ls at hl ⊢
  have hl : lv_has ls 4 [(0, .ref b)] := hl
  refine iNew C w0 (Cn := RX9) (T := TX9) (N := 4) (ci := 9) (ty := tyX9) (fs := [.null, .null, .null, .null]) inX9 tyX9_ok tw1_13 tw1_14 tw1_1 rfl (fun j hj => by rcases (show j = 0 ∨ j = 1 ∨ j = 2 ∨ j = 3 by omega) with rfl | rfl | rfl | rfl <;> rfl) (Nat.le_of_ble_eq_true rfl) (Nat.le_of_ble_eq_true rfl) dL_law_0 (fun qx H w0 => ?_)
  refine lv_dup hx hb dL_law_3 rfl ?_
  refine iCall (y := yX9_init) (As := []) (rest := [.ref qx]) C w0 (ciX9 hbeg hz) ⟨rfl, rfl⟩ gi_X9_init rfl tw1_1 tw1_16 (Or.inl tw1_15) nki_X9_init ⟨(Nat.le_of_ble_eq_true rfl), (Nat.le_of_ble_eq_true rfl)⟩ hl.1 (Nat.le_of_ble_eq_true rfl) dL_law_4 rfl ⟨(Nat.le_of_ble_eq_true rfl), (Nat.le_of_ble_eq_true rfl)⟩ (fun ux H locs hux w0 => ?_)
  refine lv_astore_n (lv' := [(1, .ref qx), (0, .ref b)]) hx hb dL_law_7 rfl hl (by decide) rfl (fun ls hl => ?_)
  refine iNew C w0 (Cn := RX10) (T := TX10) (N := 26) (ci := 10) (ty := tyX10) (fs := [.int 0, .null, .null, .null, .null, .null, .null, .null, .null, .null, .null, .int 0, .null, .int 0, .null, .int 0, .int 0, .null, .null, .int 0, .int 0, .null, .int 0, .int 0, .int 0, .int 0]) inX10 tyX10_ok tw4_20 tw4_21 tw1_12 rfl (fun j hj => by rcases (show j = 0 ∨ j = 1 ∨ j = 2 ∨ j = 3 ∨ j = 4 ∨ j = 5 ∨ j = 6 ∨ j = 7 ∨ j = 8 ∨ j = 9 ∨ j = 10 ∨ j = 11 ∨ j = 12 ∨ j = 13 ∨ j = 14 ∨ j = 15 ∨ j = 16 ∨ j = 17 ∨ j = 18 ∨ j = 19 ∨ j = 20 ∨ j = 21 ∨ j = 22 ∨ j = 23 ∨ j = 24 ∨ j = 25 by omega) with rfl | rfl | rfl | rfl | rfl | rfl | rfl | rfl | rfl | rfl | rfl | rfl | rfl | rfl | rfl | rfl | rfl | rfl | rfl | rfl | rfl | rfl | rfl | rfl | rfl | rfl <;> rfl) (Nat.le_of_ble_eq_true rfl) (Nat.le_of_ble_eq_true rfl) dL_law_8 (fun qm H w0 => ?_)
  refine lv_dup hx hb dL_law_11 rfl ?_
  refine iCall (y := yX10_init) (As := []) (rest := [.ref qm]) C w0 (ciX10) ⟨rfl, rfl⟩ gi_X10_init rfl tw1_12 tw4_23 (Or.inl tw4_22) nki_X10_init ⟨(Nat.le_of_ble_eq_true rfl), (Nat.le_of_ble_eq_true rfl)⟩ hl.1 (Nat.le_of_ble_eq_true rfl) dL_law_12 rfl ⟨(Nat.le_of_ble_eq_true rfl), (Nat.le_of_ble_eq_true rfl)⟩ (fun um H locs hum w0 => ?_)
  refine lv_astore_n (lv' := [(2, .ref qm), (1, .ref qx), (0, .ref b)]) hx hb dL_law_15 rfl hl (by decide) rfl (fun ls hl => ?_)
  refine lv_iconst (v := (0 : Int32)) hx hb dL_law_16 (by decide) ?_
  refine lv_istore_n (lv' := [(3, .int (0 : Int32)), (2, .ref qm), (1, .ref qx), (0, .ref b)]) hx hb dL_law_17 rfl hl (by decide) rfl (fun ls hl => ?_)
  refine W.widen (k := 600000) (n := 7302250) (Nat.le_of_ble_eq_true rfl) (Nat.le_of_ble_eq_true rfl) ?_
  obtain ⟨adx, σ⟩ := ux
  obtain ⟨hΦ, e56⟩ := hux
  dsimp only at hΦ e56
  rw [blkM cyI cyO] at w0
  obtain ⟨adm, ea⟩ : ∃ z : Nat → Nat, z = adM qm um := ⟨_, rfl⟩
  have e0 : adm 0 = qm := by rw [ea]; rfl
  rw [← ea] at w0
  have w0 : iWd (dC, dI) cyI cyO [] s H locs (gW (cCell adx cyI cyO) adx 60 σ ++ gW (mCell adm cyI cyO) adm 16 mSt0) := w0
  obtain ⟨-, -, -, hP, hD, hS⟩ := w0
  have lx : (gW (cCell adx cyI cyO) adx 60 σ).length = 60 := gW_len
  have gx : ∀ k, k < 60 → (gW (cCell adx cyI cyO) adx 60 σ ++ gW (mCell adm cyI cyO) adm 16 mSt0)[k]? = some (adx k, cCell adx cyI cyO σ k) := fun k hk => by rw [List.getElem?_append_left (by omega), gW_get hk]
  have gm : ∀ k, k < 16 → (gW (cCell adx cyI cyO) adx 60 σ ++ gW (mCell adm cyI cyO) adm 16 mSt0)[60 + k]? = some (adm k, mCell adm cyI cyO mSt0 k) := fun k hk => by rw [List.getElem?_append_right (by omega), lx, Nat.add_sub_cancel_left, gW_get hk]
  have hA : ∀ q, va_A [] s.heap.size q → s.heap.size ≤ q := by
    intro q h
    rcases h with ⟨k, e1, h⟩ | h
    · simp at h
    · exact h
  have hax : ∀ j, j < 60 → s.heap.size ≤ adx j := fun j hj => hA _ (hD.2 j _ (gx j hj))
  have ham : ∀ k, k < 16 → s.heap.size ≤ adm k := fun k hk => hA _ (hD.2 (60 + k) _ (gm k hk))
  have hdis : ∀ j k, j < 60 → k < 16 → adx j ≠ adm k := fun j k hj hk h => by
    have := hD.1 j (60 + k) _ _ (gx j hj) (gm k hk) h
    omega
  have wx : gWd (dC, dI) (tyL cyI cyO) (cCell adx cyI cyO) adx 60 s H locs σ := by
    refine ⟨hK, hN, fun k q hq => ?_, ⟨fun i j x y hi hj h => ?_, fun k q hq => ?_⟩, hS.1, fun q h1 h2 => hS.2.1 q h1 (fun h => h2 (Or.inr (hA q h))), fun q hq => Or.inr (hA _ (hS.2.2 q hq))⟩
    · have hk := gW_lt hq
      rw [gW_get hk] at hq
      exact hP k q ((gx k hk).trans hq)
    · have h1 := gW_lt hi
      have h2 := gW_lt hj
      rw [gW_get h1] at hi
      rw [gW_get h2] at hj
      exact hD.1 i j x y ((gx i h1).trans hi) ((gx j h2).trans hj) h
    · have hk := gW_lt hq
      rw [gW_get hk] at hq
      cases hq
      exact Or.inl ⟨k, hk, rfl⟩
  have wm : gWd (dC, dI) (tyL cyI cyO) (mCell adm cyI cyO) adm 16 s H locs mSt0 := by
    refine ⟨hK, hN, fun k q hq => ?_, ⟨fun i j x y hi hj h => ?_, fun k q hq => ?_⟩, hS.1, fun q h1 h2 => hS.2.1 q h1 (fun h => h2 (Or.inr (hA q h))), fun q hq => Or.inr (hA _ (hS.2.2 q hq))⟩
    · have hk := gW_lt hq
      rw [gW_get hk] at hq
      exact hP (60 + k) q ((gm k hk).trans hq)
    · have h1 := gW_lt hi
      have h2 := gW_lt hj
      rw [gW_get h1] at hi
      rw [gW_get h2] at hj
      have := hD.1 (60 + i) (60 + j) x y ((gm i h1).trans hi) ((gm j h2).trans hj) h
      omega
    · have hk := gW_lt hq
      rw [gW_get hk] at hq
      cases hq
      exact Or.inl ⟨k, hk, rfl⟩
  have hbA : ¬ gA adx 60 s.heap.size b := by
    rintro (⟨k, hk, e1⟩ | h)
    · have := hax k hk
      omega
    · omega
  rw [← e56, ← e0] at hl
  exact law_loop hL C hX hbl hbA hsim hmo 2565 0 0 σ mSt0 H locs ls (by decide) (by decide) nI_0.symm (hrel σ hΦ) ⟨wx, wm, hdis, hax, ham⟩ (lv_sub hl [3, 2, 1, 0] rfl)
