def SimAll (Rel Rel2 : St → St → Prop) : Prop := Sim_clerks Rel Rel2 ∧ Sim_work Rel Rel2 ∧ Sim_send Rel Rel2 ∧ Sim_get Rel Rel2 ∧ Sim_writes Rel Rel2 ∧ Sim_loses Rel Rel2 ∧ Sim_draw Rel Rel2 ∧ Sim_of Rel Rel2 ∧ Sim_page Rel Rel2 ∧ Sim_dead Rel Rel2 ∧ Sim_end Rel Rel2 ∧ Sim_letter Rel Rel2 ∧ Sim_sweeps Rel Rel2 ∧ Sim_says Rel Rel2 ∧ Sim_release Rel Rel2 ∧ Sim_saying Rel Rel2 ∧ Sim_released Rel Rel2 ∧ Sim_cuts Rel Rel2 ∧ Sim_would Rel Rel2 ∧ Sim_worst Rel Rel2 ∧ Sim_type Rel Rel2 ∧ Sim_clear Rel Rel2 ∧ Sim_does Rel Rel2 ∧ Sim_told Rel Rel2 ∧ Sim_digest Rel Rel2
theorem lw_in {L i : Nat} (hL : L ≤ 2560) (hi : i ≤ 2560) (c1 : ¬ Int32.ofNat L - (5 : Int32) < nI i) : i + 5 ≤ L := by
  have h1 : (Int32.ofNat L - (5 : Int32)).toInt = (L : Int) - 5 := pk_sub_toInt (a := L) (b := 5) (by omega) (by decide)
  have h2 : (nI i).toInt = (i : Int) := nI_toInt (by omega)
  rw [Int32.lt_iff_toInt_lt, h1, h2] at c1
  omega
theorem lw_at {L i j : Nat} (hL : L ≤ 2560) (h : i + 5 ≤ L) (hj : j < 5) {v : Int32} (hv : v = nI j) : vp_in (nI i + v) L := by
  rw [hv, nI_add]
  exact vp_in_nI (by omega) (by omega)
set_option maxHeartbeats 4000000 in
set_option maxRecDepth 100000 in
theorem law_loop {D : va_G} {cyI cyO : ClassId} {adx adm : Nat → Nat} {p : Program} {l : Launch} {e : Env} {s : State} {m : MethodId} {below : List Frame} {meth : Method} {c : Code} {b L : Nat} {xs : Nat → Int32} (hL : L ≤ 2560) (C : Cx p s m #[Value.ref b] meth c code 4 ret RL) (hX : va_X b L xs s s.heap) (hbl : b < s.heap.size) (hbA : ¬ gA adx 60 s.heap.size b) {Rel : Nat → St → St → Prop} (hsA : ∀ i, i ≤ 2560 → SimAll (Rel i) (Rel (i + 5))) (hmo : ∀ i σ μ, Rel i σ μ → Rel (i + 5) σ μ) :
    ∀ (N i : Nat) (x3 : Int32) (σ μ : St) (H : Heap) (locs : List Loc) (ls : Array Slot), i ≤ 2560 → 2565 ≤ i + N → x3 = nI i → Rel i σ μ → LWd D cyI cyO adx adm s H locs σ μ → lv_has ls 4 [(0, .ref b), (1, .ref (adx 56)), (2, .ref (adm 0)), (3, .int x3)] → W p l e room_1 s m #[Value.ref b] below meth c H locs 600000 7302250 (lw_Z below #[Value.ref b] s) (F0 m 18 ls []) := by
  obtain ⟨hx, hb, hr, hml, hown, hts, hlk⟩ := id C
  intro N
  induction N with
  | zero =>
    intro i x3 σ μ H locs ls h1 h2
    exact absurd h2 (by omega)
  | succ N ih =>
    intro i x3 σ μ H locs ls hi hN ex hR wd hl
    refine lv_iload_n hx hb dL_law_18 rfl (lv_at hl 3 rfl) ?_
    refine lv_aload_n hx hb dL_law_19 rfl (lv_at hl 0 rfl) ?_
    refine va_slen hx hb hX hbl hbA wd.1.2.2.2.2 dL_law_20 ?_
    refine lv_iconst (v := (5 : Int32)) hx hb dL_law_21 (by decide) ?_
    refine lv_isub hx hb dL_law_22 ?_
    refine lv_icmp_gt (tgt := 840) hx hb dL_law_23 (by decide) (fun c1 => ?_) (fun c1 => ?_)
    · refine lv_iconst (v := 1) hx hb dL_law_840 (by decide) ?_
      have hl1 : ∀ q ∈ locs, s.heap.size ≤ q.base := by
        intro q hq
        rcases wd.1.2.2.2.2.2.2 q hq with ⟨j, hj, e1⟩ | h1
        · rw [e1]
          exact wd.2.2.2.1 j hj
        · exact h1
      refine va_forget hl1 ?_
      exact lw_ret hx hb hr hlk dL_law_841
    · rw [ex] at c1
      have hin := lw_in hL hi c1
      have h0 : vp_in x3 L := by rw [ex]; exact vp_in_nI (by omega) (by omega)
      have hi1 : vp_in (x3 + (1 : Int32)) L := by rw [ex]; exact lw_at hL hin (j := 1) (by decide) rfl
      have hi2 : vp_in (x3 + (2 : Int32)) L := by rw [ex]; exact lw_at hL hin (j := 2) (by decide) rfl
      have hi3 : vp_in (x3 + (3 : Int32)) L := by rw [ex]; exact lw_at hL hin (j := 3) (by decide) rfl
      have hi4 : vp_in (x3 + (4 : Int32)) L := by rw [ex]; exact lw_at hL hin (j := 4) (by decide) rfl
      refine lv_aload_n hx hb dL_law_26 rfl (lv_at hl 0 rfl) ?_
      refine lv_iload_n hx hb dL_law_27 rfl (lv_at hl 3 rfl) ?_
      refine va_sld hx hb hX hbl hbA wd.1.2.2.2.2 h0 dL_law_28 ?_
      refine lv_bipush (v := (31 : Int32)) hx hb dL_law_29 (by decide) ?_
      refine lv_iand hx hb dL_law_31 ?_
      refine lv_topi (fun y ey => ?_)
      have hs := hsA i hi
      have kk : ∀ (σ μ : St) (H : Heap) (locs : List Loc) (ls : Array Slot), Rel (i + 5) σ μ → LWd D cyI cyO adx adm s H locs σ μ → lv_has ls 4 [(0, .ref b), (1, .ref (adx 56)), (2, .ref (adm 0)), (3, .int x3)] → W p l e room_1 s m #[Value.ref b] below meth c H locs 600000 7302250 (lw_Z below #[Value.ref b] s) (F0 m 834 ls []) := by
        intro σ μ H locs ls hR wd hl
        obtain ⟨y, ey⟩ : ∃ y : Int32, y = x3 + (5 : Int32) := ⟨_, rfl⟩
        refine lv_iinc (v := y) (lv' := [(3, .int y), (0, .ref b), (1, .ref (adx 56)), (2, .ref (adm 0))]) hx hb dL_law_834 hl (k := 3) rfl (by rw [ey]; rfl) (by decide) rfl (fun ls hl => ?_)
        refine lv_goto (tgt := 18) hx hb dL_law_837 (by decide) ?_
        exact ih (i + 5) y σ μ H locs ls (by omega) (by omega) (by rw [ey, ex]; exact nI_add i 5) hR wd (lv_sub hl [1, 2, 3, 0] rfl)
      by_cases c10 : y = (0 : Int32)
      · refine lv_tableIn (off := 116) (tgt := 148) hx hb dL_law_32 (by rw [c10]; decide) (by rw [c10]; decide) (by rw [c10]; rfl) (by decide) ?_
        exact lc_clerks C hX hbl hs.1 hR wd hbA hl hi1 hi2 hi3 hi4 kk
      by_cases c11 : y = (1 : Int32)
      · refine lv_tableIn (off := 139) (tgt := 171) hx hb dL_law_32 (by rw [c11]; decide) (by rw [c11]; decide) (by rw [c11]; rfl) (by decide) ?_
        exact lc_work C hX hbl hs.2.1 hR wd hbA hl hi1 hi2 hi3 hi4 kk
      by_cases c12 : y = (2 : Int32)
      · refine lv_tableIn (off := 172) (tgt := 204) hx hb dL_law_32 (by rw [c12]; decide) (by rw [c12]; decide) (by rw [c12]; rfl) (by decide) ?_
        exact lc_send C hX hbl hs.2.2.1 hR wd hbA hl hi1 hi2 hi3 hi4 kk
      by_cases c13 : y = (3 : Int32)
      · refine lv_tableIn (off := 205) (tgt := 237) hx hb dL_law_32 (by rw [c13]; decide) (by rw [c13]; decide) (by rw [c13]; rfl) (by decide) ?_
        exact lc_get C hX hbl hs.2.2.2.1 hR wd hbA hl hi1 hi2 hi3 hi4 kk
      by_cases c14 : y = (4 : Int32)
      · refine lv_tableIn (off := 238) (tgt := 270) hx hb dL_law_32 (by rw [c14]; decide) (by rw [c14]; decide) (by rw [c14]; rfl) (by decide) ?_
        exact lc_writes C hX hbl hs.2.2.2.2.1 hR wd hbA hl hi1 hi2 hi3 hi4 kk
      by_cases c15 : y = (5 : Int32)
      · refine lv_tableIn (off := 271) (tgt := 303) hx hb dL_law_32 (by rw [c15]; decide) (by rw [c15]; decide) (by rw [c15]; rfl) (by decide) ?_
        exact lc_loses C hX hbl hs.2.2.2.2.2.1 hR wd hbA hl hi1 hi2 hi3 hi4 kk
      by_cases c16 : y = (6 : Int32)
      · refine lv_tableIn (off := 294) (tgt := 326) hx hb dL_law_32 (by rw [c16]; decide) (by rw [c16]; decide) (by rw [c16]; rfl) (by decide) ?_
        exact lc_draw C hX hbl hs.2.2.2.2.2.2.1 hR wd hbA hl hi1 hi2 hi3 hi4 kk
      by_cases c17 : y = (7 : Int32)
      · refine lv_tableIn (off := 327) (tgt := 359) hx hb dL_law_32 (by rw [c17]; decide) (by rw [c17]; decide) (by rw [c17]; rfl) (by decide) ?_
        exact lc_of C hX hbl hs.2.2.2.2.2.2.2.1 hR wd hbA hl hi1 hi2 hi3 hi4 kk
      by_cases c18 : y = (8 : Int32)
      · refine lv_tableIn (off := 360) (tgt := 392) hx hb dL_law_32 (by rw [c18]; decide) (by rw [c18]; decide) (by rw [c18]; rfl) (by decide) ?_
        exact lc_page C hX hbl hs.2.2.2.2.2.2.2.2.1 hR wd hbA hl hi1 hi2 hi3 hi4 kk
      by_cases c19 : y = (9 : Int32)
      · refine lv_tableIn (off := 413) (tgt := 445) hx hb dL_law_32 (by rw [c19]; decide) (by rw [c19]; decide) (by rw [c19]; rfl) (by decide) ?_
        exact lc_dead C hX hbl hs.2.2.2.2.2.2.2.2.2.1 hR wd hbA hl hi1 hi2 hi3 hi4 kk
      by_cases c20 : y = (10 : Int32)
      · refine lv_tableIn (off := 456) (tgt := 488) hx hb dL_law_32 (by rw [c20]; decide) (by rw [c20]; decide) (by rw [c20]; rfl) (by decide) ?_
        exact lc_end C hX hbl hs.2.2.2.2.2.2.2.2.2.2.1 hR wd hbA hl hi1 hi2 hi3 hi4 kk
      by_cases c21 : y = (11 : Int32)
      · refine lv_tableIn (off := 489) (tgt := 521) hx hb dL_law_32 (by rw [c21]; decide) (by rw [c21]; decide) (by rw [c21]; rfl) (by decide) ?_
        exact lc_letter C hX hbl hs.2.2.2.2.2.2.2.2.2.2.2.1 hR wd hbA hl hi1 hi2 hi3 hi4 kk
      by_cases c22 : y = (12 : Int32)
      · refine lv_tableIn (off := 532) (tgt := 564) hx hb dL_law_32 (by rw [c22]; decide) (by rw [c22]; decide) (by rw [c22]; rfl) (by decide) ?_
        exact lc_sweeps C hX hbl hs.2.2.2.2.2.2.2.2.2.2.2.2.1 hR wd hbA hl hi1 hi2 hi3 hi4 kk
      by_cases c23 : y = (13 : Int32)
      · refine lv_tableIn (off := 545) (tgt := 577) hx hb dL_law_32 (by rw [c23]; decide) (by rw [c23]; decide) (by rw [c23]; rfl) (by decide) ?_
        exact lc_says C hX hbl hs.2.2.2.2.2.2.2.2.2.2.2.2.2.1 hR wd hbA hl hi1 hi2 hi3 hi4 kk
      by_cases c24 : y = (14 : Int32)
      · refine lv_tableIn (off := 568) (tgt := 600) hx hb dL_law_32 (by rw [c24]; decide) (by rw [c24]; decide) (by rw [c24]; rfl) (by decide) ?_
        exact lc_release C hX hbl hs.2.2.2.2.2.2.2.2.2.2.2.2.2.2.1 hR wd hbA hl hi1 hi2 hi3 hi4 kk
      by_cases c25 : y = (15 : Int32)
      · refine lv_tableIn (off := 581) (tgt := 613) hx hb dL_law_32 (by rw [c25]; decide) (by rw [c25]; decide) (by rw [c25]; rfl) (by decide) ?_
        exact lc_saying C hX hbl hs.2.2.2.2.2.2.2.2.2.2.2.2.2.2.2.1 hR wd hbA hl hi1 hi2 hi3 hi4 kk
      by_cases c26 : y = (16 : Int32)
      · refine lv_tableIn (off := 614) (tgt := 646) hx hb dL_law_32 (by rw [c26]; decide) (by rw [c26]; decide) (by rw [c26]; rfl) (by decide) ?_
        exact lc_released C hX hbl hs.2.2.2.2.2.2.2.2.2.2.2.2.2.2.2.2.1 hR wd hbA hl hi1 hi2 hi3 hi4 kk
      by_cases c27 : y = (17 : Int32)
      · refine lv_tableIn (off := 637) (tgt := 669) hx hb dL_law_32 (by rw [c27]; decide) (by rw [c27]; decide) (by rw [c27]; rfl) (by decide) ?_
        exact lc_cuts C hX hbl hs.2.2.2.2.2.2.2.2.2.2.2.2.2.2.2.2.2.1 hR wd hbA hl hi1 hi2 hi3 hi4 kk
      by_cases c28 : y = (18 : Int32)
      · refine lv_tableIn (off := 660) (tgt := 692) hx hb dL_law_32 (by rw [c28]; decide) (by rw [c28]; decide) (by rw [c28]; rfl) (by decide) ?_
        exact lc_would C hX hbl hs.2.2.2.2.2.2.2.2.2.2.2.2.2.2.2.2.2.2.1 hR wd hbA hl hi1 hi2 hi3 hi4 kk
      by_cases c29 : y = (19 : Int32)
      · refine lv_tableIn (off := 693) (tgt := 725) hx hb dL_law_32 (by rw [c29]; decide) (by rw [c29]; decide) (by rw [c29]; rfl) (by decide) ?_
        exact lc_worst C hX hbl hs.2.2.2.2.2.2.2.2.2.2.2.2.2.2.2.2.2.2.2.1 hR wd hbA hl hi1 hi2 hi3 hi4 kk
      by_cases c30 : y = (20 : Int32)
      · refine lv_tableIn (off := 716) (tgt := 748) hx hb dL_law_32 (by rw [c30]; decide) (by rw [c30]; decide) (by rw [c30]; rfl) (by decide) ?_
        exact lc_type C hX hbl hs.2.2.2.2.2.2.2.2.2.2.2.2.2.2.2.2.2.2.2.2.1 hR wd hbA hl hi1 hi2 hi3 hi4 kk
      by_cases c31 : y = (21 : Int32)
      · refine lv_tableIn (off := 739) (tgt := 771) hx hb dL_law_32 (by rw [c31]; decide) (by rw [c31]; decide) (by rw [c31]; rfl) (by decide) ?_
        exact lc_clear C hX hbl hs.2.2.2.2.2.2.2.2.2.2.2.2.2.2.2.2.2.2.2.2.2.1 hR wd hbA hl hi1 hi2 hi3 hi4 kk
      by_cases c32 : y = (22 : Int32)
      · refine lv_tableIn (off := 752) (tgt := 784) hx hb dL_law_32 (by rw [c32]; decide) (by rw [c32]; decide) (by rw [c32]; rfl) (by decide) ?_
        exact lc_does C hX hbl hs.2.2.2.2.2.2.2.2.2.2.2.2.2.2.2.2.2.2.2.2.2.2.1 hR wd hbA hl hi1 hi2 hi3 hi4 kk
      by_cases c33 : y = (23 : Int32)
      · refine lv_tableIn (off := 765) (tgt := 797) hx hb dL_law_32 (by rw [c33]; decide) (by rw [c33]; decide) (by rw [c33]; rfl) (by decide) ?_
        exact lc_told C hX hbl hs.2.2.2.2.2.2.2.2.2.2.2.2.2.2.2.2.2.2.2.2.2.2.2.1 hR wd hbA hl hi1 hi2 hi3 hi4 kk
      by_cases c34 : y = (24 : Int32)
      · refine lv_tableIn (off := 788) (tgt := 820) hx hb dL_law_32 (by rw [c34]; decide) (by rw [c34]; decide) (by rw [c34]; rfl) (by decide) ?_
        exact lc_digest C hX hbl hs.2.2.2.2.2.2.2.2.2.2.2.2.2.2.2.2.2.2.2.2.2.2.2.2 hR wd hbA hl hi1 hi2 hi3 hi4 kk
      have hd : y.toInt < 0 ∨ 24 < y.toInt := by
        have b0 : y.toInt ≠ 0 := fun q => c10 (Int32.toInt_inj.mp q)
        have b1 : y.toInt ≠ 1 := fun q => c11 (Int32.toInt_inj.mp q)
        have b2 : y.toInt ≠ 2 := fun q => c12 (Int32.toInt_inj.mp q)
        have b3 : y.toInt ≠ 3 := fun q => c13 (Int32.toInt_inj.mp q)
        have b4 : y.toInt ≠ 4 := fun q => c14 (Int32.toInt_inj.mp q)
        have b5 : y.toInt ≠ 5 := fun q => c15 (Int32.toInt_inj.mp q)
        have b6 : y.toInt ≠ 6 := fun q => c16 (Int32.toInt_inj.mp q)
        have b7 : y.toInt ≠ 7 := fun q => c17 (Int32.toInt_inj.mp q)
        have b8 : y.toInt ≠ 8 := fun q => c18 (Int32.toInt_inj.mp q)
        have b9 : y.toInt ≠ 9 := fun q => c19 (Int32.toInt_inj.mp q)
        have b10 : y.toInt ≠ 10 := fun q => c20 (Int32.toInt_inj.mp q)
        have b11 : y.toInt ≠ 11 := fun q => c21 (Int32.toInt_inj.mp q)
        have b12 : y.toInt ≠ 12 := fun q => c22 (Int32.toInt_inj.mp q)
        have b13 : y.toInt ≠ 13 := fun q => c23 (Int32.toInt_inj.mp q)
        have b14 : y.toInt ≠ 14 := fun q => c24 (Int32.toInt_inj.mp q)
        have b15 : y.toInt ≠ 15 := fun q => c25 (Int32.toInt_inj.mp q)
        have b16 : y.toInt ≠ 16 := fun q => c26 (Int32.toInt_inj.mp q)
        have b17 : y.toInt ≠ 17 := fun q => c27 (Int32.toInt_inj.mp q)
        have b18 : y.toInt ≠ 18 := fun q => c28 (Int32.toInt_inj.mp q)
        have b19 : y.toInt ≠ 19 := fun q => c29 (Int32.toInt_inj.mp q)
        have b20 : y.toInt ≠ 20 := fun q => c30 (Int32.toInt_inj.mp q)
        have b21 : y.toInt ≠ 21 := fun q => c31 (Int32.toInt_inj.mp q)
        have b22 : y.toInt ≠ 22 := fun q => c32 (Int32.toInt_inj.mp q)
        have b23 : y.toInt ≠ 23 := fun q => c33 (Int32.toInt_inj.mp q)
        have b24 : y.toInt ≠ 24 := fun q => c34 (Int32.toInt_inj.mp q)
        omega
      refine lv_tableOut (tgt := 834) hx hb dL_law_32 hd (by decide) ?_
      exact kk σ μ H locs ls (hmo i σ μ hR) wd hl
