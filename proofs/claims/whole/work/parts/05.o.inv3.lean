theorem inv_loss {a : AS} (h : Inv a) {c : Nat} (hc : c < nA a) (hold : ¬ ∃ d, d < nA a ∧ 60 ≤ life a d) : Inv (lossA a c) := by
  obtain ⟨hb, hs, hi, hj⟩ := h
  have o : ∀ t, t ≠ 1 → t ≠ 2 → t ≠ 3 → t ≠ 5 → t ≠ 19 → t ≠ 22 → lossA a c t = a t := fun t q1 q2 q3 q5 q19 q22 => by rw [loss_mid q19 q22, mid_oth ⟨q1, q2, q3, q5⟩]
  have o0 : lossA a c 0 = a 0 := o 0 (by decide) (by decide) (by decide) (by decide) (by decide) (by decide)
  have o4 : lossA a c 4 = a 4 := o 4 (by decide) (by decide) (by decide) (by decide) (by decide) (by decide)
  have o6 : lossA a c 6 = a 6 := o 6 (by decide) (by decide) (by decide) (by decide) (by decide) (by decide)
  have o7 : lossA a c 7 = a 7 := o 7 (by decide) (by decide) (by decide) (by decide) (by decide) (by decide)
  have o8 : lossA a c 8 = a 8 := o 8 (by decide) (by decide) (by decide) (by decide) (by decide) (by decide)
  have o9 : lossA a c 9 = a 9 := o 9 (by decide) (by decide) (by decide) (by decide) (by decide) (by decide)
  have o10 : lossA a c 10 = a 10 := o 10 (by decide) (by decide) (by decide) (by decide) (by decide) (by decide)
  have o11 : lossA a c 11 = a 11 := o 11 (by decide) (by decide) (by decide) (by decide) (by decide) (by decide)
  have o12 : lossA a c 12 = a 12 := o 12 (by decide) (by decide) (by decide) (by decide) (by decide) (by decide)
  have o13 : lossA a c 13 = a 13 := o 13 (by decide) (by decide) (by decide) (by decide) (by decide) (by decide)
  have o14 : lossA a c 14 = a 14 := o 14 (by decide) (by decide) (by decide) (by decide) (by decide) (by decide)
  have o15 : lossA a c 15 = a 15 := o 15 (by decide) (by decide) (by decide) (by decide) (by decide) (by decide)
  have o16 : lossA a c 16 = a 16 := o 16 (by decide) (by decide) (by decide) (by decide) (by decide) (by decide)
  have o17 : lossA a c 17 = a 17 := o 17 (by decide) (by decide) (by decide) (by decide) (by decide) (by decide)
  have o18 : lossA a c 18 = a 18 := o 18 (by decide) (by decide) (by decide) (by decide) (by decide) (by decide)
  have o20 : lossA a c 20 = a 20 := o 20 (by decide) (by decide) (by decide) (by decide) (by decide) (by decide)
  have o21 : lossA a c 21 = a 21 := o 21 (by decide) (by decide) (by decide) (by decide) (by decide) (by decide)
  have o26 : lossA a c 26 = a 26 := o 26 (by decide) (by decide) (by decide) (by decide) (by decide) (by decide)
  have o27 : lossA a c 27 = a 27 := o 27 (by decide) (by decide) (by decide) (by decide) (by decide) (by decide)
  have m1 : lossA a c 1 = midA a c (felled a c) 1 := loss_mid (by decide) (by decide)
  have m2 : lossA a c 2 = midA a c (felled a c) 2 := loss_mid (by decide) (by decide)
  have m3 : lossA a c 3 = midA a c (felled a c) 3 := loss_mid (by decide) (by decide)
  have m5 : lossA a c 5 = midA a c (felled a c) 5 := loss_mid (by decide) (by decide)
  have lf : ∀ i, (felled a c i → life (lossA a c) i = life a i + 1) ∧ (¬ felled a c i → life (lossA a c) i = life a i) := by
    intro i
    unfold life
    rw [m1]
    exact mid_life
  have nw : ∀ i, (felled a c i → now (lossA a c) i = keep a c i) ∧ (¬ felled a c i → now (lossA a c) i = now a i) := by
    intro i
    unfold now
    rw [m2]
    exact mid_now
  have nwn : ∀ i, i < nA a → now (lossA a c) i = keep a c i := by
    intro i hi'
    unfold now
    rw [m2]
    exact fel_now hb hc hi'
  have wr' : ∀ i, (felled a c i → wri (lossA a c) i = if wri a i < keep a c i then wri a i else keep a c i) ∧ (¬ felled a c i → wri (lossA a c) i = wri a i) := by
    intro i
    unfold wri
    rw [m3]
    exact mid_wri
  have en : ∀ i j, (felled a c i → j = life a i → ends (lossA a c) i j = keep a c i) ∧ (¬ (felled a c i ∧ j = life a i) → ends (lossA a c) i j = ends a i j) := by
    intro i j
    unfold ends
    rw [m5]
    exact mid_ends
  have nle : ∀ i, now (lossA a c) i ≤ now a i := by
    intro i
    by_cases q : felled a c i
    · rw [(nw i).1 q]
      exact keep_le hb hc
    · rw [(nw i).2 q]
      exact Nat.le_refl _
  have lle : ∀ i, life a i ≤ life (lossA a c) i := by
    intro i
    by_cases q : felled a c i
    · rw [(lf i).1 q]
      omega
    · rw [(lf i).2 q]
      exact Nat.le_refl _
  have eold : ∀ i j, j < life a i → ends (lossA a c) i j = ends a i j := fun i j hj' => (en i j).2 (fun q => by have := q.2; omega)
  have hk : ∀ d, d < nA a → ∀ k, k ≤ now (lossA a c) d → k ≤ keep a c d := fun d hd k hk => by rw [nwn d hd] at hk; exact hk
  have hdl : ∀ m, m < lcn a → ¬ deadL (lossA a c) m → ¬ deadL a m ∧ ∀ e, e < nA a → lrp a m e ≤ now (lossA a c) e := by
    intro m hm hn
    have h1 : ¬ deadL a m := by
      rintro ⟨e, he, i, z1, z2, z3⟩
      refine hn ⟨e, by unfold nA; rw [o0]; exact he, i, ?_, ?_, ?_⟩
      · show lossA a c 14 m e 0 ≤ i
        rw [o14]
        exact z1
      · exact Nat.lt_of_lt_of_le z2 (lle e)
      · show _ < lossA a c 15 m e 0
        rw [o15, eold e i z2]
        exact z3
    refine ⟨h1, fun e he => ?_⟩
    by_cases q : felled a c e
    · rw [(nw e).1 q]
      rcases Nat.lt_or_ge (keep a c e) (lrp a m e) with z | z
      · refine absurd ⟨e, by unfold nA; rw [o0]; exact he, life a e, ?_, ?_, ?_⟩ hn
        · show lossA a c 14 m e 0 ≤ _
          rw [o14]
          exact hj.1 m hm e he
        · rw [(lf e).1 q]
          omega
        · show _ < lossA a c 15 m e 0
          rw [o15, (en e _).1 q rfl]
          exact z
      · exact z
    · rw [(nw e).2 q]
      exact hj.2.2.2.1 m hm h1 e he
  obtain ⟨b1, b2, b3, b4, b5, b6, b7, b8, b9⟩ := id hb
  obtain ⟨s1, s2, s3, s4, s5, s6, s7, s8, s9, s10⟩ := hs
  obtain ⟨i1, i2, i3, i4, i5, i6, i7, i8, i9, i10, i11⟩ := id hi
  obtain ⟨j1, j2, j3, j4, j5, j6, j7⟩ := hj
  have n5 : ∀ d, d < nA a → d < 5 := fun d hd => Nat.lt_of_lt_of_le hd b1.2
  refine ⟨⟨?_, ?_, ?_, ?_, ?_, ?_, ?_, ?_, ?_⟩, ⟨?_, ?_, ?_, ?_, ?_, ?_, ?_, ?_, ?_, ?_⟩, ⟨?_, ?_, ?_, ?_, ?_, ?_, ?_, ?_, ?_, ?_, ?_⟩, ⟨?_, ?_, ?_, ?_, ?_, ?_, ?_⟩⟩
  · unfold nA; rw [o0]; exact b1
  · intro i hi'
    exact Nat.le_trans (nle i) (b2 i hi')
  · intro i hi'
    by_cases q : felled a c i
    · rw [(wr' i).1 q, (nw i).1 q]
      by_cases z : wri a i < keep a c i
      · rw [if_pos z]
        omega
      · rw [if_neg z]
        exact Nat.le_refl _
    · rw [(wr' i).2 q, (nw i).2 q]
      exact b3 i hi'
  · intro i hi'
    show lossA a c 4 i 0 0 ≤ _
    rw [o4]
    by_cases q : i < nA a
    · rw [nwn i q]
      exact keep_frm hb hi hc q
    · rw [(nw i).2 (fun z => q z.1)]
      exact b4 i hi'
  · intro i hi'
    by_cases q : felled a c i
    · rw [(lf i).1 q]
      rcases Nat.lt_or_ge (life a i) 60 with z | z
      · omega
      · exact absurd ⟨i, q.1, z⟩ hold
    · rw [(lf i).2 q]
      exact b5 i hi'
  · unfold lcn; rw [o10]; exact b6
  · unfold scn; rw [o16]; exact b7
  · unfold rcn scn; rw [o20, o16]; exact b8
  · unfold tln; rw [o26]; exact b9
  · intro i hi' k hk'
    show lossA a c 7 i k 0 < _
    rw [o7]
    exact s1 i hi' k (Nat.le_trans hk' (nle i))
  · unfold lcn lsm; rw [o10, o13]; exact s2
  · intro i hi' k hk' d hd
    show lossA a c 8 i k d ≤ _ ∧ lossA a c 9 i k d ≤ _
    rw [o8, o9]
    exact s3 i hi' k (Nat.le_trans hk' (nle i)) d hd
  · unfold lcn lrl lrp; rw [o10, o14, o15]; exact s4
  · intro i hi' l hl
    by_cases q : felled a c i ∧ l = life a i
    · rw [(en i l).1 q.1 q.2]
      exact Nat.le_trans (keep_le hb hc) (b2 i hi')
    · rw [(en i l).2 q]
      refine s5 i hi' l ?_
      by_cases z : felled a c i
      · rw [(lf i).1 z] at hl
        have : l ≠ life a i := fun y => q ⟨z, y⟩
        omega
      · rw [(lf i).2 z] at hl
        exact hl
  · intro i hi' k hk'
    show lossA a c 6 i k 0 ≤ _
    rw [o6]
    exact s6 i hi' k (Nat.le_trans hk' (nle i))
  · unfold lcn lto lby nA; rw [o10, o11, o12, o0]; exact s7
  · intro k hk'
    have hk' : k < scn a := by unfold scn at hk'; rw [o16] at hk'; exact hk'
    have := s8 k hk'
    show lossA a c 17 k 0 0 < lossA a c 0 0 0 0 ∧ lossA a c 18 k 0 0 ≤ 23 ∧ _
    rw [o17, o0, o18]
    refine ⟨this.1, this.2.1, ?_⟩
    by_cases q : sst a k = 0 ∧ keep a c (sck a k) < spg a k
    · rw [loss_sst.1 q]
      exact Nat.le_refl _
    · rw [loss_sst.2 q]
      exact this.2.2
  · unfold rcn rel scn; rw [o20, o21, o16]; exact s9
  · unfold tln txt; rw [o26, o27]; exact s10
  · intro d hd k hk'
    have hd : d < nA a := by unfold nA at hd; rw [o0] at hd; exact hd
    show lossA a c 9 d k d = k
    rw [o9]
    exact i1 d hd k (Nat.le_trans hk' (nle d))
  · intro d hd k hk' e he
    have hd : d < nA a := by unfold nA at hd; rw [o0] at hd; exact hd
    have he : e < nA a := by unfold nA at he; rw [o0] at he; exact he
    show lossA a c 9 d k e ≤ lossA a c 9 d (k + 1) e
    rw [o9]
    exact i2 d hd k (Nat.lt_of_lt_of_le hk' (nle d)) e he
  · intro d hd k hk' e he
    have hd : d < nA a := by unfold nA at hd; rw [o0] at hd; exact hd
    have he : e < nA a := by unfold nA at he; rw [o0] at he; exact he
    rw [nwn e he]
    show lossA a c 9 d k e ≤ _
    rw [o9]
    exact keep_rest hb hi hc hd he (hk d hd k hk')
  · intro d hd k hk' e he f hf
    have hd : d < nA a := by unfold nA at hd; rw [o0] at hd; exact hd
    have he : e < nA a := by unfold nA at he; rw [o0] at he; exact he
    have hf : f < nA a := by unfold nA at hf; rw [o0] at hf; exact hf
    show lossA a c 9 e (lossA a c 9 d k e) f ≤ lossA a c 9 d k f
    rw [o9]
    exact i4 d hd k (Nat.le_trans hk' (nle d)) e he f hf
  · intro d hd k hk' e he
    have hd : d < nA a := by unfold nA at hd; rw [o0] at hd; exact hd
    have he : e < nA a := by unfold nA at he; rw [o0] at he; exact he
    show lossA a c 8 d k e ≤ _
    rw [o8]
    exact Nat.le_trans (i5 d hd k (Nat.le_trans hk' (nle d)) e he) (lle e)
  · intro d hd k hk' e he i h1 h2
    have hd : d < nA a := by unfold nA at hd; rw [o0] at hd; exact hd
    have he : e < nA a := by unfold nA at he; rw [o0] at he; exact he
    have h1 : a 8 d k e ≤ i := by
      have h1 : lossA a c 8 d k e ≤ i := h1
      rw [o8] at h1
      exact h1
    show lossA a c 9 d k e ≤ _
    rw [o9]
    by_cases q : felled a c e ∧ i = life a e
    · rw [(en e i).1 q.1 q.2]
      exact keep_rest hb hi hc hd he (hk d hd k hk')
    · rw [(en e i).2 q]
      refine i6 d hd k (Nat.le_trans hk' (nle d)) e he i h1 ?_
      by_cases z : felled a c e
      · rw [(lf e).1 z] at h2
        have : i ≠ life a e := fun y => q ⟨z, y⟩
        omega
      · rw [(lf e).2 z] at h2
        exact h2
  · intro d hd k hk' e he h1
    have hd : d < nA a := by unfold nA at hd; rw [o0] at hd; exact hd
    have he : e < nA a := by unfold nA at he; rw [o0] at he; exact he
    have hkn := Nat.le_trans hk' (nle d)
    have hl := i5 d hd k hkn e he
    have h1 : 1 ≤ rsl a d k e := by
      have h1 : 1 ≤ lossA a c 8 d k e := h1
      rw [o8] at h1
      exact h1
    show ends (lossA a c) e (lossA a c 8 d k e - 1) < lossA a c 9 d k e
    rw [o8, o9, eold e _ (show rsl a d k e - 1 < life a e by omega)]
    exact i7 d hd k hkn e he h1
  · intro e he h1
    have he : e < nA a := by unfold nA at he; rw [o0] at he; exact he
    by_cases q : felled a c e
    · rw [(lf e).1 q, (nw e).1 q, (en e _).1 q (by omega)]
      exact Nat.le_refl _
    · rw [(lf e).2 q] at h1
      rw [(lf e).2 q, (nw e).2 q, eold e _ (by omega)]
      exact i8 e he h1
  · intro d hd k hk' e he
    have hd : d < nA a := by unfold nA at hd; rw [o0] at hd; exact hd
    have he : e < nA a := by unfold nA at he; rw [o0] at he; exact he
    have hk' : k ≤ frm a d := by
      have hk' : k ≤ lossA a c 4 d 0 0 := hk'
      rw [o4] at hk'
      exact hk'
    show lossA a c 9 d k e ≤ _
    rw [o9]
    have z1 := i9 d hd k hk' e he
    have z2 := keep_rest hb hi hc hd he (k := k) (Nat.le_trans hk' (keep_frm hb hi hc hd))
    have z1 : a 9 d k e ≤ wri a e := z1
    have z2 : a 9 d k e ≤ keep a c e := z2
    by_cases q : felled a c e
    · rw [(wr' e).1 q]
      by_cases z : wri a e < keep a c e
      · rw [if_pos z]
        exact z1
      · rw [if_neg z]
        exact z2
    · rw [(wr' e).2 q]
      exact z1
  · intro d hd e he
    have hd : d < nA a := by unfold nA at hd; rw [o0] at hd; exact hd
    have he : e < nA a := by unfold nA at he; rw [o0] at he; exact he
    show lossA a c 9 d 0 e = 0
    rw [o9]
    exact i10 d hd e he
  · intro d hd k hk' e h1 h2
    have hd : d < nA a := by unfold nA at hd; rw [o0] at hd; exact hd
    have h1 : nA a ≤ e := by unfold nA at h1; rw [o0] at h1; exact h1
    show lossA a c 8 d k e = 0 ∧ lossA a c 9 d k e = 0
    rw [o8, o9]
    exact i11 d hd k (Nat.le_trans hk' (nle d)) e h1 h2
  · intro m hm e he
    have hm : m < lcn a := by unfold lcn at hm; rw [o10] at hm; exact hm
    have he : e < nA a := by unfold nA at he; rw [o0] at he; exact he
    show lossA a c 14 m e 0 ≤ _
    rw [o14]
    exact Nat.le_trans (j1 m hm e he) (lle e)
  · intro m hm e he h1
    have hm : m < lcn a := by unfold lcn at hm; rw [o10] at hm; exact hm
    have he : e < nA a := by unfold nA at he; rw [o0] at he; exact he
    have h1 : 1 ≤ lrl a m e := by
      have h1 : 1 ≤ lossA a c 14 m e 0 := h1
      rw [o14] at h1
      exact h1
    have hl := j1 m hm e he
    show ends (lossA a c) e (lossA a c 14 m e 0 - 1) < lossA a c 15 m e 0
    rw [o14, o15, eold e _ (show lrl a m e - 1 < life a e by omega)]
    exact j2 m hm e he h1
  · unfold lcn nA lrl lrp; rw [o10, o0, o14, o15]; exact j3
  · intro m hm hn e he
    have hm : m < lcn a := by unfold lcn at hm; rw [o10] at hm; exact hm
    have he : e < nA a := by unfold nA at he; rw [o0] at he; exact he
    show lossA a c 15 m e 0 ≤ _
    rw [o15]
    exact (hdl m hm hn).2 e he
  · intro m hm hn e he f hf
    have hm : m < lcn a := by unfold lcn at hm; rw [o10] at hm; exact hm
    have he : e < nA a := by unfold nA at he; rw [o0] at he; exact he
    have hf : f < nA a := by unfold nA at hf; rw [o0] at hf; exact hf
    show lossA a c 9 e (lossA a c 15 m e 0) f ≤ lossA a c 15 m f 0
    rw [o9, o15]
    exact j5 m hm (hdl m hm hn).1 e he f hf
  · intro k hk' h1
    have hk' : k < scn a := by unfold scn at hk'; rw [o16] at hk'; exact hk'
    have hsk := (s8 k hk').1
    have q : ¬ (sst a k = 0 ∧ keep a c (sck a k) < spg a k) := fun z => by
      rw [loss_sst.1 z] at h1
      omega
    rw [loss_sst.2 q] at h1
    show lossA a c 18 k 0 0 ≤ now (lossA a c) (lossA a c 17 k 0 0)
    rw [o18, o17, nwn _ hsk]
    rcases Nat.lt_or_ge (keep a c (sck a k)) (spg a k) with z | z
    · exact absurd ⟨h1, z⟩ q
    · exact z
  · unfold rcn scn
    rw [o20, o16]
    have hh : ∀ k, heldN (lossA a c) k ≤ heldN a k := by
      intro k
      induction k with
      | zero => exact Nat.le_refl 0
      | succ k ih =>
        show heldN (lossA a c) k + (if sst (lossA a c) k = 0 then 1 else 0) ≤ heldN a k + (if sst a k = 0 then 1 else 0)
        by_cases q : sst a k = 0 ∧ keep a c (sck a k) < spg a k
        · rw [loss_sst.1 q, if_neg (by decide)]
          omega
        · rw [loss_sst.2 q]
          omega
    exact Nat.le_trans (Nat.add_le_add_left (hh _) _) j7
-- RELEASING
def relA (a : AS) (k : Nat) : AS := sT (sT (sT a 19 (fun i _ _ => if i = k then 1 else a 19 i 0 0)) 20 (fun _ _ _ => rcn a + 1)) 21 (fun i _ _ => if i = rcn a then k else a 21 i 0 0)
theorem heldN_pos {a : AS} : ∀ n k, k < n → sst a k = 0 → 1 ≤ heldN a n := by
  intro n
  induction n with
  | zero => intro k hk; omega
  | succ n ih =>
    intro k hk h
    show 1 ≤ heldN a n + (if sst a n = 0 then 1 else 0)
    by_cases q : k = n
    · subst q
      rw [if_pos h]
      omega
    · have := ih k (by omega) h
      omega
theorem heldN_rel {a : AS} {k : Nat} (hk0 : sst a k = 0) : ∀ n, heldN (relA a k) n + (if k < n then 1 else 0) = heldN a n := by
  intro n
  induction n with
  | zero => rfl
  | succ n ih =>
    show heldN (relA a k) n + (if sst (relA a k) n = 0 then 1 else 0) + _ = heldN a n + (if sst a n = 0 then 1 else 0)
    have e : sst (relA a k) n = if n = k then 1 else sst a n := rfl
    rw [e, ← ih]
    by_cases q : n = k
    · subst q
      rw [if_pos rfl, if_neg (by decide), if_pos (Nat.lt_succ_self n), if_neg (Nat.lt_irrefl n), if_pos hk0]
    · rw [if_neg q]
      by_cases z : k < n
      · rw [if_pos z, if_pos (show k < n + 1 by omega)]
        omega
      · rw [if_neg z, if_neg (show ¬ k < n + 1 by omega)]
        omega
theorem inv_rel {a : AS} (h : Inv a) {k : Nat} (hk : k < scn a) (hk0 : sst a k = 0) : Inv (relA a k) := by
  obtain ⟨⟨b1, b2, b3, b4, b5, b6, b7, b8, b9⟩, ⟨s1, s2, s3, s4, s5, s6, s7, s8, s9, s10⟩, hi, ⟨j1, j2, j3, j4, j5, j6, j7⟩⟩ := h
  have e : ∀ i, sst (relA a k) i = if i = k then 1 else sst a i := fun i => rfl
  have hp := heldN_pos (scn a) k hk hk0
  have hr := heldN_rel hk0 (scn a)
  rw [if_pos hk] at hr
  refine ⟨⟨b1, b2, b3, b4, b5, b6, b7, ?_, b9⟩, ⟨s1, s2, s3, s4, s5, s6, s7, fun i hi' => ?_, fun i hi' => ?_, s10⟩, hi, ⟨j1, j2, j3, j4, j5, fun i hi' h1 => ?_, ?_⟩⟩
  · show rcn a + 1 ≤ scn a
    omega
  · have := s8 i hi'
    refine ⟨this.1, this.2.1, ?_⟩
    rw [e]
    by_cases q : i = k
    · rw [if_pos q]
      decide
    · rw [if_neg q]
      exact this.2.2
  · have hi' : i < rcn a + 1 := hi'
    show (if i = rcn a then k else a 21 i 0 0) < scn a
    by_cases q : i = rcn a
    · rw [if_pos q]
      exact hk
    · rw [if_neg q]
      exact s9 i (by omega)
  · rw [e] at h1
    by_cases q : i = k
    · rw [if_pos q] at h1
      omega
    · rw [if_neg q] at h1
      exact j6 i hi' h1
  · show rcn a + 1 + heldN (relA a k) (scn a) ≤ scn a
    omega
