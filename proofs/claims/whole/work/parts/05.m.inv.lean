-- THE INVARIANT STAYS
theorem heldN_congr {a b : AS} : ∀ k, (∀ i, i < k → sst a i = sst b i) → heldN a k = heldN b k := by
  intro k
  induction k with
  | zero => intro _; rfl
  | succ k ih =>
    intro h
    show heldN a k + (if sst a k = 0 then 1 else 0) = heldN b k + (if sst b k = 0 then 1 else 0)
    rw [ih (fun i hi => h i (by omega)), h k (Nat.lt_succ_self k)]
theorem j7_of {a b : AS} (h : b 19 = a 19) {n m : Nat} (h7 : n + heldN a m ≤ m) : n + heldN b m ≤ m := by
  rw [heldN_congr (a := b) (b := a) m (fun i _ => by show b 19 i 0 0 = a 19 i 0 0; rw [h])]
  exact h7
theorem inv_bad {a : AS} (h : Inv a) : Inv (badA a) := by
  obtain ⟨hb, hs, hi, ⟨j1, j2, j3, j4, j5, j6, j7⟩⟩ := h
  exact ⟨hb, hs, hi, ⟨j1, j2, j3, j4, j5, j6, j7_of (a := a) (b := badA a) rfl j7⟩⟩
theorem inv_no {a : AS} (h : Inv a) : Inv (noA a) := by
  obtain ⟨hb, hs, hi, ⟨j1, j2, j3, j4, j5, j6, j7⟩⟩ := h
  exact ⟨hb, hs, hi, ⟨j1, j2, j3, j4, j5, j6, j7_of (a := a) (b := noA a) rfl j7⟩⟩
theorem inv_full {a : AS} (h : Inv a) : Inv (fullA a) := by
  obtain ⟨hb, hs, hi, ⟨j1, j2, j3, j4, j5, j6, j7⟩⟩ := h
  exact ⟨hb, hs, hi, ⟨j1, j2, j3, j4, j5, j6, j7_of (a := a) (b := fullA a) rfl j7⟩⟩
theorem inv_begin {a : AS} (h : Inv a) {v : Nat} (h1 : 2 ≤ v) (h2 : v ≤ 5) : Inv (beginA a v) := by
  obtain ⟨hb, hs, -, -⟩ := h
  refine ⟨⟨⟨h1, h2⟩, fun _ _ => Nat.zero_le _, fun _ _ => Nat.le_refl _, fun _ _ => Nat.le_refl _, fun _ _ => Nat.zero_le _, Nat.zero_le _, Nat.zero_le _, Nat.le_refl _, hb.2.2.2.2.2.2.2.2⟩, ⟨fun _ _ _ _ => (by show (0 : Nat) < 1000003; decide), fun m hm => absurd hm (Nat.not_lt_zero m), fun _ _ _ _ _ _ => ⟨Nat.zero_le _, Nat.zero_le _⟩, fun m hm => absurd hm (Nat.not_lt_zero m), fun _ _ l hl => absurd hl (Nat.not_lt_zero l), fun _ _ _ _ => Nat.zero_le _, fun m hm => absurd hm (Nat.not_lt_zero m), fun m hm => absurd hm (Nat.not_lt_zero m), fun m hm => absurd hm (Nat.not_lt_zero m), hs.2.2.2.2.2.2.2.2.2⟩, ⟨fun d _ k hk => ?_, fun _ _ _ _ _ _ => Nat.le_refl _, fun _ _ _ _ _ _ => Nat.le_refl _, fun _ _ _ _ _ _ _ _ => Nat.le_refl _, fun _ _ _ _ _ _ => Nat.le_refl _, fun _ _ _ _ _ _ i _ hi => absurd hi (Nat.not_lt_zero i), fun _ _ _ _ _ _ hl => absurd hl (Nat.not_lt_zero 0), fun _ _ hl => absurd hl (Nat.not_lt_zero 0), fun _ _ _ _ _ _ => Nat.le_refl _, fun _ _ _ _ => rfl, fun _ _ _ _ _ _ _ => ⟨rfl, rfl⟩⟩, ⟨fun m hm => absurd hm (Nat.not_lt_zero m), fun m hm => absurd hm (Nat.not_lt_zero m), fun m hm => absurd hm (Nat.not_lt_zero m), fun m hm => absurd hm (Nat.not_lt_zero m), fun m hm => absurd hm (Nat.not_lt_zero m), fun m hm => absurd hm (Nat.not_lt_zero m), Nat.le_refl 0⟩⟩
  have : k = 0 := Nat.le_zero.mp hk
  rw [this]
  rfl
theorem inv_type {a : AS} (h : Inv a) {v : Nat} (hv : v < 128) (ht : tln a < 120) : Inv (typeA a v) := by
  obtain ⟨⟨b1, b2, b3, b4, b5, b6, b7, b8, b9⟩, ⟨s1, s2, s3, s4, s5, s6, s7, s8, s9, s10⟩, hi, ⟨j1, j2, j3, j4, j5, j6, j7⟩⟩ := h
  refine ⟨⟨b1, b2, b3, b4, b5, b6, b7, b8, ht⟩, ⟨s1, s2, s3, s4, s5, s6, s7, s8, s9, fun i hi => ?_⟩, hi, ⟨j1, j2, j3, j4, j5, j6, j7_of (a := a) (b := typeA a v) rfl j7⟩⟩
  have hi : i < tln a + 1 := hi
  show (if i = tln a then v else a 27 i 0 0) < 128
  by_cases e : i = tln a
  · rw [if_pos e]
    exact hv
  · rw [if_neg e]
    exact s10 i (by omega)
theorem inv_clear {a : AS} (h : Inv a) : Inv (clearA a) := by
  obtain ⟨⟨b1, b2, b3, b4, b5, b6, b7, b8, b9⟩, ⟨s1, s2, s3, s4, s5, s6, s7, s8, s9, s10⟩, hi, ⟨j1, j2, j3, j4, j5, j6, j7⟩⟩ := h
  exact ⟨⟨b1, b2, b3, b4, b5, b6, b7, b8, Nat.zero_le _⟩, ⟨s1, s2, s3, s4, s5, s6, s7, s8, s9, fun i hi => absurd hi (Nat.not_lt_zero i)⟩, hi, ⟨j1, j2, j3, j4, j5, j6, j7_of (a := a) (b := clearA a) rfl j7⟩⟩
theorem inv_write {a : AS} (h : Inv a) {c m : Nat} : Inv (writeA a c m) := by
  obtain ⟨⟨b1, b2, b3, b4, b5, b6, b7, b8, b9⟩, hs, ⟨i1, i2, i3, i4, i5, i6, i7, i8, i9, i10, i11⟩, ⟨j1, j2, j3, j4, j5, j6, j7⟩⟩ := h
  have hw : ∀ i, i < 5 → wri a i ≤ wri (writeA a c m) i ∧ wri (writeA a c m) i ≤ now a i := by
    intro i hi
    have h3 := b3 i hi
    show wri a i ≤ (if i = c then (if wri a c + m < now a c then wri a c + m else now a c) else a 3 i 0 0) ∧ (if i = c then (if wri a c + m < now a c then wri a c + m else now a c) else a 3 i 0 0) ≤ now a i
    by_cases e : i = c
    · subst e
      rw [if_pos rfl]
      by_cases q : wri a i + m < now a i
      · rw [if_pos q]
        omega
      · rw [if_neg q]
        omega
    · rw [if_neg e]
      exact ⟨Nat.le_refl _, h3⟩
  refine ⟨⟨b1, b2, fun i hi => (hw i hi).2, b4, b5, b6, b7, b8, b9⟩, hs, ⟨i1, i2, i3, i4, i5, i6, i7, i8, fun d hd k hk e he => ?_, i10, i11⟩, ⟨j1, j2, j3, j4, j5, j6, j7_of (a := a) (b := writeA a c m) rfl j7⟩⟩
  have he5 : e < 5 := Nat.lt_of_lt_of_le he b1.2
  exact Nat.le_trans (i9 d hd k hk e he) (hw e he5).1
theorem firm_ok {a : AS} (hi : Iv a) {c : Nat} (hc : c < nA a) : firm a c ≤ now a c ∧ ∀ k, k ≤ firm a c → writ a c k := by
  have hle := grt_le (writ a c) (now a c)
  refine ⟨hle, fun k hk d hd => ?_⟩
  have hk : k ≤ grt (writ a c) (now a c) := hk
  rcases grt_yes (writ a c) (now a c) with h | h
  · have : k = 0 := by omega
    rw [this, hi.2.2.2.2.2.2.2.2.2.1 c hc d hd]
    exact Nat.zero_le _
  · have hm := rsp_mono hi hc hd (k := k) (grt (writ a c) (now a c) - k) (by omega)
    rw [show k + (grt (writ a c) (now a c) - k) = grt (writ a c) (now a c) by omega] at hm
    exact Nat.le_trans hm (h d hd)
theorem inv_cut {a : AS} (h : Inv a) {c : Nat} (hc : c < nA a) : Inv (cutA a c) := by
  obtain ⟨⟨b1, b2, b3, b4, b5, b6, b7, b8, b9⟩, hs, hi, ⟨j1, j2, j3, j4, j5, j6, j7⟩⟩ := h
  have hf := firm_ok hi hc
  obtain ⟨i1, i2, i3, i4, i5, i6, i7, i8, i9, i10, i11⟩ := hi
  have hfr : ∀ i, frm (cutA a c) i = if i = c then (if frm a c < firm a c then firm a c else frm a c) else frm a i := fun i => rfl
  refine ⟨⟨b1, b2, b3, fun i hi => ?_, b5, b6, b7, b8, b9⟩, hs, ⟨i1, i2, i3, i4, i5, i6, i7, i8, fun d hd k hk e he => ?_, i10, i11⟩, ⟨j1, j2, j3, j4, j5, j6, j7_of (a := a) (b := cutA a c) rfl j7⟩⟩
  · rw [hfr]
    show _ ≤ now a i
    by_cases e : i = c
    · subst e
      rw [if_pos rfl]
      by_cases q : frm a i < firm a i
      · rw [if_pos q]
        exact hf.1
      · rw [if_neg q]
        exact b4 i hi
    · rw [if_neg e]
      exact b4 i hi
  · rw [hfr] at hk
    show rsp a d k e ≤ wri a e
    by_cases q0 : d = c
    · subst q0
      rw [if_pos rfl] at hk
      by_cases q : frm a d < firm a d
      · rw [if_pos q] at hk
        exact hf.2 k hk e he
      · rw [if_neg q] at hk
        exact i9 d hd k hk e he
    · rw [if_neg q0] at hk
      exact i9 d hd k hk e he
theorem heldN_le (a : AS) : ∀ k, heldN a k ≤ k := by
  intro k
  induction k with
  | zero => exact Nat.le_refl 0
  | succ k ih =>
    show heldN a k + (if sst a k = 0 then 1 else 0) ≤ k + 1
    by_cases q : sst a k = 0
    · rw [if_pos q]
      omega
    · rw [if_neg q]
      omega
theorem inv_says {a : AS} (h : Inv a) {c : Nat} (hc : c < nA a) (hsc : scn a < 30) : Inv (saysA a c) := by
  obtain ⟨⟨b1, b2, b3, b4, b5, b6, b7, b8, b9⟩, ⟨s1, s2, s3, s4, s5, s6, s7, s8, s9, s10⟩, hi, ⟨j1, j2, j3, j4, j5, j6, j7⟩⟩ := h
  have hc5 : c < 5 := Nat.lt_of_lt_of_le hc b1.2
  refine ⟨⟨b1, b2, b3, b4, b5, b6, hsc, Nat.le_succ_of_le b8, b9⟩, ⟨s1, s2, s3, s4, s5, s6, s7, fun k hk => ?_, fun k hk => Nat.lt_succ_of_lt (s9 k hk), s10⟩, hi, ⟨j1, j2, j3, j4, j5, fun k hk => ?_, ?_⟩⟩
  · have hk : k < scn a + 1 := hk
    show (if k = scn a then c else a 17 k 0 0) < nA a ∧ (if k = scn a then now a c else a 18 k 0 0) ≤ 23 ∧ (if k = scn a then 0 else a 19 k 0 0) ≤ 2
    by_cases e : k = scn a
    · rw [if_pos e, if_pos e, if_pos e]
      exact ⟨hc, b2 c hc5, by decide⟩
    · rw [if_neg e, if_neg e, if_neg e]
      exact s8 k (by omega)
  · have hk : k < scn a + 1 := hk
    show (if k = scn a then 0 else a 19 k 0 0) = 0 → (if k = scn a then now a c else a 18 k 0 0) ≤ now a (if k = scn a then c else a 17 k 0 0)
    by_cases e : k = scn a
    · rw [if_pos e, if_pos e, if_pos e]
      exact fun _ => Nat.le_refl _
    · rw [if_neg e, if_neg e, if_neg e]
      exact j6 k (by omega)
  · show rcn a + (heldN (saysA a c) (scn a) + (if sst (saysA a c) (scn a) = 0 then 1 else 0)) ≤ scn a + 1
    have e : heldN (saysA a c) (scn a) = heldN a (scn a) := heldN_congr (scn a) (fun i hi => by
      show (if i = scn a then 0 else a 19 i 0 0) = _
      rw [if_neg (by omega)])
    have e2 : sst (saysA a c) (scn a) = 0 := by
      show (if scn a = scn a then 0 else _) = _
      rw [if_pos rfl]
    rw [e, if_pos e2]
    omega
theorem inv_take {a : AS} (h : Inv a) {m : Nat} (hm : m < lcn a) : Inv (takeA a m) := by
  obtain ⟨⟨b1, b2, b3, b4, b5, b6, b7, b8, b9⟩, ⟨s1, s2, s3, s4, s5, s6, s7, s8, s9, s10⟩, hi, ⟨j1, j2, j3, j4, j5, j6, j7⟩⟩ := h
  have hx : ∀ i, i < lcn (takeA a m) → ∃ i', i' < lcn a ∧ (∀ t, 11 ≤ t → t ≤ 15 → ∀ j k, takeA a m t i j k = a t i' j k) := by
    intro i hi
    have hi : i < lcn a - 1 := hi
    refine ⟨if i < m then i else i + 1, ?_, fun t h1 h2 j k => ?_⟩
    · by_cases q : i < m
      · rw [if_pos q]
        omega
      · rw [if_neg q]
        omega
    · rcases (show t = 11 ∨ t = 12 ∨ t = 13 ∨ t = 14 ∨ t = 15 by omega) with rfl | rfl | rfl | rfl | rfl
      · show (if i < m then a 11 i j k else a 11 (i + 1) j k) = _
        by_cases q : i < m
        · rw [if_pos q, if_pos q]
        · rw [if_neg q, if_neg q]
      · show (if i < m then a 12 i j k else a 12 (i + 1) j k) = _
        by_cases q : i < m
        · rw [if_pos q, if_pos q]
        · rw [if_neg q, if_neg q]
      · show (if i < m then a 13 i j k else a 13 (i + 1) j k) = _
        by_cases q : i < m
        · rw [if_pos q, if_pos q]
        · rw [if_neg q, if_neg q]
      · show (if i < m then a 14 i j k else a 14 (i + 1) j k) = _
        by_cases q : i < m
        · rw [if_pos q, if_pos q]
        · rw [if_neg q, if_neg q]
      · show (if i < m then a 15 i j k else a 15 (i + 1) j k) = _
        by_cases q : i < m
        · rw [if_pos q, if_pos q]
        · rw [if_neg q, if_neg q]
  have hdl : ∀ i i', (∀ t, 11 ≤ t → t ≤ 15 → ∀ j k, takeA a m t i j k = a t i' j k) → ¬ deadL (takeA a m) i → ¬ deadL a i' := by
    intro i i' he hn hd
    refine hn ?_
    obtain ⟨c, hc, z, z1, z2, z3⟩ := hd
    refine ⟨c, hc, z, ?_, z2, ?_⟩
    · show takeA a m 14 i c 0 ≤ z
      rw [he 14 (by decide) (by decide)]
      exact z1
    · show _ < takeA a m 15 i c 0
      rw [he 15 (by decide) (by decide)]
      exact z3
  refine ⟨⟨b1, b2, b3, b4, b5, Nat.le_trans (Nat.sub_le _ _) b6, b7, b8, b9⟩, ⟨s1, fun i hi => ?_, s3, fun i hi d hd => ?_, s5, s6, fun i hi => ?_, s8, s9, s10⟩, hi, ⟨fun i hi e he => ?_, fun i hi e he => ?_, fun i hi e h1 h2 => ?_, fun i hi hn e he => ?_, fun i hi hn e he f hf => ?_, j6, j7_of (a := a) (b := takeA a m) rfl j7⟩⟩
  · obtain ⟨i', q1, q2⟩ := hx i hi
    show takeA a m 13 i 0 0 < _
    rw [q2 13 (by decide) (by decide)]
    exact s2 i' q1
  · obtain ⟨i', q1, q2⟩ := hx i hi
    show takeA a m 14 i d 0 ≤ _ ∧ takeA a m 15 i d 0 ≤ _
    rw [q2 14 (by decide) (by decide), q2 15 (by decide) (by decide)]
    exact s4 i' q1 d hd
  · obtain ⟨i', q1, q2⟩ := hx i hi
    show takeA a m 11 i 0 0 < nA a ∧ takeA a m 12 i 0 0 < nA a
    rw [q2 11 (by decide) (by decide), q2 12 (by decide) (by decide)]
    exact s7 i' q1
  · obtain ⟨i', q1, q2⟩ := hx i hi
    show takeA a m 14 i e 0 ≤ life a e
    rw [q2 14 (by decide) (by decide)]
    exact j1 i' q1 e he
  · obtain ⟨i', q1, q2⟩ := hx i hi
    show 1 ≤ takeA a m 14 i e 0 → ends a e (takeA a m 14 i e 0 - 1) < takeA a m 15 i e 0
    rw [q2 14 (by decide) (by decide), q2 15 (by decide) (by decide)]
    exact j2 i' q1 e he
  · obtain ⟨i', q1, q2⟩ := hx i hi
    show takeA a m 14 i e 0 = 0 ∧ takeA a m 15 i e 0 = 0
    rw [q2 14 (by decide) (by decide), q2 15 (by decide) (by decide)]
    exact j3 i' q1 e h1 h2
  · obtain ⟨i', q1, q2⟩ := hx i hi
    show takeA a m 15 i e 0 ≤ now a e
    rw [q2 15 (by decide) (by decide)]
    exact j4 i' q1 (hdl i i' q2 hn) e he
  · obtain ⟨i', q1, q2⟩ := hx i hi
    show rsp a e (takeA a m 15 i e 0) f ≤ takeA a m 15 i f 0
    rw [q2 15 (by decide) (by decide), q2 15 (by decide) (by decide)]
    exact j5 i' q1 (hdl i i' q2 hn) e he f hf
theorem inv_send {a : AS} (h : Inv a) {c d : Nat} (hc : c < nA a) (hd : d < nA a) (hl : lcn a < 40) : Inv (sendA a c d) := by
  obtain ⟨⟨b1, b2, b3, b4, b5, b6, b7, b8, b9⟩, ⟨s1, s2, s3, s4, s5, s6, s7, s8, s9, s10⟩, hi, ⟨j1, j2, j3, j4, j5, j6, j7⟩⟩ := h
  have hc5 : c < 5 := Nat.lt_of_lt_of_le hc b1.2
  have nl := Nat.le_refl (now a c)
  have hdl : ∀ i, i ≠ lcn a → ¬ deadL (sendA a c d) i → ¬ deadL a i := by
    intro i hne hn hd
    refine hn ?_
    obtain ⟨z0, hz0, z, z1, z2, z3⟩ := hd
    refine ⟨z0, hz0, z, ?_, z2, ?_⟩
    · show (if i = lcn a then _ else a 14 i z0 0) ≤ z
      rw [if_neg hne]
      exact z1
    · show _ < (if i = lcn a then _ else a 15 i z0 0)
      rw [if_neg hne]
      exact z3
  refine ⟨⟨b1, b2, b3, b4, b5, hl, b7, b8, b9⟩, ⟨s1, fun m hm => ?_, s3, fun m hm e he => ?_, s5, s6, fun m hm => ?_, s8, s9, s10⟩, hi, ⟨fun m hm e he => ?_, fun m hm e he => ?_, fun m hm e h1 h2 => ?_, fun m hm hn e he => ?_, fun m hm hn e he f hf => ?_, j6, j7_of (a := a) (b := sendA a c d) rfl j7⟩⟩
  · have hm : m < lcn a + 1 := hm
    show (if m = lcn a then pgs a c (now a c) else a 13 m 0 0) < _
    by_cases q : m = lcn a
    · rw [if_pos q]
      exact s1 c hc5 _ nl
    · rw [if_neg q]
      exact s2 m (by omega)
  · have hm : m < lcn a + 1 := hm
    show (if m = lcn a then rsl a c (now a c) e else a 14 m e 0) ≤ _ ∧ (if m = lcn a then rsp a c (now a c) e else a 15 m e 0) ≤ _
    by_cases q : m = lcn a
    · rw [if_pos q, if_pos q]
      exact s3 c hc5 _ nl e he
    · rw [if_neg q, if_neg q]
      exact s4 m (by omega) e he
  · have hm : m < lcn a + 1 := hm
    show (if m = lcn a then d else a 11 m 0 0) < nA a ∧ (if m = lcn a then c else a 12 m 0 0) < nA a
    by_cases q : m = lcn a
    · rw [if_pos q, if_pos q]
      exact ⟨hd, hc⟩
    · rw [if_neg q, if_neg q]
      exact s7 m (by omega)
  · have hm : m < lcn a + 1 := hm
    show (if m = lcn a then rsl a c (now a c) e else a 14 m e 0) ≤ life a e
    by_cases q : m = lcn a
    · rw [if_pos q]
      exact hi.2.2.2.2.1 c hc _ nl e he
    · rw [if_neg q]
      exact j1 m (by omega) e he
  · have hm : m < lcn a + 1 := hm
    show 1 ≤ (if m = lcn a then rsl a c (now a c) e else a 14 m e 0) → ends a e ((if m = lcn a then rsl a c (now a c) e else a 14 m e 0) - 1) < (if m = lcn a then rsp a c (now a c) e else a 15 m e 0)
    by_cases q : m = lcn a
    · rw [if_pos q, if_pos q]
      exact hi.2.2.2.2.2.2.1 c hc _ nl e he
    · rw [if_neg q, if_neg q]
      exact j2 m (by omega) e he
  · have hm : m < lcn a + 1 := hm
    show (if m = lcn a then rsl a c (now a c) e else a 14 m e 0) = 0 ∧ (if m = lcn a then rsp a c (now a c) e else a 15 m e 0) = 0
    by_cases q : m = lcn a
    · rw [if_pos q, if_pos q]
      exact hi.2.2.2.2.2.2.2.2.2.2 c hc _ nl e h1 h2
    · rw [if_neg q, if_neg q]
      exact j3 m (by omega) e h1 h2
  · have hm : m < lcn a + 1 := hm
    show (if m = lcn a then rsp a c (now a c) e else a 15 m e 0) ≤ now a e
    by_cases q : m = lcn a
    · rw [if_pos q]
      exact hi.2.2.1 c hc _ nl e he
    · rw [if_neg q]
      exact j4 m (by omega) (hdl m q hn) e he
  · have hm : m < lcn a + 1 := hm
    show rsp a e (if m = lcn a then rsp a c (now a c) e else a 15 m e 0) f ≤ (if m = lcn a then rsp a c (now a c) f else a 15 m f 0)
    by_cases q : m = lcn a
    · rw [if_pos q, if_pos q]
      exact hi.2.2.2.1 c hc _ nl e he f hf
    · rw [if_neg q, if_neg q]
      exact j5 m (by omega) (hdl m q hn) e he f hf
