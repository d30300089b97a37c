/-- a new page keeps the invariant -/
theorem inv_page {a b : AS} (h : Inv a) {c K : Nat} (hc : c < nA a) (hK : K = now a c + 1) (hK23 : K ≤ 23) (ho : ∀ t, t ≠ 2 → t ≠ 6 → t ≠ 7 → t ≠ 8 → t ≠ 9 → b t = a t) (hnow : ∀ i, now b i = if i = c then K else now a i) (hpl : ∀ i, i < 5 → ∀ j, j ≤ now b i → pgl b i j ≤ 60) (hps : ∀ i, i < 5 → ∀ j, j ≤ now b i → pgs b i j < 1000003) (L P : Nat → Nat) (hrl : ∀ i j e, rsl b i j e = if i = c ∧ j = K then L e else rsl a i j e) (hrp : ∀ i j e, rsp b i j e = if i = c ∧ j = K then P e else rsp a i j e) (p1 : P c = K) (l1 : L c = life a c)
    (p2 : ∀ e, e < nA a → e ≠ c → rsp a c (now a c) e ≤ P e) (p3 : ∀ e, e < nA a → e ≠ c → P e ≤ now a e) (l2 : ∀ e, e < nA a → e ≠ c → L e ≤ life a e) (pa : ∀ e, e < nA a → e ≠ c → ∀ i, L e ≤ i → i < life a e → P e ≤ ends a e i) (p4 : ∀ e, e < nA a → e ≠ c → 1 ≤ L e → ends a e (L e - 1) < P e) (pt : ∀ e, e < nA a → e ≠ c → ∀ f, f < nA a → rsp a e (P e) f ≤ P f) (pz : ∀ e, nA a ≤ e → e < 5 → L e = 0 ∧ P e = 0) (pb : ∀ e, e < 5 → L e ≤ 60 ∧ P e ≤ 23) : Inv b := by
  obtain ⟨⟨b1, b2, b3, b4, b5, b6, b7, b8, b9⟩, ⟨s1, s2, s3, s4, s5, s6, s7, s8, s9, s10⟩, hi, ⟨j1, j2, j3, j4, j5, j6, j7⟩⟩ := h
  obtain ⟨i1, i2, i3, i4, i5, i6, i7, i8, i9, i10, i11⟩ := hi
  have o0 : b 0 = a 0 := ho 0 (by decide) (by decide) (by decide) (by decide) (by decide)
  have o1 : b 1 = a 1 := ho 1 (by decide) (by decide) (by decide) (by decide) (by decide)
  have o3 : b 3 = a 3 := ho 3 (by decide) (by decide) (by decide) (by decide) (by decide)
  have o4 : b 4 = a 4 := ho 4 (by decide) (by decide) (by decide) (by decide) (by decide)
  have o5 : b 5 = a 5 := ho 5 (by decide) (by decide) (by decide) (by decide) (by decide)
  have o10 : b 10 = a 10 := ho 10 (by decide) (by decide) (by decide) (by decide) (by decide)
  have o11 : b 11 = a 11 := ho 11 (by decide) (by decide) (by decide) (by decide) (by decide)
  have o12 : b 12 = a 12 := ho 12 (by decide) (by decide) (by decide) (by decide) (by decide)
  have o13 : b 13 = a 13 := ho 13 (by decide) (by decide) (by decide) (by decide) (by decide)
  have o14 : b 14 = a 14 := ho 14 (by decide) (by decide) (by decide) (by decide) (by decide)
  have o15 : b 15 = a 15 := ho 15 (by decide) (by decide) (by decide) (by decide) (by decide)
  have o16 : b 16 = a 16 := ho 16 (by decide) (by decide) (by decide) (by decide) (by decide)
  have o17 : b 17 = a 17 := ho 17 (by decide) (by decide) (by decide) (by decide) (by decide)
  have o18 : b 18 = a 18 := ho 18 (by decide) (by decide) (by decide) (by decide) (by decide)
  have o19 : b 19 = a 19 := ho 19 (by decide) (by decide) (by decide) (by decide) (by decide)
  have o20 : b 20 = a 20 := ho 20 (by decide) (by decide) (by decide) (by decide) (by decide)
  have o21 : b 21 = a 21 := ho 21 (by decide) (by decide) (by decide) (by decide) (by decide)
  have o26 : b 26 = a 26 := ho 26 (by decide) (by decide) (by decide) (by decide) (by decide)
  have o27 : b 27 = a 27 := ho 27 (by decide) (by decide) (by decide) (by decide) (by decide)
  have hc5 : c < 5 := Nat.lt_of_lt_of_le hc b1.2
  have hn : ∀ i, now a i ≤ now b i := by
    intro i
    rw [hnow]
    by_cases e : i = c
    · rw [if_pos e, e]
      omega
    · rw [if_neg e]
      exact Nat.le_refl _
  have old : ∀ i j, j ≤ now b i → ¬ (i = c ∧ j = K) → j ≤ now a i := by
    intro i j hj hne
    rw [hnow] at hj
    by_cases e : i = c
    · rw [if_pos e] at hj
      have : j ≠ K := fun q => hne ⟨e, q⟩
      rw [e]
      omega
    · rw [if_neg e] at hj
      exact hj
  have rp_old : ∀ i j e, j ≤ now a i → rsp b i j e = rsp a i j e := by
    intro i j e hj
    rw [hrp, if_neg]
    rintro ⟨q1, q2⟩
    rw [q1] at hj
    omega
  have rl_old : ∀ i j e, j ≤ now a i → rsl b i j e = rsl a i j e := by
    intro i j e hj
    rw [hrl, if_neg]
    rintro ⟨q1, q2⟩
    rw [q1] at hj
    omega
  have rp_new : ∀ e, rsp b c K e = P e := fun e => by rw [hrp, if_pos ⟨rfl, rfl⟩]
  have rl_new : ∀ e, rsl b c K e = L e := fun e => by rw [hrl, if_pos ⟨rfl, rfl⟩]
  refine ⟨⟨?_, ?_, ?_, ?_, ?_, ?_, ?_, ?_, ?_⟩, ⟨hps, ?_, ?_, ?_, ?_, hpl, ?_, ?_, ?_, ?_⟩, ⟨?_, ?_, ?_, ?_, ?_, ?_, ?_, ?_, ?_, ?_, ?_⟩, ⟨?_, ?_, ?_, ?_, ?_, ?_, ?_⟩⟩
  · unfold nA; rw [o0]; exact b1
  · intro i hi'
    rw [hnow]
    by_cases e : i = c
    · rw [if_pos e]; exact hK23
    · rw [if_neg e]; exact b2 i hi'
  · intro i hi'
    show b 3 i 0 0 ≤ _
    rw [o3]
    exact Nat.le_trans (b3 i hi') (hn i)
  · intro i hi'
    show b 4 i 0 0 ≤ _
    rw [o4]
    exact Nat.le_trans (b4 i hi') (hn i)
  · unfold life; rw [o1]; exact b5
  · unfold lcn; rw [o10]; exact b6
  · unfold scn; rw [o16]; exact b7
  · unfold rcn scn; rw [o20, o16]; exact b8
  · unfold tln; rw [o26]; exact b9
  · unfold lcn lsm; rw [o10, o13]; exact s2
  · intro i hi' j hj d hd
    by_cases e : i = c ∧ j = K
    · rw [e.1, e.2, rl_new, rp_new]
      exact pb d hd
    · have hj2 := old i j hj e
      rw [rl_old i j d hj2, rp_old i j d hj2]
      exact s3 i hi' j hj2 d hd
  · unfold lcn lrl lrp; rw [o10, o14, o15]; exact s4
  · unfold life ends; rw [o1, o5]; exact s5
  · unfold lcn lto lby nA; rw [o10, o11, o12, o0]; exact s7
  · unfold scn sck spg sst nA; rw [o16, o17, o18, o19, o0]; exact s8
  · unfold rcn rel scn; rw [o20, o21, o16]; exact s9
  · unfold tln txt; rw [o26, o27]; exact s10
  · intro d hd k hk
    have hd : d < nA a := by unfold nA at hd; rw [o0] at hd; exact hd
    by_cases e : d = c ∧ k = K
    · rw [e.1, e.2, rp_new, p1]
    · have hk2 := old d k hk e
      rw [rp_old d k d hk2]
      exact i1 d hd k hk2
  · intro d hd k hk e he
    have hd : d < nA a := by unfold nA at hd; rw [o0] at hd; exact hd
    have he : e < nA a := by unfold nA at he; rw [o0] at he; exact he
    have hk2 : k ≤ now a d := by
      rw [hnow] at hk
      by_cases q : d = c
      · rw [if_pos q] at hk
        rw [q]
        omega
      · rw [if_neg q] at hk
        omega
    rw [rp_old d k e hk2]
    by_cases q : d = c ∧ k + 1 = K
    · have hk3 : k = now a c := by omega
      rw [q.1, q.2, rp_new, hk3]
      by_cases q2 : e = c
      · rw [q2, p1, i1 c hc _ (Nat.le_refl _)]
        omega
      · exact p2 e he q2
    · have hk3 := old d (k + 1) (by omega) q
      rw [rp_old d (k + 1) e hk3]
      exact i2 d hd k (by omega) e he
  · intro d hd k hk e he
    have hd : d < nA a := by unfold nA at hd; rw [o0] at hd; exact hd
    have he : e < nA a := by unfold nA at he; rw [o0] at he; exact he
    by_cases q : d = c ∧ k = K
    · rw [q.1, q.2, rp_new]
      by_cases q2 : e = c
      · rw [q2, p1, hnow, if_pos rfl]
        exact Nat.le_refl _
      · exact Nat.le_trans (p3 e he q2) (hn e)
    · have hk2 := old d k hk q
      rw [rp_old d k e hk2]
      exact Nat.le_trans (i3 d hd k hk2 e he) (hn e)
  · intro d hd k hk e he f hf
    have hd : d < nA a := by unfold nA at hd; rw [o0] at hd; exact hd
    have he : e < nA a := by unfold nA at he; rw [o0] at he; exact he
    have hf : f < nA a := by unfold nA at hf; rw [o0] at hf; exact hf
    by_cases q : d = c ∧ k = K
    · rw [q.1, q.2, rp_new, rp_new]
      by_cases q2 : e = c
      · rw [q2, p1, rp_new]
        exact Nat.le_refl _
      · rw [rp_old e (P e) f (p3 e he q2)]
        exact pt e he q2 f hf
    · have hk2 := old d k hk q
      rw [rp_old d k e hk2, rp_old d k f hk2, rp_old e _ f (i3 d hd k hk2 e he)]
      exact i4 d hd k hk2 e he f hf
  · intro d hd k hk e he
    have hd : d < nA a := by unfold nA at hd; rw [o0] at hd; exact hd
    have he : e < nA a := by unfold nA at he; rw [o0] at he; exact he
    show _ ≤ b 1 e 0 0
    rw [o1]
    by_cases q : d = c ∧ k = K
    · rw [q.1, q.2, rl_new]
      by_cases q2 : e = c
      · rw [q2, l1]
        exact Nat.le_refl _
      · exact l2 e he q2
    · have hk2 := old d k hk q
      rw [rl_old d k e hk2]
      exact i5 d hd k hk2 e he
  · intro d hd k hk e he i h1 h2
    have hd : d < nA a := by unfold nA at hd; rw [o0] at hd; exact hd
    have he : e < nA a := by unfold nA at he; rw [o0] at he; exact he
    have h2 : i < life a e := by
      have h2 : i < b 1 e 0 0 := h2
      rw [o1] at h2
      exact h2
    show _ ≤ b 5 e i 0
    rw [o5]
    by_cases q : d = c ∧ k = K
    · rw [q.1, q.2, rp_new]
      rw [q.1, q.2, rl_new] at h1
      by_cases q2 : e = c
      · rw [q2, l1] at h1
        rw [q2] at h2
        omega
      · exact pa e he q2 i h1 h2
    · have hk2 := old d k hk q
      rw [rp_old d k e hk2]
      rw [rl_old d k e hk2] at h1
      exact i6 d hd k hk2 e he i h1 h2
  · intro d hd k hk e he h1
    have hd : d < nA a := by unfold nA at hd; rw [o0] at hd; exact hd
    have he : e < nA a := by unfold nA at he; rw [o0] at he; exact he
    show b 5 e (rsl b d k e - 1) 0 < _
    rw [o5]
    by_cases q : d = c ∧ k = K
    · rw [q.1, q.2, rl_new, rp_new]
      rw [q.1, q.2, rl_new] at h1
      by_cases q2 : e = c
      · rw [q2, l1, p1]
        rw [q2, l1] at h1
        have := i8 c hc h1
        have this : a 5 c (life a c - 1) 0 ≤ now a c := this
        omega
      · exact p4 e he q2 h1
    · have hk2 := old d k hk q
      rw [rl_old d k e hk2, rp_old d k e hk2]
      rw [rl_old d k e hk2] at h1
      exact i7 d hd k hk2 e he h1
  · intro e he h1
    have he : e < nA a := by unfold nA at he; rw [o0] at he; exact he
    have h1 : 1 ≤ life a e := by
      have h1 : 1 ≤ b 1 e 0 0 := h1
      rw [o1] at h1
      exact h1
    show b 5 e (b 1 e 0 0 - 1) 0 ≤ _
    rw [o5, o1]
    exact Nat.le_trans (i8 e he h1) (hn e)
  · intro d hd k hk e he
    have hd : d < nA a := by unfold nA at hd; rw [o0] at hd; exact hd
    have he : e < nA a := by unfold nA at he; rw [o0] at he; exact he
    have hk : k ≤ frm a d := by
      have hk : k ≤ b 4 d 0 0 := hk
      rw [o4] at hk
      exact hk
    have := b4 d (Nat.lt_of_lt_of_le hd b1.2)
    rw [rp_old d k e (by omega)]
    show _ ≤ b 3 e 0 0
    rw [o3]
    exact i9 d hd k hk e he
  · intro d hd e he
    have hd : d < nA a := by unfold nA at hd; rw [o0] at hd; exact hd
    have he : e < nA a := by unfold nA at he; rw [o0] at he; exact he
    rw [rp_old d 0 e (Nat.zero_le _)]
    exact i10 d hd e he
  · intro d hd k hk e h1 h2
    have hd : d < nA a := by unfold nA at hd; rw [o0] at hd; exact hd
    have h1 : nA a ≤ e := by unfold nA at h1; rw [o0] at h1; exact h1
    by_cases q : d = c ∧ k = K
    · rw [q.1, q.2, rl_new, rp_new]
      exact pz e h1 h2
    · have hk2 := old d k hk q
      rw [rl_old d k e hk2, rp_old d k e hk2]
      exact i11 d hd k hk2 e h1 h2
  · unfold lcn nA lrl life; rw [o10, o0, o14, o1]; exact j1
  · unfold lcn nA lrl ends lrp; rw [o10, o0, o14, o5, o15]; exact j2
  · unfold lcn nA lrl lrp; rw [o10, o0, o14, o15]; exact j3
  · intro m hm hn2 e he
    have he : e < nA a := by unfold nA at he; rw [o0] at he; exact he
    have hm : m < lcn a := by unfold lcn at hm; rw [o10] at hm; exact hm
    have hn3 : ¬ deadL a m := by unfold deadL deadR nA life ends lrl lrp at hn2; rw [o0, o1, o5, o14, o15] at hn2; exact hn2
    show b 15 m e 0 ≤ _
    rw [o15]
    exact Nat.le_trans (j4 m hm hn3 e he) (hn e)
  · intro m hm hn2 e he f hf
    have he : e < nA a := by unfold nA at he; rw [o0] at he; exact he
    have hf : f < nA a := by unfold nA at hf; rw [o0] at hf; exact hf
    have hm : m < lcn a := by unfold lcn at hm; rw [o10] at hm; exact hm
    have hn3 : ¬ deadL a m := by unfold deadL deadR nA life ends lrl lrp at hn2; rw [o0, o1, o5, o14, o15] at hn2; exact hn2
    show rsp b e (b 15 m e 0) f ≤ b 15 m f 0
    rw [o15, rp_old e _ f (j4 m hm hn3 e he)]
    exact j5 m hm hn3 e he f hf
  · intro k hk h1
    have hk : k < scn a := by unfold scn at hk; rw [o16] at hk; exact hk
    have h1 : sst a k = 0 := by
      have h1 : b 19 k 0 0 = 0 := h1
      rw [o19] at h1
      exact h1
    show b 18 k 0 0 ≤ now b (b 17 k 0 0)
    rw [o18, o17]
    exact Nat.le_trans (j6 k hk h1) (hn _)
  · unfold rcn scn
    rw [o20, o16]
    exact j7_of o19 j7
theorem inv_add {a : AS} (h : Inv a) {c x : Nat} (hc : c < nA a) (hn : now a c < 23) : Inv (addA a c x) := by
  obtain ⟨hb, hs, hi, hj⟩ := id h
  have hc5 : c < 5 := Nat.lt_of_lt_of_le hc hb.1.2
  have nl := Nat.le_refl (now a c)
  have hnow : ∀ i, now (addA a c x) i = if i = c then now a c + 1 else now a i := fun i => rfl
  refine inv_page h hc rfl (by omega) (fun t t2 t6 t7 t8 t9 => ?_) hnow (fun i hi' j hj' => ?_) (fun i hi' j hj' => ?_) (fun e => if e = c then life a c else rsl a c (now a c) e) (fun e => if e = c then now a c + 1 else rsp a c (now a c) e) (fun _ _ _ => rfl) (fun _ _ _ => rfl) (if_pos rfl) (if_pos rfl) (fun e he q => ?_) (fun e he q => ?_) (fun e he q => ?_) (fun e he q => ?_) (fun e he q => ?_) (fun e he q f hf => ?_) (fun e h1 h2 => ?_) (fun e he => ?_)
  · unfold addA sT
    rw [if_neg t9, if_neg t8, if_neg t7, if_neg t6, if_neg t2]
  · show (if i = c ∧ j = now a c + 1 then life a c else a 6 i j 0) ≤ 60
    by_cases q : i = c ∧ j = now a c + 1
    · rw [if_pos q]
      exact hb.2.2.2.2.1 c hc5
    · rw [if_neg q]
      refine hs.2.2.2.2.2.1 i hi' j ?_
      rw [hnow] at hj'
      by_cases q2 : i = c
      · rw [if_pos q2] at hj'
        have : j ≠ now a c + 1 := fun z => q ⟨q2, z⟩
        rw [q2]
        omega
      · rw [if_neg q2] at hj'
        exact hj'
  · show (if i = c ∧ j = now a c + 1 then (3 * pgs a c (now a c) + x) % 1000003 else a 7 i j 0) < 1000003
    by_cases q : i = c ∧ j = now a c + 1
    · rw [if_pos q]
      exact Nat.mod_lt _ (by decide)
    · rw [if_neg q]
      refine hs.1 i hi' j ?_
      rw [hnow] at hj'
      by_cases q2 : i = c
      · rw [if_pos q2] at hj'
        have : j ≠ now a c + 1 := fun z => q ⟨q2, z⟩
        rw [q2]
        omega
      · rw [if_neg q2] at hj'
        exact hj'
  · rw [if_neg q]
    exact Nat.le_refl _
  · rw [if_neg q]
    exact hi.2.2.1 c hc _ nl e he
  · rw [if_neg q]
    exact hi.2.2.2.2.1 c hc _ nl e he
  · rw [if_neg q, if_neg q]
    exact hi.2.2.2.2.2.1 c hc _ nl e he
  · rw [if_neg q, if_neg q]
    exact hi.2.2.2.2.2.2.1 c hc _ nl e he
  · rw [if_neg q]
    have ht := hi.2.2.2.1 c hc _ nl e he f hf
    by_cases q2 : f = c
    · rw [if_pos q2]
      rw [q2, hi.1 c hc _ nl] at ht
      rw [q2]
      omega
    · rw [if_neg q2]
      exact ht
  · rw [if_neg (by omega), if_neg (by omega)]
    exact hi.2.2.2.2.2.2.2.2.2.2 c hc _ nl e h1 h2
  · have := hs.2.2.1 c hc5 _ nl e he
    by_cases q : e = c
    · rw [if_pos q, if_pos q]
      exact ⟨hb.2.2.2.2.1 c hc5, by omega⟩
    · rw [if_neg q, if_neg q]
      exact this
theorem inv_come {a : AS} (h : Inv a) {d m : Nat} (hd : d < nA a) (hm : m < lcn a) (hdead : ¬ deadL a m) (hn : now a d < 23) : Inv (comeB a d m (nA a)) := by
  obtain ⟨hb, hs, hi, hj⟩ := id h
  have hd5 : d < 5 := Nat.lt_of_lt_of_le hd hb.1.2
  have nl := Nat.le_refl (now a d)
  have alive : ∀ e, e < nA a → ∀ i, lrl a m e ≤ i → i < life a e → lrp a m e ≤ ends a e i := fun e he i h1 h2 => by
    rcases Nat.lt_or_ge (ends a e i) (lrp a m e) with q | q
    · exact absurd ⟨e, he, i, h1, h2, q⟩ hdead
    · exact q
  have gt : ∀ e, e < nA a → later (lrl a m e) (lrp a m e) (rsl a d (now a d) e) (rsp a d (now a d) e) → rsp a d (now a d) e ≤ lrp a m e := by
    intro e he q
    rcases q with q | q
    · have h1 := hi.2.2.2.2.2.1 d hd _ nl e he (lrl a m e - 1) (by omega) (by have := hj.1 m hm e he; omega)
      have h2 := hj.2.1 m hm e he (by omega)
      omega
    · omega
  have le : ∀ e, e < nA a → ¬ later (lrl a m e) (lrp a m e) (rsl a d (now a d) e) (rsp a d (now a d) e) → lrp a m e ≤ rsp a d (now a d) e := by
    intro e he q
    have q1 : ¬ rsl a d (now a d) e < lrl a m e := fun z => q (Or.inl z)
    by_cases q2 : lrl a m e = rsl a d (now a d) e
    · have q3 : ¬ rsp a d (now a d) e < lrp a m e := fun z => q (Or.inr ⟨q2, z⟩)
      omega
    · have h1 := alive e he (rsl a d (now a d) e - 1) (by omega) (by have := hi.2.2.2.2.1 d hd _ nl e he; omega)
      have h2 := hi.2.2.2.2.2.2.1 d hd _ nl e he (by omega)
      omega
  have hnow : ∀ i, now (comeB a d m (nA a)) i = if i = d then now a d + 1 else now a i := fun i => rfl
  have rl : ∀ i j e, rsl (comeB a d m (nA a)) i j e = if i = d ∧ j = now a d + 1 then (@ite Nat (e < nA a ∧ e ≠ d ∧ later (lrl a m e) (lrp a m e) (rsl a d (now a d) e) (rsp a d (now a d) e)) (Classical.propDecidable _) (lrl a m e) (if e = d then life a d else rsl a d (now a d) e)) else rsl a i j e := by
    intro i j e
    show (comeB a d m (nA a)) 8 i j e = _
    have e8 : (addA a d (lsm a m)) 8 i j e = if i = d ∧ j = now a d + 1 then (if e = d then life a d else rsl a d (now a d) e) else a 8 i j e := rfl
    rw [comeB_8, e8]
    by_cases q : i = d ∧ j = now a d + 1
    · rw [if_pos q, if_pos q]
      by_cases z : e < nA a ∧ e ≠ d ∧ later (lrl a m e) (lrp a m e) (rsl a d (now a d) e) (rsp a d (now a d) e)
      · rw [if_pos z, if_pos ⟨q.1, q.2, z⟩]
      · rw [if_neg z, if_neg (fun y => z y.2.2)]
    · rw [if_neg q, if_neg q, if_neg (fun y => q ⟨y.1, y.2.1⟩)]
  have rp : ∀ i j e, rsp (comeB a d m (nA a)) i j e = if i = d ∧ j = now a d + 1 then (@ite Nat (e < nA a ∧ e ≠ d ∧ later (lrl a m e) (lrp a m e) (rsl a d (now a d) e) (rsp a d (now a d) e)) (Classical.propDecidable _) (lrp a m e) (if e = d then now a d + 1 else rsp a d (now a d) e)) else rsp a i j e := by
    intro i j e
    show (comeB a d m (nA a)) 9 i j e = _
    have e9 : (addA a d (lsm a m)) 9 i j e = if i = d ∧ j = now a d + 1 then (if e = d then now a d + 1 else rsp a d (now a d) e) else a 9 i j e := rfl
    rw [comeB_9, e9]
    by_cases q : i = d ∧ j = now a d + 1
    · rw [if_pos q, if_pos q]
      by_cases z : e < nA a ∧ e ≠ d ∧ later (lrl a m e) (lrp a m e) (rsl a d (now a d) e) (rsp a d (now a d) e)
      · rw [if_pos z, if_pos ⟨q.1, q.2, z⟩]
      · rw [if_neg z, if_neg (fun y => z y.2.2)]
    · rw [if_neg q, if_neg q, if_neg (fun y => q ⟨y.1, y.2.1⟩)]
  have ha := inv_add (x := lsm a m) h hd hn
  -- the new rests, by cases
  obtain ⟨L, hL⟩ : ∃ L : Nat → Nat, L = fun e => (@ite Nat (e < nA a ∧ e ≠ d ∧ later (lrl a m e) (lrp a m e) (rsl a d (now a d) e) (rsp a d (now a d) e)) (Classical.propDecidable _) (lrl a m e) (if e = d then life a d else rsl a d (now a d) e)) := ⟨_, rfl⟩
  obtain ⟨P, hP⟩ : ∃ P : Nat → Nat, P = fun e => (@ite Nat (e < nA a ∧ e ≠ d ∧ later (lrl a m e) (lrp a m e) (rsl a d (now a d) e) (rsp a d (now a d) e)) (Classical.propDecidable _) (lrp a m e) (if e = d then now a d + 1 else rsp a d (now a d) e)) := ⟨_, rfl⟩
  have cs : ∀ e, e < nA a → e ≠ d → (later (lrl a m e) (lrp a m e) (rsl a d (now a d) e) (rsp a d (now a d) e) ∧ L e = lrl a m e ∧ P e = lrp a m e) ∨ (¬ later (lrl a m e) (lrp a m e) (rsl a d (now a d) e) (rsp a d (now a d) e) ∧ L e = rsl a d (now a d) e ∧ P e = rsp a d (now a d) e) := by
    intro e he q
    rw [hL, hP]
    dsimp only
    by_cases z : later (lrl a m e) (lrp a m e) (rsl a d (now a d) e) (rsp a d (now a d) e)
    · rw [if_pos ⟨he, q, z⟩, if_pos ⟨he, q, z⟩]
      exact Or.inl ⟨z, rfl, rfl⟩
    · rw [if_neg (fun y => z y.2.2), if_neg q, if_neg (fun y => z y.2.2), if_neg q]
      exact Or.inr ⟨z, rfl, rfl⟩
  have own : L d = life a d ∧ P d = now a d + 1 := by
    rw [hL, hP]
    dsimp only
    rw [if_neg (fun y => y.2.1 rfl), if_pos rfl, if_neg (fun y => y.2.1 rfl), if_pos rfl]
    exact ⟨rfl, rfl⟩
  have big : ∀ e, nA a ≤ e → L e = rsl a d (now a d) e ∧ P e = rsp a d (now a d) e := by
    intro e q
    rw [hL, hP]
    dsimp only
    rw [if_neg (fun y => by have := y.1; omega), if_neg (show ¬ e = d by omega), if_neg (fun y => by have := y.1; omega), if_neg (show ¬ e = d by omega)]
    exact ⟨rfl, rfl⟩
  have mx : ∀ e, e < nA a → rsp a d (now a d) e ≤ P e ∧ lrp a m e ≤ P e := by
    intro e he
    by_cases q : e = d
    · rw [q, own.2, hi.1 d hd _ nl]
      have := hj.2.2.2.1 m hm hdead d hd
      omega
    · rcases cs e he q with ⟨z, -, z2⟩ | ⟨z, -, z2⟩
      · rw [z2]
        exact ⟨gt e he z, Nat.le_refl _⟩
      · rw [z2]
        exact ⟨Nat.le_refl _, le e he z⟩
  refine inv_page h hd rfl (by omega) (fun t t2 t6 t7 t8 t9 => ?_) hnow ha.2.1.2.2.2.2.2.1 ha.2.1.1 L P (fun i j e => by rw [rl, hL]) (fun i j e => by rw [rp, hP]) own.2 own.1 (fun e he q => (mx e he).1) (fun e he q => ?_) (fun e he q => ?_) (fun e he q i h1 h2 => ?_) (fun e he q => ?_) (fun e he q f hf => ?_) (fun e h1 h2 => ?_) (fun e he => ?_)
  · show (if t = 9 then _ else (if t = 8 then _ else (addA a d (lsm a m)) t)) = a t
    rw [if_neg t9, if_neg t8]
    unfold addA sT
    rw [if_neg t9, if_neg t8, if_neg t7, if_neg t6, if_neg t2]
  · rcases cs e he q with ⟨-, -, z⟩ | ⟨-, -, z⟩
    · rw [z]
      exact hj.2.2.2.1 m hm hdead e he
    · rw [z]
      exact hi.2.2.1 d hd _ nl e he
  · rcases cs e he q with ⟨-, z, -⟩ | ⟨-, z, -⟩
    · rw [z]
      exact hj.1 m hm e he
    · rw [z]
      exact hi.2.2.2.2.1 d hd _ nl e he
  · rcases cs e he q with ⟨-, z1, z⟩ | ⟨-, z1, z⟩
    · rw [z]
      rw [z1] at h1
      exact alive e he i h1 h2
    · rw [z]
      rw [z1] at h1
      exact hi.2.2.2.2.2.1 d hd _ nl e he i h1 h2
  · rcases cs e he q with ⟨-, z1, z⟩ | ⟨-, z1, z⟩
    · rw [z, z1]
      exact hj.2.1 m hm e he
    · rw [z, z1]
      exact hi.2.2.2.2.2.2.1 d hd _ nl e he
  · rcases cs e he q with ⟨-, -, z⟩ | ⟨-, -, z⟩
    · rw [z]
      exact Nat.le_trans (hj.2.2.2.2.1 m hm hdead e he f hf) (mx f hf).2
    · rw [z]
      exact Nat.le_trans (hi.2.2.2.1 d hd _ nl e he f hf) (mx f hf).1
  · rw [(big e h1).1, (big e h1).2]
    exact hi.2.2.2.2.2.2.2.2.2.2 d hd _ nl e h1 h2
  · by_cases q0 : nA a ≤ e
    · rw [(big e q0).1, (big e q0).2]
      exact hs.2.2.1 d hd5 _ nl e he
    · by_cases q : e = d
      · rw [q, own.1, own.2]
        exact ⟨hb.2.2.2.2.1 d hd5, by omega⟩
      · rcases cs e (by omega) q with ⟨-, z1, z⟩ | ⟨-, z1, z⟩
        · rw [z, z1]
          exact hs.2.2.2.1 m hm e he
        · rw [z, z1]
          exact hs.2.2.1 d hd5 _ nl e he
