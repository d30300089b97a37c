-- THE CLASS: letters
theorem C4_fr {a b : AS} {σ t : St} (h : C4 a σ) (f : t.1 64 = σ.1 64) (r : ∀ j, (j = 26 ∨ j = 27 ∨ j = 43 ∨ j = 44 ∨ j = 45) → t.2 j = σ.2 j) (hb : ∀ u, 10 ≤ u → u ≤ 15 → b u = a u) : C4 b t := by
  unfold C4 lcn lto lby lsm lrl lrp
  rw [f, r 44 (by decide), r 43 (by decide), r 45 (by decide), r 26 (by decide), r 27 (by decide), hb 10 (by decide) (by decide), hb 11 (by decide) (by decide), hb 12 (by decide) (by decide), hb 13 (by decide) (by decide), hb 14 (by decide) (by decide), hb 15 (by decide) (by decide)]
  exact h
theorem C5_fr {a b : AS} {σ t : St} (h : C5 a σ) (f : t.1 96 = σ.1 96) (f2 : t.1 97 = σ.1 97) (r : ∀ j, 46 ≤ j → j ≤ 49 → t.2 j = σ.2 j) (hb : ∀ u, 16 ≤ u → u ≤ 21 → b u = a u) : C5 b t := by
  unfold C5 scn sck spg sst rcn rel
  rw [f, f2, r 46 (by decide) (by decide), r 47 (by decide) (by decide), r 48 (by decide) (by decide), r 49 (by decide) (by decide), hb 16 (by decide) (by decide), hb 17 (by decide) (by decide), hb 18 (by decide) (by decide), hb 19 (by decide) (by decide), hb 20 (by decide) (by decide), hb 21 (by decide) (by decide)]
  exact h
theorem C6_fr {a b : AS} {σ t : St} (h : C6 a σ) (f : ∀ j, (j = 1 ∨ j = 1888 ∨ j = 1889 ∨ j = 1890) → t.1 j = σ.1 j) (hb : ∀ u, 22 ≤ u → u ≤ 25 → b u = a u) : C6 b t := by
  unfold C6 gon bdn non fln
  rw [f 1 (by decide), f 1888 (by decide), f 1889 (by decide), f 1890 (by decide), hb 22 (by decide) (by decide), hb 23 (by decide) (by decide), hb 24 (by decide) (by decide), hb 25 (by decide) (by decide)]
  exact h
theorem C7_fr {a b : AS} {σ t : St} (h : C7 a σ) (f : t.1 1824 = σ.1 1824) (r : t.2 52 = σ.2 52) (hb : ∀ u, 26 ≤ u → u ≤ 27 → b u = a u) : C7 b t := by
  unfold C7 tln txt
  rw [f, r, hb 26 (by decide) (by decide), hb 27 (by decide) (by decide)]
  exact h
theorem C8_fr {a b : AS} {σ t : St} (h : C8 a σ) (f : t.1 1856 = σ.1 1856) (r : ∀ j, 53 ≤ j → j ≤ 55 → t.2 j = σ.2 j) (hb : ∀ u, 29 ≤ u → u ≤ 32 → b u = a u) : C8 b t := by
  unfold C8 ocn okd of1 of2
  rw [f, r 53 (by decide) (by decide), r 54 (by decide) (by decide), r 55 (by decide) (by decide), hb 29 (by decide) (by decide), hb 30 (by decide) (by decide), hb 31 (by decide) (by decide), hb 32 (by decide) (by decide)]
  exact h
/-- only letters have changed -/
theorem repC_let {a b : AS} {σ t : St} (h : RepC a σ) (F : ∀ j, j ≠ 64 → t.1 j = σ.1 j) (R : ∀ j, j ≠ 26 → j ≠ 27 → j ≠ 43 → j ≠ 44 → j ≠ 45 → t.2 j = σ.2 j) (hb : ∀ u, (u ≤ 9 ∨ 16 ≤ u) → b u = a u) (d4 : C4 b t) : RepC b t :=
  repC_oth h (fun j hj => F j (by omega)) (fun j h1 h2 h3 h4 => R j h3 h4 (by omega) (by omega) (by omega)) (fun u hu => hb u (by omega)) d4
    (C5_fr h.2.2.2.2.1 (F _ (by decide)) (F _ (by decide)) (fun j h1 h2 => R j (by omega) (by omega) (by omega) (by omega) (by omega)) (fun u h1 h2 => hb u (by omega)))
    (C6_fr h.2.2.2.2.2.1 (fun j hj => F j (by omega)) (fun u h1 h2 => hb u (by omega)))
    (C7_fr h.2.2.2.2.2.2.1 (F _ (by decide)) (R 52 (by decide) (by decide) (by decide) (by decide) (by decide)) (fun u h1 h2 => hb u (by omega)))
    (C8_fr h.2.2.2.2.2.2.2 (F _ (by decide)) (fun j h1 h2 => R j (by omega) (by omega) (by omega) (by omega) (by omega)) (fun u h1 h2 => hb u (by omega)))
theorem pC_send {a : AS} {σ : St} (hI : Inv a) (h : RepC a σ) {c d : Nat} (hc : c < nA a) {Φ : Int32 → St → Prop} (kk : ∀ b r t, SendR c d a b r → RepC b t → Φ r t) : wpX2_sendLetter (nI c) (nI d) σ Φ := by
  unfold wpX2_sendLetter wpX3_add
  have hn := hI.1.1
  have hc5 : c < 5 := by omega
  have hlc := hI.1.2.2.2.2.2.1
  have h23 := hI.1.2.1 c hc5
  obtain ⟨L1, L2, L3, L4, L5⟩ := ln_a hc5
  obtain ⟨P1, P2, P3, P4, P5⟩ := pl_a c
  obtain ⟨⟨g0, g1, g2, g3, g4⟩, e2, ⟨f1, f2, f3, f4⟩, ⟨m0, m1, m2, m3, m4, m5⟩, hrest⟩ := id h
  rw [m0]
  refine pk_lt (lcn a) 40 (fun q => ?_) (fun q => kk _ _ σ (Or.inl ⟨by omega, rfl, rfl⟩) h)
  have hcl : cLen 43 = 40 ∧ cLen 44 = 40 ∧ cLen 45 = 40 ∧ cLen (2 * 15 - 4) = 200 ∧ cLen (2 * 15 - 3) = 200 := by decide
  refine pC_clerk hc5 ?_
  rw [m0, show 5 + c - 5 = c by omega]
  refine pC_put (by rw [hcl.1]; exact q) ?_
  rw [show (w2 σ 43 (lcn a) (nI c)).1 64 = nI (lcn a) from m0]
  refine pC_put (by rw [hcl.2.1]; exact q) ?_
  unfold wpX0_sumNow
  rw [show (w2 (w2 σ 43 (lcn a) (nI c)) 44 (lcn a) (nI d)).1 (32 * (5 + c) + 2) = nI (now a c) from g2 c hc5]
  refine pC_at (by rw [L2]; omega) ?_
  rw [show (w2 (w2 σ 43 (lcn a) (nI c)) 44 (lcn a) (nI d)).1 64 = nI (lcn a) from m0]
  have es : (w2 (w2 σ 43 (lcn a) (nI c)) 44 (lcn a) (nI d)).2 (14 + 3 * (5 + c)) (now a c) = nI (pgs a c (now a c)) := by
    rw [P2, w2_ne _ _ _ (by omega), w2_ne _ _ _ (by omega)]
    exact f2 c hc5 _ (Nat.le_refl _)
  rw [es]
  refine pC_put (by rw [hcl.2.2.1]; exact q) ?_
  rw [show (w2 (w2 (w2 σ 43 (lcn a) (nI c)) 44 (lcn a) (nI d)) 45 (lcn a) (nI (pgs a c (now a c)))).1 (32 * (5 + c) + 2) = nI (now a c) from g2 c hc5, show (w2 (w2 (w2 σ 43 (lcn a) (nI c)) 44 (lcn a) (nI d)) 45 (lcn a) (nI (pgs a c (now a c)))).1 64 = nI (lcn a) from m0]
  refine pC_copyRow (by omega) (by omega) (fun z => absurd z (by omega)) (by rw [hcl.2.2.2.1]; omega) (by rw [hcl.2.2.2.2]; omega) (by rw [L4]; omega) (by rw [L5]; omega) (fun t6 h6 t7 e7 => ?_)
  rw [P4, P5] at h6
  obtain ⟨q1, q2, q3, q4⟩ := h6
  have e64 : t6.1 64 = nI (lcn a) := by rw [q1]; exact m0
  rw [e64, nI_1] at e7
  have e64' : t7.1 64 = nI (lcn a + 1) := by rw [e7]; rfl
  rw [e64']
  refine kk _ _ t7 (Or.inr ⟨q, rfl, rfl⟩) ?_
  have F : ∀ j, j ≠ 64 → t7.1 j = σ.1 j := by
    intro j hj
    rw [e7, setI_1, if_neg hj, q1]
    rfl
  have R : ∀ j, j ≠ 26 → j ≠ 27 → j ≠ 43 → j ≠ 44 → j ≠ 45 → t7.2 j = σ.2 j := by
    intro j h1 h2 h3 h4 h5
    rw [e7, setI_2, q2 j h1 h2, w2_ne _ _ _ h5, w2_ne _ _ _ h4, w2_ne _ _ _ h3]
  refine repC_let h F R (fun u hu => ?_) ⟨e64', fun m hm => ?_, fun m hm => ?_, fun m hm => ?_, fun m hm e he => ?_, fun m hm e he => ?_⟩
  · unfold sendA
    rw [sT_ne (by omega), sT_ne (by omega), sT_ne (by omega), sT_ne (by omega), sT_ne (by omega), sT_ne (by omega)]
  · have hm : m < lcn a + 1 := hm
    show _ = nI (if m = lcn a then d else a 11 m 0 0)
    rw [e7, setI_2, q2 _ (by decide) (by decide), w2_ne _ _ _ (by decide), w2_at]
    by_cases e : m = lcn a
    · rw [if_pos e, if_pos e]
    · rw [if_neg e, if_neg e, w2_ne _ _ _ (by decide)]
      exact m1 m (by omega)
  · have hm : m < lcn a + 1 := hm
    show _ = nI (if m = lcn a then c else a 12 m 0 0)
    rw [e7, setI_2, q2 _ (by decide) (by decide), w2_ne _ _ _ (by decide), w2_ne _ _ _ (by decide), w2_at]
    by_cases e : m = lcn a
    · rw [if_pos e, if_pos e]
    · rw [if_neg e, if_neg e]
      exact m2 m (by omega)
  · have hm : m < lcn a + 1 := hm
    show _ = nI (if m = lcn a then pgs a c (now a c) else a 13 m 0 0)
    rw [e7, setI_2, q2 _ (by decide) (by decide), w2_at]
    by_cases e : m = lcn a
    · rw [if_pos e, if_pos e]
    · rw [if_neg e, if_neg e, w2_ne _ _ _ (by decide), w2_ne _ _ _ (by decide)]
      exact m3 m (by omega)
  · have hm : m < lcn a + 1 := hm
    show _ = nI (if m = lcn a then rsl a c (now a c) e else a 14 m e 0)
    rw [e7, setI_2]
    by_cases z : m = lcn a
    · rw [if_pos z, z]
      refine (q4 e he).1.trans ?_
      rw [w2_ne _ _ _ (by omega), w2_ne _ _ _ (by omega), w2_ne _ _ _ (by omega)]
      exact f3 c hc5 _ (Nat.le_refl _) e he
    · rw [if_neg z]
      refine (q3 (5 * m + e) (by omega)).1.trans ?_
      rw [w2_ne _ _ _ (by decide), w2_ne _ _ _ (by decide), w2_ne _ _ _ (by decide)]
      exact m4 m (by omega) e he
  · have hm : m < lcn a + 1 := hm
    show _ = nI (if m = lcn a then rsp a c (now a c) e else a 15 m e 0)
    rw [e7, setI_2]
    by_cases z : m = lcn a
    · rw [if_pos z, z]
      refine (q4 e he).2.trans ?_
      rw [w2_ne _ _ _ (by omega), w2_ne _ _ _ (by omega), w2_ne _ _ _ (by omega)]
      exact f4 c hc5 _ (Nat.le_refl _) e he
    · rw [if_neg z]
      refine (q3 (5 * m + e) (by omega)).2.trans ?_
      rw [w2_ne _ _ _ (by decide), w2_ne _ _ _ (by decide), w2_ne _ _ _ (by decide)]
      exact m5 m (by omega) e he
theorem lC_find {a : AS} {σ : St} (h : RepC a σ) (hI : Inv a) {d k : Nat} (hd : d < 2 ^ 31) (hk : k < 2 ^ 31) {Φ : Int32 → St → Prop} (k1 : ∀ m, isNth a d k m → Φ (nI m) σ) (k2 : (∀ m, ¬ isNth a d k m) → Φ (-1) σ) :
    ∀ (N i : Nat), i ≤ lcn a → lcn a - i < N → (∀ m, m < i → ¬ isNth a d k m) → wlX3_find_5 Φ N (nI d) (nI k) (nI (cntTo a d i)) (nI i) σ := by
  have hlc := hI.1.2.2.2.2.2.1
  have hn := hI.1.1
  intro N
  induction N with
  | zero => intro i h1 h2; omega
  | succ N ih =>
    intro i hi hN hno
    show wlX3_find_5_body Φ (wlX3_find_5 Φ N) (nI d) (nI k) (nI (cntTo a d i)) (nI i) σ
    unfold wlX3_find_5_body wbX3_find_41
    rw [h.2.2.2.1.1]
    refine pk_le (lcn a) i (fun q => k2 (fun m hm => hno m (by have := hm.1; omega) hm)) (fun q => ?_)
    have hcl : cLen 44 = 40 := by decide
    have s1 := (hI.2.1.2.2.2.2.2.2.1 i q).1
    have hcn := cntTo_le a d i
    have es : cntTo a d (i + 1) = cntTo a d i + (if lto a i = d then 1 else 0) := rfl
    refine pC_at (by rw [hcl]; omega) ?_
    rw [h.2.2.2.1.2.1 i q]
    refine pk_eq (lto a i) d (fun z => pk_eq (cntTo a d i) k (fun z2 => k1 i ⟨q, z, z2⟩) (fun z2 y6 e6 y1 e1 => ?_)) (fun z y1 e1 => ?_)
    · rw [e6, e1, nI_1, nI_1]
      have := ih (i + 1) (by omega) (by omega) (fun m hm hx => ?_)
      · rw [es, if_pos z] at this
        exact this
      · by_cases e : m = i
        · subst e; exact z2 hx.2.2
        · exact hno m (by omega) hx
    · rw [e1, nI_1]
      have := ih (i + 1) (by omega) (by omega) (fun m hm hx => ?_)
      · rw [es, if_neg z] at this
        exact this
      · by_cases e : m = i
        · subst e; exact z hx.2.1
        · exact hno m (by omega) hx
theorem pC_find {a : AS} {σ : St} (h : RepC a σ) (hI : Inv a) {d k : Nat} (hd : d < 2 ^ 31) (hk : k < 2 ^ 31) {Φ : Int32 → St → Prop} (k1 : ∀ m, isNth a d k m → Φ (nI m) σ) (k2 : (∀ m, ¬ isNth a d k m) → Φ (-1) σ) : wpX3_find (nI d) (nI k) σ Φ := by
  unfold wpX3_find
  exact ⟨lcn a + 1, lC_find h hI hd hk k1 k2 (lcn a + 1) 0 (Nat.zero_le _) (by omega) (fun m hm => absurd hm (Nat.not_lt_zero m))⟩
theorem lC_countTo {a : AS} {σ : St} (h : RepC a σ) (hI : Inv a) {d : Nat} (hd : d < 2 ^ 31) {Φ : Int32 → St → Prop} (kk : Φ (nI (cntTo a d (lcn a))) σ) :
    ∀ (N i : Nat), i ≤ lcn a → lcn a - i < N → wlX3_countTo_4 Φ N (nI d) (nI (cntTo a d i)) (nI i) σ := by
  have hlc := hI.1.2.2.2.2.2.1
  have hn := hI.1.1
  intro N
  induction N with
  | zero => intro i h1 h2; omega
  | succ N ih =>
    intro i hi hN
    show wlX3_countTo_4_body Φ (wlX3_countTo_4 Φ N) (nI d) (nI (cntTo a d i)) (nI i) σ
    unfold wlX3_countTo_4_body wbX3_countTo_27
    rw [h.2.2.2.1.1]
    refine pk_le (lcn a) i (fun q => ?_) (fun q => ?_)
    · have e : i = lcn a := by omega
      subst e
      exact kk
    have hcl : cLen 44 = 40 := by decide
    have s1 := (hI.2.1.2.2.2.2.2.2.1 i q).1
    have es : cntTo a d (i + 1) = cntTo a d i + (if lto a i = d then 1 else 0) := rfl
    have := ih (i + 1) (by omega) (by omega)
    refine pC_at (by rw [hcl]; omega) ?_
    rw [h.2.2.2.1.2.1 i q]
    refine pk_eq (lto a i) d (fun z y6 e6 y1 e1 => ?_) (fun z y1 e1 => ?_)
    · rw [e6, e1, nI_1, nI_1]
      rw [es, if_pos z] at this
      exact this
    · rw [e1, nI_1]
      rw [es, if_neg z] at this
      exact this
theorem pC_countTo {a : AS} {σ : St} (h : RepC a σ) (hI : Inv a) {d : Nat} (hd : d < 2 ^ 31) {Φ : Int32 → St → Prop} (kk : Φ (nI (cntTo a d (lcn a))) σ) : wpX3_countTo (nI d) σ Φ := by
  unfold wpX3_countTo
  exact ⟨lcn a + 1, lC_countTo h hI hd kk (lcn a + 1) 0 (Nat.zero_le _) (by omega)⟩
theorem lC_isDeadLetter {a : AS} {σ : St} (h : RepC a σ) (hI : Inv a) {m : Nat} (hm : m < lcn a) {Φ : Int32 → St → Prop} (kk : Φ (b01 (deadL a m)) σ) :
    ∀ (N i : Nat), i ≤ nA a → nA a - i < N → (∀ c, c < i → ¬ deadR a c (lrl a m c) (lrp a m c)) → wlX2_isDeadLetter_2 Φ N (nI m) (nI i) σ := by
  have hlc := hI.1.2.2.2.2.2.1
  have hn := hI.1.1
  intro N
  induction N with
  | zero => intro i h1 h2; omega
  | succ N ih =>
    intro i hi hN hno
    show wlX2_isDeadLetter_2_body Φ (wlX2_isDeadLetter_2 Φ N) (nI m) (nI i) σ
    unfold wlX2_isDeadLetter_2_body
    rw [h.1.1]
    refine pk_le (nA a) i (fun q => ?_) (fun q => ?_)
    · rw [b01_f] at kk
      · exact kk
      · rintro ⟨c, h1, h2⟩
        exact hno c (by omega) h2
    · have hcl : cLen (2 * 15 - 4) = 200 ∧ cLen (2 * 15 - 3) = 200 := by decide
      have s1 := hI.2.1.2.2.2.1 m hm i (by omega)
      have e26 : σ.2 (2 * 15 - 4) (5 * m + i) = nI (lrl a m i) := h.2.2.2.1.2.2.2.2.1 m hm i (by omega)
      have e27 : σ.2 (2 * 15 - 3) (5 * m + i) = nI (lrp a m i) := h.2.2.2.1.2.2.2.2.2 m hm i (by omega)
      refine pC_clerk (by omega) (pC_lifeOf (by rw [hcl.1]; omega) (pC_pageOf (by rw [hcl.2]; omega) ?_))
      rw [e26, e27]
      refine pC_isDeadRest h hI (by omega) (by omega) (by omega) (brB (fun z y11 e11 => ?_) (fun z => ?_))
      · rw [e11, nI_1]
        refine ih (i + 1) (by omega) (by omega) (fun c hc => ?_)
        by_cases e : c = i
        · subst e; exact z
        · exact hno c (by omega)
      · rw [b01_t ⟨i, q, z⟩] at kk
        exact kk
theorem pC_isDeadLetter {a : AS} {σ : St} (h : RepC a σ) (hI : Inv a) {m : Nat} (hm : m < lcn a) {Φ : Int32 → St → Prop} (kk : Φ (b01 (deadL a m)) σ) : wpX2_isDeadLetter (nI m) σ Φ := by
  unfold wpX2_isDeadLetter
  exact ⟨nA a + 1, lC_isDeadLetter h hI hm kk (nA a + 1) 0 (Nat.zero_le _) (by omega) (fun c hc => absurd hc (Nat.not_lt_zero c))⟩
/-- letters moved down, from m on, up to j -/
def ShC (σ t : St) (m j : Nat) : Prop := t.1 = σ.1 ∧ (∀ b, b ≠ 26 → b ≠ 27 → b ≠ 43 → b ≠ 44 → b ≠ 45 → t.2 b = σ.2 b) ∧ (∀ i, (t.2 43 i = if m ≤ i ∧ i + 1 < j then σ.2 43 (i + 1) else σ.2 43 i) ∧ (t.2 44 i = if m ≤ i ∧ i + 1 < j then σ.2 44 (i + 1) else σ.2 44 i) ∧ (t.2 45 i = if m ≤ i ∧ i + 1 < j then σ.2 45 (i + 1) else σ.2 45 i)) ∧ (∀ i e, e < 5 → (t.2 26 (5 * i + e) = if m ≤ i ∧ i + 1 < j then σ.2 26 (5 * (i + 1) + e) else σ.2 26 (5 * i + e)) ∧ (t.2 27 (5 * i + e) = if m ≤ i ∧ i + 1 < j then σ.2 27 (5 * (i + 1) + e) else σ.2 27 (5 * i + e)))
theorem shC_step {σ t : St} {m j : Nat} (hj : m + 1 ≤ j) (h : ShC σ t m j) {t2 : St} (h2 : CpR (w2 (w2 (w2 t 43 (j - 1) (t.2 43 j)) 44 (j - 1) (t.2 44 j)) 45 (j - 1) (t.2 45 j)) t2 26 27 26 27 j (j - 1) 5) : ShC σ t2 m (j + 1) := by
  obtain ⟨a1, a2, a3, a4⟩ := h
  obtain ⟨c1, c2, c3, c4⟩ := h2
  have v43 : t.2 43 j = σ.2 43 j := by rw [(a3 j).1, if_neg (by omega)]
  have v44 : t.2 44 j = σ.2 44 j := by rw [(a3 j).2.1, if_neg (by omega)]
  have v45 : t.2 45 j = σ.2 45 j := by rw [(a3 j).2.2, if_neg (by omega)]
  refine ⟨by rw [c1]; exact a1, fun b h1 h2 h3 h4 h5 => ?_, fun i => ⟨?_, ?_, ?_⟩, fun i e he => ?_⟩
  · rw [c2 b h1 h2, w2_ne _ _ _ h5, w2_ne _ _ _ h4, w2_ne _ _ _ h3]
    exact a2 b h1 h2 h3 h4 h5
  · rw [c2 43 (by decide) (by decide), w2_ne _ _ _ (by decide), w2_ne _ _ _ (by decide), w2_at, v43, (a3 i).1]
    by_cases z : i = j - 1
    · rw [if_pos z, if_pos (by omega), show i + 1 = j by omega]
    · rw [if_neg z]
      by_cases y : m ≤ i ∧ i + 1 < j
      · rw [if_pos y, if_pos (by omega)]
      · rw [if_neg y, if_neg (by omega)]
  · rw [c2 44 (by decide) (by decide), w2_ne _ _ _ (by decide), w2_at, v44, w2_ne _ _ _ (by decide), (a3 i).2.1]
    by_cases z : i = j - 1
    · rw [if_pos z, if_pos (by omega), show i + 1 = j by omega]
    · rw [if_neg z]
      by_cases y : m ≤ i ∧ i + 1 < j
      · rw [if_pos y, if_pos (by omega)]
      · rw [if_neg y, if_neg (by omega)]
  · rw [c2 45 (by decide) (by decide), w2_at, v45, w2_ne _ _ _ (by decide), w2_ne _ _ _ (by decide), (a3 i).2.2]
    by_cases z : i = j - 1
    · rw [if_pos z, if_pos (by omega), show i + 1 = j by omega]
    · rw [if_neg z]
      by_cases y : m ≤ i ∧ i + 1 < j
      · rw [if_pos y, if_pos (by omega)]
      · rw [if_neg y, if_neg (by omega)]
  · have w26 : ∀ x, (w2 (w2 (w2 t 43 (j - 1) (t.2 43 j)) 44 (j - 1) (t.2 44 j)) 45 (j - 1) (t.2 45 j)).2 26 x = t.2 26 x := fun x => by rw [w2_ne _ _ _ (by decide), w2_ne _ _ _ (by decide), w2_ne _ _ _ (by decide)]
    have w27 : ∀ x, (w2 (w2 (w2 t 43 (j - 1) (t.2 43 j)) 44 (j - 1) (t.2 44 j)) 45 (j - 1) (t.2 45 j)).2 27 x = t.2 27 x := fun x => by rw [w2_ne _ _ _ (by decide), w2_ne _ _ _ (by decide), w2_ne _ _ _ (by decide)]
    by_cases z : i = j - 1
    · have := c4 e he
      rw [w26, w27, (a4 j e he).1, (a4 j e he).2, if_neg (by omega), if_neg (by omega)] at this
      rw [z, if_pos (by omega), if_pos (by omega), show j - 1 + 1 = j by omega]
      exact this
    · have := c3 (5 * i + e) (by omega)
      rw [w26, w27, (a4 i e he).1, (a4 i e he).2] at this
      by_cases y : m ≤ i ∧ i + 1 < j
      · rw [if_pos y, if_pos y] at this
        rw [if_pos (by omega), if_pos (by omega)]
        exact this
      · rw [if_neg y, if_neg y] at this
        rw [if_neg (by omega), if_neg (by omega)]
        exact this
theorem lC_remove {σ : St} {m n : Nat} (hm : m < n) (hn : n ≤ 40) (hc : σ.1 64 = nI n) {Φ : St → Prop} (kk : ∀ t, ShC σ t m n → Φ (setI t 64 (nI (n - 1)))) :
    ∀ (N j : Nat) (t : St), m + 1 ≤ j → j ≤ n → n - j < N → ShC σ t m j → wlX3_remove_4 Φ N (nI j) t := by
  intro N
  induction N with
  | zero => intro j t h1 h2 h3; omega
  | succ N ih =>
    intro j t hj hjn hN h
    show wlX3_remove_4_body Φ (wlX3_remove_4 Φ N) (nI j) t
    unfold wlX3_remove_4_body
    have e64 : t.1 64 = nI n := by rw [h.1]; exact hc
    rw [e64]
    refine pk_le n j (fun q t2 e2 => ?_) (fun q => ?_)
    · have e : j = n := by omega
      subst e
      rw [nI_lit 1, subI (by omega)] at e2
      rw [e2]
      exact kk t h
    · have hcl : cLen 43 = 40 ∧ cLen 44 = 40 ∧ cLen 45 = 40 ∧ cLen (2 * 15 - 4) = 200 ∧ cLen (2 * 15 - 3) = 200 := by decide
      have ej : nI j - (1 : Int32) = nI (j - 1) := by rw [nI_lit 1, subI (by omega)]
      rw [ej]
      refine pC_at (by rw [hcl.1]; omega) (pC_put (by rw [hcl.1]; omega) (pC_at (by rw [hcl.2.1]; omega) (pC_put (by rw [hcl.2.1]; omega) (pC_at (by rw [hcl.2.2.1]; omega) (pC_put (by rw [hcl.2.2.1]; omega) (pC_copyRow (by decide) (by decide) (fun _ => by omega) (by rw [hcl.2.2.2.1]; omega) (by rw [hcl.2.2.2.2]; omega) (by rw [hcl.2.2.2.1]; omega) (by rw [hcl.2.2.2.2]; omega) (fun t2 h2 y13 e13 => ?_)))))))
      rw [w2_ne _ _ _ (by decide), w2_ne _ _ _ (by decide), w2_ne _ _ _ (by decide)] at h2
      rw [e13, nI_1]
      exact ih (j + 1) t2 (by omega) (by omega) (by omega) (shC_step hj h h2)
theorem pC_remove {a : AS} {σ : St} (h : RepC a σ) (hlc : lcn a ≤ 40) {m : Nat} (hm : m < lcn a) {Φ : St → Prop} (kk : ∀ t, RepC (takeA a m) t → Φ t) : wpX3_remove (nI m) σ Φ := by
  unfold wpX3_remove
  intro y1 e1
  rw [e1, nI_1]
  refine ⟨lcn a + 1, lC_remove hm hlc h.2.2.2.1.1 (fun t ht => kk _ ?_) (lcn a + 1) (m + 1) σ (Nat.le_refl _) hm (by omega) ⟨rfl, fun _ _ _ _ _ _ => rfl, fun i => ⟨by rw [if_neg (by omega)], by rw [if_neg (by omega)], by rw [if_neg (by omega)]⟩, fun i e he => ⟨by rw [if_neg (by omega)], by rw [if_neg (by omega)]⟩⟩⟩
  obtain ⟨m0, m1, m2, m3, m4, m5⟩ := h.2.2.2.1
  obtain ⟨a1, a2, a3, a4⟩ := ht
  have sh : ∀ (tag i j : Nat), shf m (a tag) i j 0 = if i < m then a tag i j 0 else a tag (i + 1) j 0 := fun tag i j => rfl
  refine repC_let h (fun j hj => ?_) a2 (fun u hu => ?_) ⟨rfl, fun i hi => ?_, fun i hi => ?_, fun i hi => ?_, fun i hi e he => ?_, fun i hi e he => ?_⟩
  · rw [setI_1, if_neg hj, a1]
  · unfold takeA
    rw [sT_ne (by omega), sT_ne (by omega), sT_ne (by omega), sT_ne (by omega), sT_ne (by omega), sT_ne (by omega)]
  · have hi : i < lcn a - 1 := hi
    show t.2 44 i = nI (shf m (a 11) i 0 0)
    rw [(a3 i).2.1, sh]
    by_cases z : i < m
    · rw [if_neg (by omega), if_pos z]
      exact m1 i (by omega)
    · rw [if_pos (by omega), if_neg z]
      exact m1 (i + 1) (by omega)
  · have hi : i < lcn a - 1 := hi
    show t.2 43 i = nI (shf m (a 12) i 0 0)
    rw [(a3 i).1, sh]
    by_cases z : i < m
    · rw [if_neg (by omega), if_pos z]
      exact m2 i (by omega)
    · rw [if_pos (by omega), if_neg z]
      exact m2 (i + 1) (by omega)
  · have hi : i < lcn a - 1 := hi
    show t.2 45 i = nI (shf m (a 13) i 0 0)
    rw [(a3 i).2.2, sh]
    by_cases z : i < m
    · rw [if_neg (by omega), if_pos z]
      exact m3 i (by omega)
    · rw [if_pos (by omega), if_neg z]
      exact m3 (i + 1) (by omega)
  · have hi : i < lcn a - 1 := hi
    show t.2 26 (5 * i + e) = nI (shf m (a 14) i e 0)
    rw [(a4 i e he).1, sh]
    by_cases z : i < m
    · rw [if_neg (by omega), if_pos z]
      exact m4 i (by omega) e he
    · rw [if_pos (by omega), if_neg z]
      exact m4 (i + 1) (by omega) e he
  · have hi : i < lcn a - 1 := hi
    show t.2 27 (5 * i + e) = nI (shf m (a 15) i e 0)
    rw [(a4 i e he).2, sh]
    by_cases z : i < m
    · rw [if_neg (by omega), if_pos z]
      exact m5 i (by omega) e he
    · rw [if_pos (by omega), if_neg z]
      exact m5 (i + 1) (by omega) e he
theorem pC_get {a : AS} {σ : St} (hI : Inv a) (h : RepC a σ) {d k : Nat} (hd : d < nA a) (hk : k < 2 ^ 31) {Φ : Int32 → St → Prop} (kk : ∀ b r t, GetR d k a b r → RepC b t → Φ r t) : wpX2_takeLetter (nI d) (nI k) σ Φ := by
  unfold wpX2_takeLetter
  have hn := hI.1.1
  have hlc := hI.1.2.2.2.2.2.1
  have h23 := hI.1.2.1 d (by omega)
  refine pC_find h hI (by omega) hk (fun m hm => ?_) (fun hm => ?_)
  · have hml := hm.1
    refine ⟨fun z => ?_, fun _ => ?_⟩
    · rw [neI1 (a := m) (by omega)] at z
      exact z.elim
    have s1 := hI.2.1.2.1 m hml
    have hcl : cLen 45 = 40 := by decide
    refine pC_isDeadLetter h hI hml (brB (fun z => ?_) (fun z => ?_))
    · refine pC_clerk (by omega) (pC_isFull h hI.1 (by omega) (brB (fun y => ?_) (fun y => ?_)))
      · unfold wbX2_takeLetter_44 wbX2_takeLetter_89
        rw [b01_f z]
        refine ⟨fun _ => pC_clerk (by omega) (pC_at (by rw [hcl]; omega) ?_), fun w => absurd rfl w⟩
        rw [h.2.2.2.1.2.2.2.1 m hml]
        refine pC_addPage h hI.1 hI.2.1 (by omega) (by omega) s1 (fun t ht => pC_clerk (by omega) (pC_restAlsoOn hI hd hml (by omega) ht (fun t2 ht2 => pC_remove ht2 hlc hml (fun t3 ht3 => ?_))))
        exact kk _ _ t3 (Or.inr ⟨m, hm, Or.inr (Or.inr ⟨z, by omega, rfl, rfl⟩)⟩) ht3
      · exact kk _ _ σ (Or.inr ⟨m, hm, Or.inr (Or.inl ⟨z, y, rfl, rfl⟩)⟩) h
    · unfold wbX2_takeLetter_44 wbX2_takeLetter_89
      rw [b01_t z]
      refine ⟨fun w => absurd w (by decide), fun _ => pC_remove h hlc hml (fun t ht => ?_)⟩
      exact kk _ _ t (Or.inr ⟨m, hm, Or.inl ⟨z, rfl, rfl⟩⟩) ht
  · exact ⟨fun _ => kk _ _ σ (Or.inl ⟨hm, rfl, rfl⟩) h, fun z => absurd rfl z⟩
theorem lC_sweeps {Φ : Int32 → St → Prop} : ∀ (i c : Nat) (a : AS) (σ : St) (x : Int32), Inv a → RepC a σ → i ≤ lcn a → x = nI i - 1 → (∀ t, RepC (swpA i a) t → Φ (nI (c + swpN i a)) t) → wlX2_sweepLetters_12 Φ (i + 1) (nI c) x σ := by
  intro i
  induction i with
  | zero =>
    intro c a σ x hI h hi ex kk
    show wlX2_sweepLetters_12_body Φ (wlX2_sweepLetters_12 Φ 0) (nI c) x σ
    unfold wlX2_sweepLetters_12_body
    rw [ex]
    exact ⟨fun _ => kk σ h, fun z => absurd (by decide) z⟩
  | succ i ih =>
    intro c a σ x hI h hi ex kk
    have hlc := hI.1.2.2.2.2.2.1
    show wlX2_sweepLetters_12_body Φ (wlX2_sweepLetters_12 Φ (i + 1)) (nI c) x σ
    unfold wlX2_sweepLetters_12_body wbX2_sweepLetters_35
    rw [nI_pred] at ex
    rw [ex]
    refine ⟨fun z => absurd z (nI_pos (by omega)), fun _ => ?_⟩
    refine pC_isDeadLetter h hI (by omega) (brB (fun q y ey => ?_) (fun q => ?_))
    · refine ih c a σ y hI h (by omega) (by rw [ey]; exact (Int32.sub_eq_add_neg _ _).symm) ?_
      rw [← (swpA_f q).1, ← (swpA_f q).2]
      exact kk
    · refine pC_remove h hlc (by omega) (fun μ' hμ' y6 e6 y ey => ?_)
      rw [e6, nI_1]
      refine ih (c + 1) (takeA a i) μ' y (inv_take hI (by omega)) hμ' (by show i ≤ lcn a - 1; omega) (by rw [ey]; exact (Int32.sub_eq_add_neg _ _).symm) ?_
      intro μ'' hμ''
      rw [← (swpA_t q).1] at hμ''
      have := kk μ'' hμ''
      rw [(swpA_t q).2, ← Nat.add_assoc] at this
      exact this
theorem pC_sweeps {a : AS} {σ : St} (hI : Inv a) (h : RepC a σ) {Φ : Int32 → St → Prop} (kk : ∀ t, RepC (swpA (lcn a) a) t → Φ (nI (swpN (lcn a) a)) t) : wpX2_sweepLetters σ Φ := by
  unfold wpX2_sweepLetters
  intro y ey
  refine ⟨lcn a + 1, ?_⟩
  rw [h.2.2.2.1.1] at ey
  refine lC_sweeps (lcn a) 0 a σ y hI h (Nat.le_refl _) ey ?_
  rw [Nat.zero_add]
  exact kk
